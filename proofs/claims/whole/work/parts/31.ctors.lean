theorem d_X4_init_0 : decode cX4_init 0 = .ok (.aload_n 0, 1) := by decide +kernel
theorem d_X4_init_1 : decode cX4_init 1 = .ok (.invokespecial 3, 3) := by decide +kernel
theorem d_X4_init_4 : decode cX4_init 4 = .ok (.aload_n 0, 1) := by decide +kernel
theorem d_X4_init_5 : decode cX4_init 5 = .ok (.iconst 2, 1) := by decide +kernel
theorem d_X4_init_6 : decode cX4_init 6 = .ok (.newarray .int, 2) := by decide +kernel
theorem d_X4_init_8 : decode cX4_init 8 = .ok (.putfield 9, 3) := by decide +kernel
theorem d_X4_init_11 : decode cX4_init 11 = .ok (.aload_n 0, 1) := by decide +kernel
theorem d_X4_init_12 : decode cX4_init 12 = .ok (.iconst 2, 1) := by decide +kernel
theorem d_X4_init_13 : decode cX4_init 13 = .ok (.newarray .int, 2) := by decide +kernel
theorem d_X4_init_15 : decode cX4_init 15 = .ok (.putfield 15, 3) := by decide +kernel
theorem d_X4_init_18 : decode cX4_init 18 = .ok (.aload_n 0, 1) := by decide +kernel
theorem d_X4_init_19 : decode cX4_init 19 = .ok (.bipush 8, 2) := by decide +kernel
theorem d_X4_init_21 : decode cX4_init 21 = .ok (.newarray .int, 2) := by decide +kernel
theorem d_X4_init_23 : decode cX4_init 23 = .ok (.putfield 18, 3) := by decide +kernel
theorem d_X4_init_26 : decode cX4_init 26 = .ok (.aload_n 0, 1) := by decide +kernel
theorem d_X4_init_27 : decode cX4_init 27 = .ok (.bipush 8, 2) := by decide +kernel
theorem d_X4_init_29 : decode cX4_init 29 = .ok (.newarray .int, 2) := by decide +kernel
theorem d_X4_init_31 : decode cX4_init 31 = .ok (.putfield 21, 3) := by decide +kernel
theorem d_X4_init_34 : decode cX4_init 34 = .ok (.return_, 1) := by decide +kernel
theorem ki_X4_init : CalI yX4_init cX4_init 1 0 := ⟨⟨tw_4, tw_72, by decide +kernel, by decide +kernel, by decide +kernel⟩, tw_71, rfl⟩
abbrev pw_X4_init (cy : Nat → ClassId) (h0 : Nat) (u : Nat → Nat) : va_W := [(h0, .inr (3, [.int 0, .int 0, .int 0, .int 0, .int 0, .int 0, .int 0, .int 0, .ref (u 1), .ref (u 2), .ref (u 3), .ref (u 4)])), (u 1, .inl (cy 1, 2, .inl (fun _ => 0))), (u 2, .inl (cy 1, 2, .inl (fun _ => 0))), (u 3, .inl (cy 1, 8, .inl (fun _ => 0))), (u 4, .inl (cy 1, 8, .inl (fun _ => 0)))]
set_option maxRecDepth 100000 in
set_option maxHeartbeats 4000000 in
theorem n_X4_init {l : Launch} {D : va_G} {cy : Nat → ClassId} {h0 : Nat} : NM l D cy yX4_init cX4_init 1 none 1 12 4 20 [.ref h0] [(h0, .inr (3, [.int 0, .int 0, .int 0, .int 0, .int 0, .int 0, .int 0, .int 0, .null, .null, .null, .null]))] none (pw_X4_init cy h0) := by
  refine nmet_of "TickPools$Pool" rfl (by decide +kernel) [(0, .ref h0)] rfl (Nat.le_of_ble_eq_true rfl) (fun X sz hX C hr hi hA => ?_)
  refine n_aload_n (j := 0) C d_X4_init_0 rfl ?_
  refine n_obj C tw_73 d_X4_init_1 (by decide) (Nat.le_of_ble_eq_true rfl) ?_
  refine n_aload_n (j := 0) C d_X4_init_4 rfl ?_
  refine n_iconst (v := 2) C d_X4_init_5 (by decide) ?_
  refine n_newa (atype := .int) (ty := .int) (N := 2) (a0 := (2, .inl (fun _ => 0))) C 1 tw_140 rfl rfl (fun _ => rfl) (by decide) (by decide +kernel) (by decide) (Nat.le_of_ble_eq_true rfl) (Nat.le_of_ble_eq_true rfl) d_X4_init_6 (fun q0 => ?_)
  refine n_eq (ws' := [(h0, .inr (3, [.int 0, .int 0, .int 0, .int 0, .int 0, .int 0, .int 0, .int 0, .null, .null, .null, .null])), (q0, .inl (cy 1, 2, .inl (fun _ => 0)))]) rfl ?_
  refine n_putF (ref := "") (Cn := RX4) (T := TX4) (ty := tyX4 8) C hi 0 8 inX4 tyX4_ok nmX4 rfl tw_106 rfl rfl (by decide) (by decide +kernel) rfl rfl (Nat.le_of_ble_eq_true rfl) d_X4_init_8 ?_
  refine n_eq (ws' := [(h0, .inr (3, [.int 0, .int 0, .int 0, .int 0, .int 0, .int 0, .int 0, .int 0, .ref q0, .null, .null, .null])), (q0, .inl (cy 1, 2, .inl (fun _ => 0)))]) rfl ?_
  refine n_aload_n (j := 0) C d_X4_init_11 rfl ?_
  refine n_iconst (v := 2) C d_X4_init_12 (by decide) ?_
  refine n_newa (atype := .int) (ty := .int) (N := 2) (a0 := (2, .inl (fun _ => 0))) C 1 tw_140 rfl rfl (fun _ => rfl) (by decide) (by decide +kernel) (by decide) (Nat.le_of_ble_eq_true rfl) (Nat.le_of_ble_eq_true rfl) d_X4_init_13 (fun q1 => ?_)
  refine n_eq (ws' := [(h0, .inr (3, [.int 0, .int 0, .int 0, .int 0, .int 0, .int 0, .int 0, .int 0, .ref q0, .null, .null, .null])), (q0, .inl (cy 1, 2, .inl (fun _ => 0))), (q1, .inl (cy 1, 2, .inl (fun _ => 0)))]) rfl ?_
  refine n_putF (ref := "") (Cn := RX4) (T := TX4) (ty := tyX4 9) C hi 0 9 inX4 tyX4_ok nmX4 rfl tw_110 rfl rfl (by decide) (by decide +kernel) rfl rfl (Nat.le_of_ble_eq_true rfl) d_X4_init_15 ?_
  refine n_eq (ws' := [(h0, .inr (3, [.int 0, .int 0, .int 0, .int 0, .int 0, .int 0, .int 0, .int 0, .ref q0, .ref q1, .null, .null])), (q0, .inl (cy 1, 2, .inl (fun _ => 0))), (q1, .inl (cy 1, 2, .inl (fun _ => 0)))]) rfl ?_
  refine n_aload_n (j := 0) C d_X4_init_18 rfl ?_
  refine n_bipush (v := 8) C d_X4_init_19 (by decide) ?_
  refine n_newa (atype := .int) (ty := .int) (N := 8) (a0 := (8, .inl (fun _ => 0))) C 1 tw_140 rfl rfl (fun _ => rfl) (by decide) (by decide +kernel) (by decide) (Nat.le_of_ble_eq_true rfl) (Nat.le_of_ble_eq_true rfl) d_X4_init_21 (fun q2 => ?_)
  refine n_eq (ws' := [(h0, .inr (3, [.int 0, .int 0, .int 0, .int 0, .int 0, .int 0, .int 0, .int 0, .ref q0, .ref q1, .null, .null])), (q0, .inl (cy 1, 2, .inl (fun _ => 0))), (q1, .inl (cy 1, 2, .inl (fun _ => 0))), (q2, .inl (cy 1, 8, .inl (fun _ => 0)))]) rfl ?_
  refine n_putF (ref := "") (Cn := RX4) (T := TX4) (ty := tyX4 10) C hi 0 10 inX4 tyX4_ok nmX4 rfl tw_113 rfl rfl (by decide) (by decide +kernel) rfl rfl (Nat.le_of_ble_eq_true rfl) d_X4_init_23 ?_
  refine n_eq (ws' := [(h0, .inr (3, [.int 0, .int 0, .int 0, .int 0, .int 0, .int 0, .int 0, .int 0, .ref q0, .ref q1, .ref q2, .null])), (q0, .inl (cy 1, 2, .inl (fun _ => 0))), (q1, .inl (cy 1, 2, .inl (fun _ => 0))), (q2, .inl (cy 1, 8, .inl (fun _ => 0)))]) rfl ?_
  refine n_aload_n (j := 0) C d_X4_init_26 rfl ?_
  refine n_bipush (v := 8) C d_X4_init_27 (by decide) ?_
  refine n_newa (atype := .int) (ty := .int) (N := 8) (a0 := (8, .inl (fun _ => 0))) C 1 tw_140 rfl rfl (fun _ => rfl) (by decide) (by decide +kernel) (by decide) (Nat.le_of_ble_eq_true rfl) (Nat.le_of_ble_eq_true rfl) d_X4_init_29 (fun q3 => ?_)
  refine n_eq (ws' := [(h0, .inr (3, [.int 0, .int 0, .int 0, .int 0, .int 0, .int 0, .int 0, .int 0, .ref q0, .ref q1, .ref q2, .null])), (q0, .inl (cy 1, 2, .inl (fun _ => 0))), (q1, .inl (cy 1, 2, .inl (fun _ => 0))), (q2, .inl (cy 1, 8, .inl (fun _ => 0))), (q3, .inl (cy 1, 8, .inl (fun _ => 0)))]) rfl ?_
  refine n_putF (ref := "") (Cn := RX4) (T := TX4) (ty := tyX4 11) C hi 0 11 inX4 tyX4_ok nmX4 rfl tw_114 rfl rfl (by decide) (by decide +kernel) rfl rfl (Nat.le_of_ble_eq_true rfl) d_X4_init_31 ?_
  refine n_eq (ws' := [(h0, .inr (3, [.int 0, .int 0, .int 0, .int 0, .int 0, .int 0, .int 0, .int 0, .ref q0, .ref q1, .ref q2, .ref q3])), (q0, .inl (cy 1, 2, .inl (fun _ => 0))), (q1, .inl (cy 1, 2, .inl (fun _ => 0))), (q2, .inl (cy 1, 8, .inl (fun _ => 0))), (q3, .inl (cy 1, 8, .inl (fun _ => 0)))]) rfl ?_
  exact n_ret C hr hA (fun k => ([h0, q0, q1, q2, q3] : List Nat).getD k 0) rfl d_X4_init_34 rfl rfl
theorem d_X7_init_0 : decode cX7_init 0 = .ok (.aload_n 0, 1) := by decide +kernel
theorem d_X7_init_1 : decode cX7_init 1 = .ok (.invokespecial 1, 3) := by decide +kernel
theorem d_X7_init_4 : decode cX7_init 4 = .ok (.aload_n 0, 1) := by decide +kernel
theorem d_X7_init_5 : decode cX7_init 5 = .ok (.iconst 2, 1) := by decide +kernel
theorem d_X7_init_6 : decode cX7_init 6 = .ok (.newarray .long, 2) := by decide +kernel
theorem d_X7_init_8 : decode cX7_init 8 = .ok (.putfield 7, 3) := by decide +kernel
theorem d_X7_init_11 : decode cX7_init 11 = .ok (.aload_n 0, 1) := by decide +kernel
theorem d_X7_init_12 : decode cX7_init 12 = .ok (.iconst 2, 1) := by decide +kernel
theorem d_X7_init_13 : decode cX7_init 13 = .ok (.newarray .long, 2) := by decide +kernel
theorem d_X7_init_15 : decode cX7_init 15 = .ok (.putfield 13, 3) := by decide +kernel
theorem d_X7_init_18 : decode cX7_init 18 = .ok (.return_, 1) := by decide +kernel
theorem ki_X7_init : CalI yX7_init cX7_init 1 0 := ⟨⟨tw_5, tw_146, by decide +kernel, by decide +kernel, by decide +kernel⟩, tw_145, rfl⟩
abbrev pw_X7_init (cy : Nat → ClassId) (h0 : Nat) (u : Nat → Nat) : va_W := [(h0, .inr (6, [.int 0, .int 0, .int 0, .int 0, .int 0, .int 0, .ref (u 1), .ref (u 2)])), (u 1, .inl (cy 2, 2, .inr (.inl (fun _ => 0)))), (u 2, .inl (cy 2, 2, .inr (.inl (fun _ => 0))))]
set_option maxRecDepth 100000 in
set_option maxHeartbeats 4000000 in
theorem n_X7_init {l : Launch} {D : va_G} {cy : Nat → ClassId} {h0 : Nat} : NM l D cy yX7_init cX7_init 1 none 1 12 2 4 [.ref h0] [(h0, .inr (6, [.int 0, .int 0, .int 0, .int 0, .int 0, .int 0, .null, .null]))] none (pw_X7_init cy h0) := by
  refine nmet_of "TickPools$Stake" rfl (by decide +kernel) [(0, .ref h0)] rfl (Nat.le_of_ble_eq_true rfl) (fun X sz hX C hr hi hA => ?_)
  refine n_aload_n (j := 0) C d_X7_init_0 rfl ?_
  refine n_obj C tw_147 d_X7_init_1 (by decide) (Nat.le_of_ble_eq_true rfl) ?_
  refine n_aload_n (j := 0) C d_X7_init_4 rfl ?_
  refine n_iconst (v := 2) C d_X7_init_5 (by decide) ?_
  refine n_newa (atype := .long) (ty := .long) (N := 2) (a0 := (2, .inr (.inl (fun _ => 0)))) C 2 tw_189 rfl rfl (fun _ => rfl) (by decide) (by decide +kernel) (by decide) (Nat.le_of_ble_eq_true rfl) (Nat.le_of_ble_eq_true rfl) d_X7_init_6 (fun q0 => ?_)
  refine n_eq (ws' := [(h0, .inr (6, [.int 0, .int 0, .int 0, .int 0, .int 0, .int 0, .null, .null])), (q0, .inl (cy 2, 2, .inr (.inl (fun _ => 0))))]) rfl ?_
  refine n_putF (ref := "") (Cn := RX7) (T := TX7) (ty := tyX7 6) C hi 0 6 inX7 tyX7_ok nmX7 rfl tw_167 rfl rfl (by decide) (by decide +kernel) rfl rfl (Nat.le_of_ble_eq_true rfl) d_X7_init_8 ?_
  refine n_eq (ws' := [(h0, .inr (6, [.int 0, .int 0, .int 0, .int 0, .int 0, .int 0, .ref q0, .null])), (q0, .inl (cy 2, 2, .inr (.inl (fun _ => 0))))]) rfl ?_
  refine n_aload_n (j := 0) C d_X7_init_11 rfl ?_
  refine n_iconst (v := 2) C d_X7_init_12 (by decide) ?_
  refine n_newa (atype := .long) (ty := .long) (N := 2) (a0 := (2, .inr (.inl (fun _ => 0)))) C 2 tw_189 rfl rfl (fun _ => rfl) (by decide) (by decide +kernel) (by decide) (Nat.le_of_ble_eq_true rfl) (Nat.le_of_ble_eq_true rfl) d_X7_init_13 (fun q1 => ?_)
  refine n_eq (ws' := [(h0, .inr (6, [.int 0, .int 0, .int 0, .int 0, .int 0, .int 0, .ref q0, .null])), (q0, .inl (cy 2, 2, .inr (.inl (fun _ => 0)))), (q1, .inl (cy 2, 2, .inr (.inl (fun _ => 0))))]) rfl ?_
  refine n_putF (ref := "") (Cn := RX7) (T := TX7) (ty := tyX7 7) C hi 0 7 inX7 tyX7_ok nmX7 rfl tw_169 rfl rfl (by decide) (by decide +kernel) rfl rfl (Nat.le_of_ble_eq_true rfl) d_X7_init_15 ?_
  refine n_eq (ws' := [(h0, .inr (6, [.int 0, .int 0, .int 0, .int 0, .int 0, .int 0, .ref q0, .ref q1])), (q0, .inl (cy 2, 2, .inr (.inl (fun _ => 0)))), (q1, .inl (cy 2, 2, .inr (.inl (fun _ => 0))))]) rfl ?_
  exact n_ret C hr hA (fun k => ([h0, q0, q1] : List Nat).getD k 0) rfl d_X7_init_18 rfl rfl
theorem d_X9_init_0 : decode cX9_init 0 = .ok (.aload_n 0, 1) := by decide +kernel
theorem d_X9_init_1 : decode cX9_init 1 = .ok (.invokespecial 3, 3) := by decide +kernel
theorem d_X9_init_4 : decode cX9_init 4 = .ok (.aload_n 0, 1) := by decide +kernel
theorem d_X9_init_5 : decode cX9_init 5 = .ok (.sipush 400, 3) := by decide +kernel
theorem d_X9_init_8 : decode cX9_init 8 = .ok (.newarray .byte, 2) := by decide +kernel
theorem d_X9_init_10 : decode cX9_init 10 = .ok (.putfield 9, 3) := by decide +kernel
theorem d_X9_init_13 : decode cX9_init 13 = .ok (.return_, 1) := by decide +kernel
theorem ki_X9_init : CalI yX9_init cX9_init 1 0 := ⟨⟨tw_2, tw_31, by decide +kernel, by decide +kernel, by decide +kernel⟩, tw_30, rfl⟩
abbrev pw_X9_init (cy : Nat → ClassId) (h0 : Nat) (u : Nat → Nat) : va_W := [(h0, .inr (8, [.int 0, .int 0, .int 0, .int 0, .int 0, .int 0, .ref (u 1)])), (u 1, .inl (cy 0, 400, .inl (fun _ => 0)))]
set_option maxRecDepth 100000 in
set_option maxHeartbeats 4000000 in
theorem n_X9_init {l : Launch} {D : va_G} {cy : Nat → ClassId} {h0 : Nat} : NM l D cy yX9_init cX9_init 1 none 1 12 1 400 [.ref h0] [(h0, .inr (8, [.int 0, .int 0, .int 0, .int 0, .int 0, .int 0, .null]))] none (pw_X9_init cy h0) := by
  refine nmet_of "TickPools$Tape" rfl (by decide +kernel) [(0, .ref h0)] rfl (Nat.le_of_ble_eq_true rfl) (fun X sz hX C hr hi hA => ?_)
  refine n_aload_n (j := 0) C d_X9_init_0 rfl ?_
  refine n_obj C tw_32 d_X9_init_1 (by decide) (Nat.le_of_ble_eq_true rfl) ?_
  refine n_aload_n (j := 0) C d_X9_init_4 rfl ?_
  refine n_sipush (v := 400) C d_X9_init_5 (by decide) ?_
  refine n_newa (atype := .byte) (ty := .byte) (N := 400) (a0 := (400, .inl (fun _ => 0))) C 0 tw_60 rfl rfl (fun _ => rfl) (by decide) (by decide +kernel) (by decide) (Nat.le_of_ble_eq_true rfl) (Nat.le_of_ble_eq_true rfl) d_X9_init_8 (fun q0 => ?_)
  refine n_eq (ws' := [(h0, .inr (8, [.int 0, .int 0, .int 0, .int 0, .int 0, .int 0, .null])), (q0, .inl (cy 0, 400, .inl (fun _ => 0)))]) rfl ?_
  refine n_putF (ref := "") (Cn := RX9) (T := TX9) (ty := tyX9 6) C hi 0 6 inX9 tyX9_ok nmX9 rfl tw_44 rfl rfl (by decide) (by decide +kernel) rfl rfl (Nat.le_of_ble_eq_true rfl) d_X9_init_10 ?_
  refine n_eq (ws' := [(h0, .inr (8, [.int 0, .int 0, .int 0, .int 0, .int 0, .int 0, .ref q0])), (q0, .inl (cy 0, 400, .inl (fun _ => 0)))]) rfl ?_
  exact n_ret C hr hA (fun k => ([h0, q0] : List Nat).getD k 0) rfl d_X9_init_13 rfl rfl
theorem d_X8_init_0 : decode cX8_init 0 = .ok (.aload_n 0, 1) := by decide +kernel
theorem d_X8_init_1 : decode cX8_init 1 = .ok (.invokespecial 1, 3) := by decide +kernel
theorem d_X8_init_4 : decode cX8_init 4 = .ok (.return_, 1) := by decide +kernel
theorem ki_X8_init : CalI yX8_init cX8_init 1 0 := ⟨⟨tw_9, tw_313, by decide +kernel, by decide +kernel, by decide +kernel⟩, tw_312, rfl⟩
abbrev pw_X8_init (cy : Nat → ClassId) (h0 : Nat) (u : Nat → Nat) : va_W := [(h0, .inr (7, [.int 0, .int 0, .int 0, .int 0, .int 0, .int 0, .int 0, .int 0, .int 0, .int 0]))]
set_option maxRecDepth 100000 in
set_option maxHeartbeats 4000000 in
theorem n_X8_init {l : Launch} {D : va_G} {cy : Nat → ClassId} {h0 : Nat} : NM l D cy yX8_init cX8_init 1 none 1 12 0 0 [.ref h0] [(h0, .inr (7, [.int 0, .int 0, .int 0, .int 0, .int 0, .int 0, .int 0, .int 0, .int 0, .int 0]))] none (pw_X8_init cy h0) := by
  refine nmet_of "TickPools$Step" rfl (by decide +kernel) [(0, .ref h0)] rfl (Nat.le_of_ble_eq_true rfl) (fun X sz hX C hr hi hA => ?_)
  refine n_aload_n (j := 0) C d_X8_init_0 rfl ?_
  refine n_obj C tw_314 d_X8_init_1 (by decide) (Nat.le_of_ble_eq_true rfl) ?_
  exact n_ret C hr hA (fun k => ([h0] : List Nat).getD k 0) rfl d_X8_init_4 rfl rfl
theorem d_X10_init_0 : decode cX10_init 0 = .ok (.aload_n 0, 1) := by decide +kernel
theorem d_X10_init_1 : decode cX10_init 1 = .ok (.invokespecial 3, 3) := by decide +kernel
theorem d_X10_init_4 : decode cX10_init 4 = .ok (.return_, 1) := by decide +kernel
theorem ki_X10_init : CalI yX10_init cX10_init 1 0 := ⟨⟨tw_6, tw_234, by decide +kernel, by decide +kernel, by decide +kernel⟩, tw_233, rfl⟩
abbrev pw_X10_init (cy : Nat → ClassId) (h0 : Nat) (u : Nat → Nat) : va_W := [(h0, .inr (9, [.null, .null, .int 0, .int 0, .int 0, .int 0, .int 0, .int 0, .int 0, .int 0, .long 0, .long 0, .long 0, .long 0]))]
set_option maxRecDepth 100000 in
set_option maxHeartbeats 4000000 in
theorem n_X10_init {l : Launch} {D : va_G} {cy : Nat → ClassId} {h0 : Nat} : NM l D cy yX10_init cX10_init 1 none 1 12 0 0 [.ref h0] [(h0, .inr (9, [.null, .null, .int 0, .int 0, .int 0, .int 0, .int 0, .int 0, .int 0, .int 0, .long 0, .long 0, .long 0, .long 0]))] none (pw_X10_init cy h0) := by
  refine nmet_of "TickPools$Trade" rfl (by decide +kernel) [(0, .ref h0)] rfl (Nat.le_of_ble_eq_true rfl) (fun X sz hX C hr hi hA => ?_)
  refine n_aload_n (j := 0) C d_X10_init_0 rfl ?_
  refine n_obj C tw_235 d_X10_init_1 (by decide) (Nat.le_of_ble_eq_true rfl) ?_
  exact n_ret C hr hA (fun k => ([h0] : List Nat).getD k 0) rfl d_X10_init_4 rfl rfl
theorem d_X3_init_0 : decode cX3_init 0 = .ok (.aload_n 0, 1) := by decide +kernel
theorem d_X3_init_1 : decode cX3_init 1 = .ok (.invokespecial 3, 3) := by decide +kernel
theorem d_X3_init_4 : decode cX3_init 4 = .ok (.aload_n 0, 1) := by decide +kernel
theorem d_X3_init_5 : decode cX3_init 5 = .ok (.aload_n 1, 1) := by decide +kernel
theorem d_X3_init_6 : decode cX3_init 6 = .ok (.putfield 9, 3) := by decide +kernel
theorem d_X3_init_9 : decode cX3_init 9 = .ok (.aload_n 0, 1) := by decide +kernel
theorem d_X3_init_10 : decode cX3_init 10 = .ok (.aload_n 2, 1) := by decide +kernel
theorem d_X3_init_11 : decode cX3_init 11 = .ok (.putfield 15, 3) := by decide +kernel
theorem d_X3_init_14 : decode cX3_init 14 = .ok (.return_, 1) := by decide +kernel
theorem ki_X3_init : CalI yX3_init cX3_init 3 2 := ⟨⟨tw_7, tw_293, by decide +kernel, by decide +kernel, by decide +kernel⟩, tw_292, rfl⟩
abbrev pw_X3_init (cy : Nat → ClassId) (h0 a1 a2 : Nat) (u : Nat → Nat) : va_W := [(h0, .inr (2, [.ref a1, .ref a2]))]
set_option maxRecDepth 100000 in
set_option maxHeartbeats 4000000 in
theorem n_X3_init {l : Launch} {D : va_G} {cy : Nat → ClassId} {h0 a1 a2 : Nat} : NM l D cy yX3_init cX3_init 3 none 1 12 0 0 [.ref h0, .ref a1, .ref a2] [(h0, .inr (2, [.null, .null]))] none (pw_X3_init cy h0 a1 a2) := by
  refine nmet_of "TickPools$MarketReader" rfl (by decide +kernel) [(0, .ref h0), (1, .ref a1), (2, .ref a2)] rfl (Nat.le_of_ble_eq_true rfl) (fun X sz hX C hr hi hA => ?_)
  refine n_aload_n (j := 0) C d_X3_init_0 rfl ?_
  refine n_obj C tw_294 d_X3_init_1 (by decide) (Nat.le_of_ble_eq_true rfl) ?_
  refine n_aload_n (j := 0) C d_X3_init_4 rfl ?_
  refine n_aload_n (j := 1) C d_X3_init_5 rfl ?_
  refine n_putF (ref := "") (Cn := RX3) (T := TX3) (ty := tyX3 0) C hi 0 0 inX3 tyX3_ok nmX3 rfl tw_295 rfl rfl (by decide) (by decide +kernel) rfl rfl (Nat.le_of_ble_eq_true rfl) d_X3_init_6 ?_
  refine n_eq (ws' := [(h0, .inr (2, [.ref a1, .null]))]) rfl ?_
  refine n_aload_n (j := 0) C d_X3_init_9 rfl ?_
  refine n_aload_n (j := 2) C d_X3_init_10 rfl ?_
  refine n_putF (ref := "") (Cn := RX3) (T := TX3) (ty := tyX3 1) C hi 0 1 inX3 tyX3_ok nmX3 rfl tw_296 rfl rfl (by decide) (by decide +kernel) rfl rfl (Nat.le_of_ble_eq_true rfl) d_X3_init_11 ?_
  refine n_eq (ws' := [(h0, .inr (2, [.ref a1, .ref a2]))]) rfl ?_
  exact n_ret C hr hA (fun k => ([h0] : List Nat).getD k 0) rfl d_X3_init_14 rfl rfl
theorem d_X5_init_0 : decode cX5_init 0 = .ok (.aload_n 0, 1) := by decide +kernel
theorem d_X5_init_1 : decode cX5_init 1 = .ok (.invokespecial 3, 3) := by decide +kernel
theorem d_X5_init_4 : decode cX5_init 4 = .ok (.aload_n 0, 1) := by decide +kernel
theorem d_X5_init_5 : decode cX5_init 5 = .ok (.aload_n 1, 1) := by decide +kernel
theorem d_X5_init_6 : decode cX5_init 6 = .ok (.putfield 9, 3) := by decide +kernel
theorem d_X5_init_9 : decode cX5_init 9 = .ok (.aload_n 0, 1) := by decide +kernel
theorem d_X5_init_10 : decode cX5_init 10 = .ok (.aload_n 2, 1) := by decide +kernel
theorem d_X5_init_11 : decode cX5_init 11 = .ok (.putfield 15, 3) := by decide +kernel
theorem d_X5_init_14 : decode cX5_init 14 = .ok (.aload_n 0, 1) := by decide +kernel
theorem d_X5_init_15 : decode cX5_init 15 = .ok (.aload_n 3, 1) := by decide +kernel
theorem d_X5_init_16 : decode cX5_init 16 = .ok (.putfield 19, 3) := by decide +kernel
theorem d_X5_init_19 : decode cX5_init 19 = .ok (.aload_n 0, 1) := by decide +kernel
theorem d_X5_init_20 : decode cX5_init 20 = .ok (.iconst 4, 1) := by decide +kernel
theorem d_X5_init_21 : decode cX5_init 21 = .ok (.newarray .int, 2) := by decide +kernel
theorem d_X5_init_23 : decode cX5_init 23 = .ok (.putfield 25, 3) := by decide +kernel
theorem d_X5_init_26 : decode cX5_init 26 = .ok (.aload_n 0, 1) := by decide +kernel
theorem d_X5_init_27 : decode cX5_init 27 = .ok (.iconst 4, 1) := by decide +kernel
theorem d_X5_init_28 : decode cX5_init 28 = .ok (.newarray .int, 2) := by decide +kernel
theorem d_X5_init_30 : decode cX5_init 30 = .ok (.putfield 29, 3) := by decide +kernel
theorem d_X5_init_33 : decode cX5_init 33 = .ok (.aload_n 0, 1) := by decide +kernel
theorem d_X5_init_34 : decode cX5_init 34 = .ok (.iconst 4, 1) := by decide +kernel
theorem d_X5_init_35 : decode cX5_init 35 = .ok (.newarray .int, 2) := by decide +kernel
theorem d_X5_init_37 : decode cX5_init 37 = .ok (.putfield 32, 3) := by decide +kernel
theorem d_X5_init_40 : decode cX5_init 40 = .ok (.aload_n 0, 1) := by decide +kernel
theorem d_X5_init_41 : decode cX5_init 41 = .ok (.iconst 5, 1) := by decide +kernel
theorem d_X5_init_42 : decode cX5_init 42 = .ok (.newarray .boolean, 2) := by decide +kernel
theorem d_X5_init_44 : decode cX5_init 44 = .ok (.putfield 35, 3) := by decide +kernel
theorem d_X5_init_47 : decode cX5_init 47 = .ok (.return_, 1) := by decide +kernel
theorem ki_X5_init : CalI yX5_init cX5_init 4 3 := ⟨⟨tw_10, tw_378, by decide +kernel, by decide +kernel, by decide +kernel⟩, tw_377, rfl⟩
abbrev pw_X5_init (cy : Nat → ClassId) (h0 a1 a2 a3 : Nat) (u : Nat → Nat) : va_W := [(h0, .inr (4, [.int 0, .int 0, .ref a1, .ref a2, .ref a3, .int 0, .int 0, .int 0, .long 0, .ref (u 1), .ref (u 2), .ref (u 3), .ref (u 4)])), (u 1, .inl (cy 1, 4, .inl (fun _ => 0))), (u 2, .inl (cy 1, 4, .inl (fun _ => 0))), (u 3, .inl (cy 1, 4, .inl (fun _ => 0))), (u 4, .inl (cy 3, 5, .inl (fun _ => 0)))]
set_option maxRecDepth 100000 in
set_option maxHeartbeats 4000000 in
theorem n_X5_init {l : Launch} {D : va_G} {cy : Nat → ClassId} {h0 a1 a2 a3 : Nat} : NM l D cy yX5_init cX5_init 4 none 1 12 4 17 [.ref h0, .ref a1, .ref a2, .ref a3] [(h0, .inr (4, [.int 0, .int 0, .null, .null, .null, .int 0, .int 0, .int 0, .long 0, .null, .null, .null, .null]))] none (pw_X5_init cy h0 a1 a2 a3) := by
  refine nmet_of "TickPools$Runner" rfl (by decide +kernel) [(0, .ref h0), (1, .ref a1), (2, .ref a2), (3, .ref a3)] rfl (Nat.le_of_ble_eq_true rfl) (fun X sz hX C hr hi hA => ?_)
  refine n_aload_n (j := 0) C d_X5_init_0 rfl ?_
  refine n_obj C tw_379 d_X5_init_1 (by decide) (Nat.le_of_ble_eq_true rfl) ?_
  refine n_aload_n (j := 0) C d_X5_init_4 rfl ?_
  refine n_aload_n (j := 1) C d_X5_init_5 rfl ?_
  refine n_putF (ref := "") (Cn := RX5) (T := TX5) (ty := tyX5 2) C hi 0 2 inX5 tyX5_ok nmX5 rfl tw_384 rfl rfl (by decide) (by decide +kernel) rfl rfl (Nat.le_of_ble_eq_true rfl) d_X5_init_6 ?_
  refine n_eq (ws' := [(h0, .inr (4, [.int 0, .int 0, .ref a1, .null, .null, .int 0, .int 0, .int 0, .long 0, .null, .null, .null, .null]))]) rfl ?_
  refine n_aload_n (j := 0) C d_X5_init_9 rfl ?_
  refine n_aload_n (j := 2) C d_X5_init_10 rfl ?_
  refine n_putF (ref := "") (Cn := RX5) (T := TX5) (ty := tyX5 3) C hi 0 3 inX5 tyX5_ok nmX5 rfl tw_385 rfl rfl (by decide) (by decide +kernel) rfl rfl (Nat.le_of_ble_eq_true rfl) d_X5_init_11 ?_
  refine n_eq (ws' := [(h0, .inr (4, [.int 0, .int 0, .ref a1, .ref a2, .null, .int 0, .int 0, .int 0, .long 0, .null, .null, .null, .null]))]) rfl ?_
  refine n_aload_n (j := 0) C d_X5_init_14 rfl ?_
  refine n_aload_n (j := 3) C d_X5_init_15 rfl ?_
  refine n_putF (ref := "") (Cn := RX5) (T := TX5) (ty := tyX5 4) C hi 0 4 inX5 tyX5_ok nmX5 rfl tw_386 rfl rfl (by decide) (by decide +kernel) rfl rfl (Nat.le_of_ble_eq_true rfl) d_X5_init_16 ?_
  refine n_eq (ws' := [(h0, .inr (4, [.int 0, .int 0, .ref a1, .ref a2, .ref a3, .int 0, .int 0, .int 0, .long 0, .null, .null, .null, .null]))]) rfl ?_
  refine n_aload_n (j := 0) C d_X5_init_19 rfl ?_
  refine n_iconst (v := 4) C d_X5_init_20 (by decide) ?_
  refine n_newa (atype := .int) (ty := .int) (N := 4) (a0 := (4, .inl (fun _ => 0))) C 1 tw_140 rfl rfl (fun _ => rfl) (by decide) (by decide +kernel) (by decide) (Nat.le_of_ble_eq_true rfl) (Nat.le_of_ble_eq_true rfl) d_X5_init_21 (fun q0 => ?_)
  refine n_eq (ws' := [(h0, .inr (4, [.int 0, .int 0, .ref a1, .ref a2, .ref a3, .int 0, .int 0, .int 0, .long 0, .null, .null, .null, .null])), (q0, .inl (cy 1, 4, .inl (fun _ => 0)))]) rfl ?_
  refine n_putF (ref := "") (Cn := RX5) (T := TX5) (ty := tyX5 9) C hi 0 9 inX5 tyX5_ok nmX5 rfl tw_391 rfl rfl (by decide) (by decide +kernel) rfl rfl (Nat.le_of_ble_eq_true rfl) d_X5_init_23 ?_
  refine n_eq (ws' := [(h0, .inr (4, [.int 0, .int 0, .ref a1, .ref a2, .ref a3, .int 0, .int 0, .int 0, .long 0, .ref q0, .null, .null, .null])), (q0, .inl (cy 1, 4, .inl (fun _ => 0)))]) rfl ?_
  refine n_aload_n (j := 0) C d_X5_init_26 rfl ?_
  refine n_iconst (v := 4) C d_X5_init_27 (by decide) ?_
  refine n_newa (atype := .int) (ty := .int) (N := 4) (a0 := (4, .inl (fun _ => 0))) C 1 tw_140 rfl rfl (fun _ => rfl) (by decide) (by decide +kernel) (by decide) (Nat.le_of_ble_eq_true rfl) (Nat.le_of_ble_eq_true rfl) d_X5_init_28 (fun q1 => ?_)
  refine n_eq (ws' := [(h0, .inr (4, [.int 0, .int 0, .ref a1, .ref a2, .ref a3, .int 0, .int 0, .int 0, .long 0, .ref q0, .null, .null, .null])), (q0, .inl (cy 1, 4, .inl (fun _ => 0))), (q1, .inl (cy 1, 4, .inl (fun _ => 0)))]) rfl ?_
  refine n_putF (ref := "") (Cn := RX5) (T := TX5) (ty := tyX5 10) C hi 0 10 inX5 tyX5_ok nmX5 rfl tw_392 rfl rfl (by decide) (by decide +kernel) rfl rfl (Nat.le_of_ble_eq_true rfl) d_X5_init_30 ?_
  refine n_eq (ws' := [(h0, .inr (4, [.int 0, .int 0, .ref a1, .ref a2, .ref a3, .int 0, .int 0, .int 0, .long 0, .ref q0, .ref q1, .null, .null])), (q0, .inl (cy 1, 4, .inl (fun _ => 0))), (q1, .inl (cy 1, 4, .inl (fun _ => 0)))]) rfl ?_
  refine n_aload_n (j := 0) C d_X5_init_33 rfl ?_
  refine n_iconst (v := 4) C d_X5_init_34 (by decide) ?_
  refine n_newa (atype := .int) (ty := .int) (N := 4) (a0 := (4, .inl (fun _ => 0))) C 1 tw_140 rfl rfl (fun _ => rfl) (by decide) (by decide +kernel) (by decide) (Nat.le_of_ble_eq_true rfl) (Nat.le_of_ble_eq_true rfl) d_X5_init_35 (fun q2 => ?_)
  refine n_eq (ws' := [(h0, .inr (4, [.int 0, .int 0, .ref a1, .ref a2, .ref a3, .int 0, .int 0, .int 0, .long 0, .ref q0, .ref q1, .null, .null])), (q0, .inl (cy 1, 4, .inl (fun _ => 0))), (q1, .inl (cy 1, 4, .inl (fun _ => 0))), (q2, .inl (cy 1, 4, .inl (fun _ => 0)))]) rfl ?_
  refine n_putF (ref := "") (Cn := RX5) (T := TX5) (ty := tyX5 11) C hi 0 11 inX5 tyX5_ok nmX5 rfl tw_393 rfl rfl (by decide) (by decide +kernel) rfl rfl (Nat.le_of_ble_eq_true rfl) d_X5_init_37 ?_
  refine n_eq (ws' := [(h0, .inr (4, [.int 0, .int 0, .ref a1, .ref a2, .ref a3, .int 0, .int 0, .int 0, .long 0, .ref q0, .ref q1, .ref q2, .null])), (q0, .inl (cy 1, 4, .inl (fun _ => 0))), (q1, .inl (cy 1, 4, .inl (fun _ => 0))), (q2, .inl (cy 1, 4, .inl (fun _ => 0)))]) rfl ?_
  refine n_aload_n (j := 0) C d_X5_init_40 rfl ?_
  refine n_iconst (v := 5) C d_X5_init_41 (by decide) ?_
  refine n_newa (atype := .boolean) (ty := .boolean) (N := 5) (a0 := (5, .inl (fun _ => 0))) C 3 tw_422 rfl rfl (fun _ => rfl) (by decide) (by decide +kernel) (by decide) (Nat.le_of_ble_eq_true rfl) (Nat.le_of_ble_eq_true rfl) d_X5_init_42 (fun q3 => ?_)
  refine n_eq (ws' := [(h0, .inr (4, [.int 0, .int 0, .ref a1, .ref a2, .ref a3, .int 0, .int 0, .int 0, .long 0, .ref q0, .ref q1, .ref q2, .null])), (q0, .inl (cy 1, 4, .inl (fun _ => 0))), (q1, .inl (cy 1, 4, .inl (fun _ => 0))), (q2, .inl (cy 1, 4, .inl (fun _ => 0))), (q3, .inl (cy 3, 5, .inl (fun _ => 0)))]) rfl ?_
  refine n_putF (ref := "") (Cn := RX5) (T := TX5) (ty := tyX5 12) C hi 0 12 inX5 tyX5_ok nmX5 rfl tw_394 rfl rfl (by decide) (by decide +kernel) rfl rfl (Nat.le_of_ble_eq_true rfl) d_X5_init_44 ?_
  refine n_eq (ws' := [(h0, .inr (4, [.int 0, .int 0, .ref a1, .ref a2, .ref a3, .int 0, .int 0, .int 0, .long 0, .ref q0, .ref q1, .ref q2, .ref q3])), (q0, .inl (cy 1, 4, .inl (fun _ => 0))), (q1, .inl (cy 1, 4, .inl (fun _ => 0))), (q2, .inl (cy 1, 4, .inl (fun _ => 0))), (q3, .inl (cy 3, 5, .inl (fun _ => 0)))]) rfl ?_
  exact n_ret C hr hA (fun k => ([h0, q0, q1, q2, q3] : List Nat).getD k 0) rfl d_X5_init_47 rfl rfl
theorem d_X1_init_0 : decode cX1_init 0 = .ok (.aload_n 0, 1) := by decide +kernel
theorem d_X1_init_1 : decode cX1_init 1 = .ok (.invokespecial 3, 3) := by decide +kernel
theorem d_X1_init_4 : decode cX1_init 4 = .ok (.aload_n 0, 1) := by decide +kernel
theorem d_X1_init_5 : decode cX1_init 5 = .ok (.aload_n 1, 1) := by decide +kernel
theorem d_X1_init_6 : decode cX1_init 6 = .ok (.putfield 9, 3) := by decide +kernel
theorem d_X1_init_9 : decode cX1_init 9 = .ok (.aload_n 0, 1) := by decide +kernel
theorem d_X1_init_10 : decode cX1_init 10 = .ok (.iconst 3, 1) := by decide +kernel
theorem d_X1_init_11 : decode cX1_init 11 = .ok (.newarray .int, 2) := by decide +kernel
theorem d_X1_init_13 : decode cX1_init 13 = .ok (.putfield 15, 3) := by decide +kernel
theorem d_X1_init_16 : decode cX1_init 16 = .ok (.aload_n 0, 1) := by decide +kernel
theorem d_X1_init_17 : decode cX1_init 17 = .ok (.iconst 3, 1) := by decide +kernel
theorem d_X1_init_18 : decode cX1_init 18 = .ok (.newarray .int, 2) := by decide +kernel
theorem d_X1_init_20 : decode cX1_init 20 = .ok (.putfield 19, 3) := by decide +kernel
theorem d_X1_init_23 : decode cX1_init 23 = .ok (.aload_n 0, 1) := by decide +kernel
theorem d_X1_init_24 : decode cX1_init 24 = .ok (.iconst 3, 1) := by decide +kernel
theorem d_X1_init_25 : decode cX1_init 25 = .ok (.newarray .int, 2) := by decide +kernel
theorem d_X1_init_27 : decode cX1_init 27 = .ok (.putfield 22, 3) := by decide +kernel
theorem d_X1_init_30 : decode cX1_init 30 = .ok (.aload_n 0, 1) := by decide +kernel
theorem d_X1_init_31 : decode cX1_init 31 = .ok (.iconst 3, 1) := by decide +kernel
theorem d_X1_init_32 : decode cX1_init 32 = .ok (.newarray .long, 2) := by decide +kernel
theorem d_X1_init_34 : decode cX1_init 34 = .ok (.putfield 25, 3) := by decide +kernel
theorem d_X1_init_37 : decode cX1_init 37 = .ok (.aload_n 0, 1) := by decide +kernel
theorem d_X1_init_38 : decode cX1_init 38 = .ok (.iconst 3, 1) := by decide +kernel
theorem d_X1_init_39 : decode cX1_init 39 = .ok (.newarray .int, 2) := by decide +kernel
theorem d_X1_init_41 : decode cX1_init 41 = .ok (.putfield 29, 3) := by decide +kernel
theorem d_X1_init_44 : decode cX1_init 44 = .ok (.return_, 1) := by decide +kernel
theorem ki_X1_init : CalI yX1_init cX1_init 2 1 := ⟨⟨tw_11, tw_427, by decide +kernel, by decide +kernel, by decide +kernel⟩, tw_426, rfl⟩
abbrev pw_X1_init (cy : Nat → ClassId) (h0 a1 : Nat) (u : Nat → Nat) : va_W := [(h0, .inr (0, [.long 0, .int 0, .int 0, .ref a1, .ref (u 1), .ref (u 2), .ref (u 3), .ref (u 4), .ref (u 5)])), (u 1, .inl (cy 1, 3, .inl (fun _ => 0))), (u 2, .inl (cy 1, 3, .inl (fun _ => 0))), (u 3, .inl (cy 1, 3, .inl (fun _ => 0))), (u 4, .inl (cy 2, 3, .inr (.inl (fun _ => 0)))), (u 5, .inl (cy 1, 3, .inl (fun _ => 0)))]
set_option maxRecDepth 100000 in
set_option maxHeartbeats 4000000 in
theorem n_X1_init {l : Launch} {D : va_G} {cy : Nat → ClassId} {h0 a1 : Nat} : NM l D cy yX1_init cX1_init 2 none 1 12 5 15 [.ref h0, .ref a1] [(h0, .inr (0, [.long 0, .int 0, .int 0, .null, .null, .null, .null, .null, .null]))] none (pw_X1_init cy h0 a1) := by
  refine nmet_of "TickPools$Finder" rfl (by decide +kernel) [(0, .ref h0), (1, .ref a1)] rfl (Nat.le_of_ble_eq_true rfl) (fun X sz hX C hr hi hA => ?_)
  refine n_aload_n (j := 0) C d_X1_init_0 rfl ?_
  refine n_obj C tw_428 d_X1_init_1 (by decide) (Nat.le_of_ble_eq_true rfl) ?_
  refine n_aload_n (j := 0) C d_X1_init_4 rfl ?_
  refine n_aload_n (j := 1) C d_X1_init_5 rfl ?_
  refine n_putF (ref := "") (Cn := RX1) (T := TX1) (ty := tyX1 3) C hi 0 3 inX1 tyX1_ok nmX1 rfl tw_435 rfl rfl (by decide) (by decide +kernel) rfl rfl (Nat.le_of_ble_eq_true rfl) d_X1_init_6 ?_
  refine n_eq (ws' := [(h0, .inr (0, [.long 0, .int 0, .int 0, .ref a1, .null, .null, .null, .null, .null]))]) rfl ?_
  refine n_aload_n (j := 0) C d_X1_init_9 rfl ?_
  refine n_iconst (v := 3) C d_X1_init_10 (by decide) ?_
  refine n_newa (atype := .int) (ty := .int) (N := 3) (a0 := (3, .inl (fun _ => 0))) C 1 tw_140 rfl rfl (fun _ => rfl) (by decide) (by decide +kernel) (by decide) (Nat.le_of_ble_eq_true rfl) (Nat.le_of_ble_eq_true rfl) d_X1_init_11 (fun q0 => ?_)
  refine n_eq (ws' := [(h0, .inr (0, [.long 0, .int 0, .int 0, .ref a1, .null, .null, .null, .null, .null])), (q0, .inl (cy 1, 3, .inl (fun _ => 0)))]) rfl ?_
  refine n_putF (ref := "") (Cn := RX1) (T := TX1) (ty := tyX1 4) C hi 0 4 inX1 tyX1_ok nmX1 rfl tw_436 rfl rfl (by decide) (by decide +kernel) rfl rfl (Nat.le_of_ble_eq_true rfl) d_X1_init_13 ?_
  refine n_eq (ws' := [(h0, .inr (0, [.long 0, .int 0, .int 0, .ref a1, .ref q0, .null, .null, .null, .null])), (q0, .inl (cy 1, 3, .inl (fun _ => 0)))]) rfl ?_
  refine n_aload_n (j := 0) C d_X1_init_16 rfl ?_
  refine n_iconst (v := 3) C d_X1_init_17 (by decide) ?_
  refine n_newa (atype := .int) (ty := .int) (N := 3) (a0 := (3, .inl (fun _ => 0))) C 1 tw_140 rfl rfl (fun _ => rfl) (by decide) (by decide +kernel) (by decide) (Nat.le_of_ble_eq_true rfl) (Nat.le_of_ble_eq_true rfl) d_X1_init_18 (fun q1 => ?_)
  refine n_eq (ws' := [(h0, .inr (0, [.long 0, .int 0, .int 0, .ref a1, .ref q0, .null, .null, .null, .null])), (q0, .inl (cy 1, 3, .inl (fun _ => 0))), (q1, .inl (cy 1, 3, .inl (fun _ => 0)))]) rfl ?_
  refine n_putF (ref := "") (Cn := RX1) (T := TX1) (ty := tyX1 5) C hi 0 5 inX1 tyX1_ok nmX1 rfl tw_437 rfl rfl (by decide) (by decide +kernel) rfl rfl (Nat.le_of_ble_eq_true rfl) d_X1_init_20 ?_
  refine n_eq (ws' := [(h0, .inr (0, [.long 0, .int 0, .int 0, .ref a1, .ref q0, .ref q1, .null, .null, .null])), (q0, .inl (cy 1, 3, .inl (fun _ => 0))), (q1, .inl (cy 1, 3, .inl (fun _ => 0)))]) rfl ?_
  refine n_aload_n (j := 0) C d_X1_init_23 rfl ?_
  refine n_iconst (v := 3) C d_X1_init_24 (by decide) ?_
  refine n_newa (atype := .int) (ty := .int) (N := 3) (a0 := (3, .inl (fun _ => 0))) C 1 tw_140 rfl rfl (fun _ => rfl) (by decide) (by decide +kernel) (by decide) (Nat.le_of_ble_eq_true rfl) (Nat.le_of_ble_eq_true rfl) d_X1_init_25 (fun q2 => ?_)
  refine n_eq (ws' := [(h0, .inr (0, [.long 0, .int 0, .int 0, .ref a1, .ref q0, .ref q1, .null, .null, .null])), (q0, .inl (cy 1, 3, .inl (fun _ => 0))), (q1, .inl (cy 1, 3, .inl (fun _ => 0))), (q2, .inl (cy 1, 3, .inl (fun _ => 0)))]) rfl ?_
  refine n_putF (ref := "") (Cn := RX1) (T := TX1) (ty := tyX1 6) C hi 0 6 inX1 tyX1_ok nmX1 rfl tw_438 rfl rfl (by decide) (by decide +kernel) rfl rfl (Nat.le_of_ble_eq_true rfl) d_X1_init_27 ?_
  refine n_eq (ws' := [(h0, .inr (0, [.long 0, .int 0, .int 0, .ref a1, .ref q0, .ref q1, .ref q2, .null, .null])), (q0, .inl (cy 1, 3, .inl (fun _ => 0))), (q1, .inl (cy 1, 3, .inl (fun _ => 0))), (q2, .inl (cy 1, 3, .inl (fun _ => 0)))]) rfl ?_
  refine n_aload_n (j := 0) C d_X1_init_30 rfl ?_
  refine n_iconst (v := 3) C d_X1_init_31 (by decide) ?_
  refine n_newa (atype := .long) (ty := .long) (N := 3) (a0 := (3, .inr (.inl (fun _ => 0)))) C 2 tw_189 rfl rfl (fun _ => rfl) (by decide) (by decide +kernel) (by decide) (Nat.le_of_ble_eq_true rfl) (Nat.le_of_ble_eq_true rfl) d_X1_init_32 (fun q3 => ?_)
  refine n_eq (ws' := [(h0, .inr (0, [.long 0, .int 0, .int 0, .ref a1, .ref q0, .ref q1, .ref q2, .null, .null])), (q0, .inl (cy 1, 3, .inl (fun _ => 0))), (q1, .inl (cy 1, 3, .inl (fun _ => 0))), (q2, .inl (cy 1, 3, .inl (fun _ => 0))), (q3, .inl (cy 2, 3, .inr (.inl (fun _ => 0))))]) rfl ?_
  refine n_putF (ref := "") (Cn := RX1) (T := TX1) (ty := tyX1 7) C hi 0 7 inX1 tyX1_ok nmX1 rfl tw_439 rfl rfl (by decide) (by decide +kernel) rfl rfl (Nat.le_of_ble_eq_true rfl) d_X1_init_34 ?_
  refine n_eq (ws' := [(h0, .inr (0, [.long 0, .int 0, .int 0, .ref a1, .ref q0, .ref q1, .ref q2, .ref q3, .null])), (q0, .inl (cy 1, 3, .inl (fun _ => 0))), (q1, .inl (cy 1, 3, .inl (fun _ => 0))), (q2, .inl (cy 1, 3, .inl (fun _ => 0))), (q3, .inl (cy 2, 3, .inr (.inl (fun _ => 0))))]) rfl ?_
  refine n_aload_n (j := 0) C d_X1_init_37 rfl ?_
  refine n_iconst (v := 3) C d_X1_init_38 (by decide) ?_
  refine n_newa (atype := .int) (ty := .int) (N := 3) (a0 := (3, .inl (fun _ => 0))) C 1 tw_140 rfl rfl (fun _ => rfl) (by decide) (by decide +kernel) (by decide) (Nat.le_of_ble_eq_true rfl) (Nat.le_of_ble_eq_true rfl) d_X1_init_39 (fun q4 => ?_)
  refine n_eq (ws' := [(h0, .inr (0, [.long 0, .int 0, .int 0, .ref a1, .ref q0, .ref q1, .ref q2, .ref q3, .null])), (q0, .inl (cy 1, 3, .inl (fun _ => 0))), (q1, .inl (cy 1, 3, .inl (fun _ => 0))), (q2, .inl (cy 1, 3, .inl (fun _ => 0))), (q3, .inl (cy 2, 3, .inr (.inl (fun _ => 0)))), (q4, .inl (cy 1, 3, .inl (fun _ => 0)))]) rfl ?_
  refine n_putF (ref := "") (Cn := RX1) (T := TX1) (ty := tyX1 8) C hi 0 8 inX1 tyX1_ok nmX1 rfl tw_440 rfl rfl (by decide) (by decide +kernel) rfl rfl (Nat.le_of_ble_eq_true rfl) d_X1_init_41 ?_
  refine n_eq (ws' := [(h0, .inr (0, [.long 0, .int 0, .int 0, .ref a1, .ref q0, .ref q1, .ref q2, .ref q3, .ref q4])), (q0, .inl (cy 1, 3, .inl (fun _ => 0))), (q1, .inl (cy 1, 3, .inl (fun _ => 0))), (q2, .inl (cy 1, 3, .inl (fun _ => 0))), (q3, .inl (cy 2, 3, .inr (.inl (fun _ => 0)))), (q4, .inl (cy 1, 3, .inl (fun _ => 0)))]) rfl ?_
  exact n_ret C hr hA (fun k => ([h0, q0, q1, q2, q3, q4] : List Nat).getD k 0) rfl d_X1_init_44 rfl rfl
