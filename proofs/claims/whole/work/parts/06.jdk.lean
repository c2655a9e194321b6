/-! the words' own methods: String.length and String.charAt of the twelve constants -/
def yJ_length : MethodName := ⟨"java/lang/String", "length", "()I"⟩
def yJ_coder : MethodName := ⟨"java/lang/String", "coder", "()B"⟩
def yJ_charAt : MethodName := ⟨"java/lang/String", "charAt", "(I)C"⟩
def yJ_isLatin1 : MethodName := ⟨"java/lang/String", "isLatin1", "()Z"⟩
def yJ_lcharAt : MethodName := ⟨"java/lang/StringLatin1", "charAt", "([BI)C"⟩
def yJ_check : MethodName := ⟨"java/lang/String", "checkIndex", "(II)V"⟩
def yJ_pcheck : MethodName := ⟨"jdk/internal/util/Preconditions", "checkIndex", "(IILjava/util/function/BiFunction;)I"⟩
def isS (h : Nat) : Bool := decide (301 ≤ h) && decide (h < 313)
def strN (h : Nat) : Nat := slen.getD (h - 301) 0
def strB (h j : Nat) : Int32 := (sbyt.getD (h - 301) []).getD j 0
def strC (h j : Nat) : Int32 := ((strB h j &&& 255).toUInt32 % 65536).toInt32
theorem isS_of {h : Nat} (hs : isS h = true) : ∃ i, i < 12 ∧ h = 301 + i := by
  simp [isS] at hs
  exact ⟨h - 301, by omega, by omega⟩
section ZJ
variable {X : MC} {Γ : GG} {cc : ByteArray} {nL : Nat} {own : String} {fr lo : Nat} {Q : State → Prop} {S : Mem} {pc : Nat} {lv : List (Nat × AV)} {rest : List AV}
theorem z_compact (C : CX X Γ cc nL own fr lo) {idx : Nat} (hw : Cond.fieldLink own idx "java/lang/String" "COMPACT_STRINGS" "Z" ∈ lw_gt) (hd : decode cc pc = .ok (.getstatic idx, 3)) (k9 : ZZ X Γ nL Q S (pc + 3) lv (aI 1 :: rest)) : ZZ X Γ nL Q S pc lv rest := fun H locs ls hP hS hl => va_gets C.1 C.2.1 C.2.2.2.2.2.2.1.2.2.2.1 hS C.2.2.2.1 (C.2.2.2.2.1 _ hw) (fun _ h9 => h9) hd (k9 H locs ls hP hS hl)
theorem z_sioobe (C : CX X Γ cc nL own fr lo) {idx : Nat} (hw : Cond.fieldLink own idx "jdk/internal/util/Preconditions" "SIOOBE_FORMATTER" "Ljava/util/function/BiFunction;" ∈ lw_gt) (hd : decode cc pc = .ok (.getstatic idx, 3)) (k9 : ∀ h : Nat, ZZ X Γ nL Q S (pc + 3) lv (aR h :: rest)) : ZZ X Γ nL Q S pc lv rest := fun H locs ls hP hS hl => by
  obtain ⟨h, hz⟩ := C.2.2.2.2.2.2.1.2.2.2.2
  exact va_gets C.1 C.2.1 hz hS C.2.2.2.1 (C.2.2.2.2.1 _ hw) (fun _ h9 => h9) hd (k9 h H locs ls hP hS hl)
theorem z_strCoder (C : CX X Γ cc nL own fr lo) {h idx : Nat} (hs : isS h = true) (hw : Cond.fieldLink own idx "java/lang/String" "coder" "B" ∈ lw_gt) (hd : decode cc pc = .ok (.getfield idx, 3)) (k9 : ZZ X Γ nL Q S (pc + 3) lv (aI 0 :: rest)) : ZZ X Γ nL Q S pc lv (aR h :: rest) := by
  obtain ⟨i, hi, rfl⟩ := isS_of hs
  intro H locs ls hP hS hl
  show W _ _ _ _ _ _ _ _ _ _ _ _ _ _ _ (F0 _ pc ls (rv Γ (301 + i) :: rest.map (tv Γ)))
  rw [rv_pos (by omega)]
  exact vk_getf C.1 C.2.1 (C.2.2.2.2.2.2.1.2.2.1.1 i hi).2.1 hS C.2.2.2.1 (C.2.2.2.2.1 _ hw) (fun _ h9 => h9) hd (k9 H locs ls hP hS hl)
theorem z_strVal (C : CX X Γ cc nL own fr lo) {h idx : Nat} (hs : isS h = true) (hw : Cond.fieldLink own idx "java/lang/String" "value" "[B" ∈ lw_gt) (hd : decode cc pc = .ok (.getfield idx, 3)) (k9 : ZZ X Γ nL Q S (pc + 3) lv (aR (h + 20) :: rest)) : ZZ X Γ nL Q S pc lv (aR h :: rest) := by
  obtain ⟨i, hi, rfl⟩ := isS_of hs
  intro H locs ls hP hS hl
  have h2 := k9 H locs ls hP hS hl
  have e : (aR (301 + i + 20) :: rest).map (tv Γ) = Value.ref (Γ.2.1 (321 + i)) :: rest.map (tv Γ) := by
    show rv Γ (301 + i + 20) :: _ = _
    rw [rv_pos (by omega), show 301 + i + 20 = 321 + i by omega]
  rw [e] at h2
  show W _ _ _ _ _ _ _ _ _ _ _ _ _ _ _ (F0 _ pc ls (rv Γ (301 + i) :: rest.map (tv Γ)))
  rw [rv_pos (by omega)]
  exact vk_getf C.1 C.2.1 (C.2.2.2.2.2.2.1.2.2.1.1 i hi).2.2.1 hS C.2.2.2.1 (C.2.2.2.2.1 _ hw) (fun _ h9 => h9) hd h2
theorem z_strLen (C : CX X Γ cc nL own fr lo) {h : Nat} (hs : isS h = true) (hd : decode cc pc = .ok (.arraylength, 1)) (k9 : ZZ X Γ nL Q S (pc + 1) lv (aI (Int32.ofNat (strN h)) :: rest)) : ZZ X Γ nL Q S pc lv (aR (h + 20) :: rest) := by
  obtain ⟨i, hi, rfl⟩ := isS_of hs
  intro H locs ls hP hS hl
  show W _ _ _ _ _ _ _ _ _ _ _ _ _ _ _ (F0 _ pc ls (rv Γ (301 + i + 20) :: rest.map (tv Γ)))
  rw [rv_pos (by omega), show 301 + i + 20 = 321 + i by omega]
  have e : strN (301 + i) = slen.getD i 0 := by unfold strN; rw [show 301 + i - 301 = i by omega]
  exact va_tlen C.1 C.2.1 (C.2.2.2.2.2.2.1.2.2.1.1 i hi).2.2.2 hS (by rw [e]) hd (k9 H locs ls hP hS hl)
theorem z_strByte (C : CX X Γ cc nL own fr lo) {h : Nat} {j : Int32} (hs : isS h = true) (hj : inb j (strN h) = true) (hd : decode cc pc = .ok (.baload, 1)) (k9 : ZZ X Γ nL Q S (pc + 1) lv (aI (strB h j.toNatClampNeg) :: rest)) : ZZ X Γ nL Q S pc lv (aI j :: aR (h + 20) :: rest) := by
  obtain ⟨i, hi, rfl⟩ := isS_of hs
  intro H locs ls hP hS hl
  show W _ _ _ _ _ _ _ _ _ _ _ _ _ _ _ (F0 _ pc ls (.int j :: rv Γ (301 + i + 20) :: rest.map (tv Γ)))
  rw [rv_pos (by omega), show 301 + i + 20 = 321 + i by omega]
  have e : strN (301 + i) = slen.getD i 0 := by unfold strN; rw [show 301 + i - 301 = i by omega]
  have e2 : strB (301 + i) j.toNatClampNeg = (sbyt.getD i []).getD j.toNatClampNeg 0 := by unfold strB; rw [show 301 + i - 301 = i by omega]
  rw [e] at hj
  rw [e2] at k9
  exact va_tb C.1 C.2.1 (C.2.2.2.2.2.2.1.2.2.1.1 i hi).2.2.2 hS (inb_vp hj) rfl hd (k9 H locs ls hP hS hl)
theorem z_i2c (C : CX X Γ cc nL own fr lo) {x : Int32} (hd : decode cc pc = .ok (.i2c, 1)) (k9 : ZZ X Γ nL Q S (pc + 1) lv (aI (x.toUInt32 % 65536).toInt32 :: rest)) : ZZ X Γ nL Q S pc lv (aI x :: rest) := fun H locs ls hP hS hl => lv_i2c C.1 C.2.1 hd rfl (k9 H locs ls hP hS hl)
theorem z_callStr (C : CX X Γ cc nL own fr lo) {h idx : Nat} {y : MethodName} {b : ByteArray} {nl : Nat} {rt : Option FieldType} {f1 l1 : Nat} {v : AV} {S1 : Mem} {st : List AV} (As : List AV) (hs : isS h = true) (hy : y.cls = "java/lang/String") (ca : CalV y b nl rt As.length) (hw : Cond.methodLink own idx y ∈ lw_gt) (hrm : f1 + 1 ≤ fr ∧ 8 + (nl + 11) + l1 ≤ lo) (hst : (rest.map cat).sum ≤ 8) (hd : decode cc pc = .ok (.invokevirtual idx, 3)) (hM : MM X.2.1 Γ y b nl rt f1 l1 (aR h :: As) S (some v) S1) (es : st = As.reverse ++ aR h :: rest) (k9 : ZZ X Γ nL Q S1 (pc + 3) lv (v :: rest)) : ZZ X Γ nL Q S pc lv st := by
  subst es
  obtain ⟨i, hi, rfl⟩ := isS_of hs
  intro H locs ls hP hS hl
  have h0 : 301 + i ≠ 0 := by omega
  have hts := C.2.2.2.2.1
  obtain ⟨⟨c1, c2, c3⟩, c4, c5⟩ := ca
  have e : ((aR (301 + i) :: As).map (tv Γ)).toArray = (Value.ref (Γ.2.1 (301 + i)) :: As.map (tv Γ)).toArray := by show (rv Γ (301 + i) :: As.map (tv Γ)).toArray = _; rw [rv_pos h0]
  refine z_go (y := y) (v := some v) (S1 := S1) (va_runV (C := y.cls) (b := Γ.2.1 (301 + i)) (As := As.map (tv Γ)) (rest := rest.map (tv Γ)) ⟨C.1, C.2.1, C.2.2.1, C.2.2.2.1, hts⟩ hM ⟨callB_of As.length hts (gt_good c2) rfl rfl rfl (hts _ c1) (hts _ hw) c3 ⟨Nat.le_trans hrm.1 C.2.2.2.2.2.2.2.2.2.2.1, Nat.le_trans hrm.2 C.2.2.2.2.2.2.2.2.2.2.2.1⟩, hts _ c4, hts _ c5⟩ ⟨pre_blind, ?_, fun U hU hW => ⟨by rw [← e], pre_at C hP hS hU hW⟩⟩ rfl (by rw [List.length_map]) (hl.1) ?_ (lv_room (by rw [cat_sum]; exact hst)) hd ⟨C.2.2.2.2.2.2.2.2.2.2.2.2.2.1, C.2.2.2.2.2.2.2.2.2.2.2.2.2.2⟩) C.2.2.2.2.2.2.2.2.2.2.2.2.1 hS hl k9
  · rw [hy]
    exact vk_recv (i := i) (adK := fun i => Γ.2.1 (301 + i)) C.2.2.2.2.2.2.1.2.2.1 hi hS
  · show (As.reverse ++ aR (301 + i) :: rest).map (tv Γ) = _
    rw [st_rev]
    show _ ++ rv Γ (301 + i) :: _ = _
    rw [rv_pos h0]
end ZJ
theorem kJ_coder : CalV yJ_coder prog_15_method_152_code 1 (some .byte) 0 := ⟨⟨tw_13, tw_549, by decide +kernel, by decide +kernel, by decide +kernel⟩, tw_547, tw_548⟩
theorem kJ_length : CalV yJ_length prog_15_method_54_code 1 (some .int) 0 := ⟨⟨tw_13, tw_545, by decide +kernel, by decide +kernel, by decide +kernel⟩, tw_543, tw_544⟩
theorem kJ_charAt : CalV yJ_charAt prog_15_method_56_code 2 (some .char) 1 := ⟨⟨tw_13, tw_555, by decide +kernel, by decide +kernel, by decide +kernel⟩, tw_553, tw_554⟩
theorem kJ_isLatin1 : CalV yJ_isLatin1 prog_15_method_154_code 1 (some .boolean) 0 := ⟨⟨tw_13, tw_559, by decide +kernel, by decide +kernel, by decide +kernel⟩, tw_557, tw_558⟩
theorem kJ_lcharAt : CalS yJ_lcharAt prog_16_method_2_code 2 (some .char) 2 := ⟨⟨tw_14, tw_562, by decide +kernel, by decide +kernel, by decide +kernel⟩, tw_561⟩
theorem kJ_check : CalS yJ_check prog_15_method_155_code 2 none 2 := ⟨⟨tw_13, tw_565, by decide +kernel, by decide +kernel, by decide +kernel⟩, tw_564⟩
theorem kJ_pcheck : CalS yJ_pcheck prog_19_method_11_code 3 (some .int) 3 := ⟨⟨tw_15, tw_570, by decide +kernel, by decide +kernel, by decide +kernel⟩, tw_569⟩
theorem dJ0_coder_7d493_0 : decode prog_15_method_152_code 0 = .ok (.getstatic 38, 3) := by decide +kernel
theorem dJ0_coder_7d493_3 : decode prog_15_method_152_code 3 = .ok (.ifCond .eq 10, 3) := by decide +kernel
theorem dJ0_coder_7d493_6 : decode prog_15_method_152_code 6 = .ok (.aload_n 0, 1) := by decide +kernel
theorem dJ0_coder_7d493_7 : decode prog_15_method_152_code 7 = .ok (.getfield 15, 3) := by decide +kernel
theorem dJ0_coder_7d493_10 : decode prog_15_method_152_code 10 = .ok (.goto 4, 3) := by decide +kernel
theorem dJ0_coder_7d493_13 : decode prog_15_method_152_code 13 = .ok (.iconst 1, 1) := by decide +kernel
theorem dJ0_coder_7d493_14 : decode prog_15_method_152_code 14 = .ok (.ireturn, 1) := by decide +kernel
theorem dJ0_isLatin1_aae02_0 : decode prog_15_method_154_code 0 = .ok (.getstatic 38, 3) := by decide +kernel
theorem dJ0_isLatin1_aae02_3 : decode prog_15_method_154_code 3 = .ok (.ifCond .eq 14, 3) := by decide +kernel
theorem dJ0_isLatin1_aae02_6 : decode prog_15_method_154_code 6 = .ok (.aload_n 0, 1) := by decide +kernel
theorem dJ0_isLatin1_aae02_7 : decode prog_15_method_154_code 7 = .ok (.getfield 15, 3) := by decide +kernel
theorem dJ0_isLatin1_aae02_10 : decode prog_15_method_154_code 10 = .ok (.ifCond .ne 7, 3) := by decide +kernel
theorem dJ0_isLatin1_aae02_13 : decode prog_15_method_154_code 13 = .ok (.iconst 1, 1) := by decide +kernel
theorem dJ0_isLatin1_aae02_14 : decode prog_15_method_154_code 14 = .ok (.goto 4, 3) := by decide +kernel
theorem dJ0_isLatin1_aae02_17 : decode prog_15_method_154_code 17 = .ok (.iconst 0, 1) := by decide +kernel
theorem dJ0_isLatin1_aae02_18 : decode prog_15_method_154_code 18 = .ok (.ireturn, 1) := by decide +kernel
theorem dJ0_length_8abf5_0 : decode prog_15_method_54_code 0 = .ok (.aload_n 0, 1) := by decide +kernel
theorem dJ0_length_8abf5_1 : decode prog_15_method_54_code 1 = .ok (.getfield 9, 3) := by decide +kernel
theorem dJ0_length_8abf5_4 : decode prog_15_method_54_code 4 = .ok (.arraylength, 1) := by decide +kernel
theorem dJ0_length_8abf5_5 : decode prog_15_method_54_code 5 = .ok (.aload_n 0, 1) := by decide +kernel
theorem dJ0_length_8abf5_6 : decode prog_15_method_54_code 6 = .ok (.invokevirtual 335, 3) := by decide +kernel
theorem dJ0_length_8abf5_9 : decode prog_15_method_54_code 9 = .ok (.ishr, 1) := by decide +kernel
theorem dJ0_length_8abf5_10 : decode prog_15_method_54_code 10 = .ok (.ireturn, 1) := by decide +kernel
theorem dJ3_checkIndex_8e157_0 : decode prog_19_method_11_code 0 = .ok (.iload_n 0, 1) := by decide +kernel
theorem dJ3_checkIndex_8e157_1 : decode prog_19_method_11_code 1 = .ok (.ifCond .lt 8, 3) := by decide +kernel
theorem dJ3_checkIndex_8e157_4 : decode prog_19_method_11_code 4 = .ok (.iload_n 0, 1) := by decide +kernel
theorem dJ3_checkIndex_8e157_5 : decode prog_19_method_11_code 5 = .ok (.iload_n 1, 1) := by decide +kernel
theorem dJ3_checkIndex_8e157_6 : decode prog_19_method_11_code 6 = .ok (.if_icmp .lt 10, 3) := by decide +kernel
theorem dJ3_checkIndex_8e157_9 : decode prog_19_method_11_code 9 = .ok (.aload_n 2, 1) := by decide +kernel
theorem dJ3_checkIndex_8e157_10 : decode prog_19_method_11_code 10 = .ok (.iload_n 0, 1) := by decide +kernel
theorem dJ3_checkIndex_8e157_11 : decode prog_19_method_11_code 11 = .ok (.iload_n 1, 1) := by decide +kernel
theorem dJ3_checkIndex_8e157_12 : decode prog_19_method_11_code 12 = .ok (.invokestatic 95, 3) := by decide +kernel
theorem dJ3_checkIndex_8e157_15 : decode prog_19_method_11_code 15 = .ok (.athrow, 1) := by decide +kernel
theorem dJ3_checkIndex_8e157_16 : decode prog_19_method_11_code 16 = .ok (.iload_n 0, 1) := by decide +kernel
theorem dJ3_checkIndex_8e157_17 : decode prog_19_method_11_code 17 = .ok (.ireturn, 1) := by decide +kernel
theorem dJ0_checkIndex_df160_0 : decode prog_15_method_155_code 0 = .ok (.iload_n 0, 1) := by decide +kernel
theorem dJ0_checkIndex_df160_1 : decode prog_15_method_155_code 1 = .ok (.iload_n 1, 1) := by decide +kernel
theorem dJ0_checkIndex_df160_2 : decode prog_15_method_155_code 2 = .ok (.getstatic 1053, 3) := by decide +kernel
theorem dJ0_checkIndex_df160_5 : decode prog_15_method_155_code 5 = .ok (.invokestatic 1059, 3) := by decide +kernel
theorem dJ0_checkIndex_df160_8 : decode prog_15_method_155_code 8 = .ok (.pop, 1) := by decide +kernel
theorem dJ0_checkIndex_df160_9 : decode prog_15_method_155_code 9 = .ok (.return_, 1) := by decide +kernel
theorem dJ1_charAt_3b067_0 : decode prog_16_method_2_code 0 = .ok (.iload_n 1, 1) := by decide +kernel
theorem dJ1_charAt_3b067_1 : decode prog_16_method_2_code 1 = .ok (.aload_n 0, 1) := by decide +kernel
theorem dJ1_charAt_3b067_2 : decode prog_16_method_2_code 2 = .ok (.arraylength, 1) := by decide +kernel
theorem dJ1_charAt_3b067_3 : decode prog_16_method_2_code 3 = .ok (.invokestatic 9, 3) := by decide +kernel
theorem dJ1_charAt_3b067_6 : decode prog_16_method_2_code 6 = .ok (.aload_n 0, 1) := by decide +kernel
theorem dJ1_charAt_3b067_7 : decode prog_16_method_2_code 7 = .ok (.iload_n 1, 1) := by decide +kernel
theorem dJ1_charAt_3b067_8 : decode prog_16_method_2_code 8 = .ok (.baload, 1) := by decide +kernel
theorem dJ1_charAt_3b067_9 : decode prog_16_method_2_code 9 = .ok (.sipush 255, 3) := by decide +kernel
theorem dJ1_charAt_3b067_12 : decode prog_16_method_2_code 12 = .ok (.iand, 1) := by decide +kernel
theorem dJ1_charAt_3b067_13 : decode prog_16_method_2_code 13 = .ok (.i2c, 1) := by decide +kernel
theorem dJ1_charAt_3b067_14 : decode prog_16_method_2_code 14 = .ok (.ireturn, 1) := by decide +kernel
theorem dJ0_charAt_5068e_0 : decode prog_15_method_56_code 0 = .ok (.aload_n 0, 1) := by decide +kernel
theorem dJ0_charAt_5068e_1 : decode prog_15_method_56_code 1 = .ok (.invokevirtual 492, 3) := by decide +kernel
theorem dJ0_charAt_5068e_4 : decode prog_15_method_56_code 4 = .ok (.ifCond .eq 12, 3) := by decide +kernel
theorem dJ0_charAt_5068e_7 : decode prog_15_method_56_code 7 = .ok (.aload_n 0, 1) := by decide +kernel
theorem dJ0_charAt_5068e_8 : decode prog_15_method_56_code 8 = .ok (.getfield 9, 3) := by decide +kernel
theorem dJ0_charAt_5068e_11 : decode prog_15_method_56_code 11 = .ok (.iload_n 1, 1) := by decide +kernel
theorem dJ0_charAt_5068e_12 : decode prog_15_method_56_code 12 = .ok (.invokestatic 495, 3) := by decide +kernel
theorem dJ0_charAt_5068e_15 : decode prog_15_method_56_code 15 = .ok (.ireturn, 1) := by decide +kernel
theorem dJ0_charAt_5068e_16 : decode prog_15_method_56_code 16 = .ok (.aload_n 0, 1) := by decide +kernel
theorem dJ0_charAt_5068e_17 : decode prog_15_method_56_code 17 = .ok (.getfield 9, 3) := by decide +kernel
theorem dJ0_charAt_5068e_20 : decode prog_15_method_56_code 20 = .ok (.iload_n 1, 1) := by decide +kernel
theorem dJ0_charAt_5068e_21 : decode prog_15_method_56_code 21 = .ok (.invokestatic 498, 3) := by decide +kernel
theorem dJ0_charAt_5068e_24 : decode prog_15_method_56_code 24 = .ok (.ireturn, 1) := by decide +kernel
theorem cJ_coder {l : Launch} {Γ : GG} (hI : Inj Γ) {h : Nat} (hs : isS h = true) {S : Mem} : MM l Γ yJ_coder prog_15_method_152_code 1 (some .byte) 0 0 [aR h] S (some (aI 0)) S := by
  refine met_of hI "java/lang/String" rfl (by decide +kernel) (Nat.le_of_ble_eq_true rfl) (fun X hX C hr => ?_)
  show ZZ X Γ 1 _ S 0 [(0, aR h)] []
  refine z_compact C tw_550 dJ0_coder_7d493_0 ?_
  refine z_if_eq (α := Unit) (A := none) (B := some ()) (q := ()) (tgt := 13) C dJ0_coder_7d493_3 (by decide) rfl (fun c hf => absurd c (by decide)) (fun _ _ => ?_)
  refine z_aload_n (j := 0) C dJ0_coder_7d493_6 rfl ?_
  refine z_strCoder C hs tw_1880 dJ0_coder_7d493_7 ?_
  refine z_goto (tgt := 14) C dJ0_coder_7d493_10 (by decide) ?_
  exact z_ireturn C hr (by decide) dJ0_coder_7d493_14 rfl rfl
theorem cJ_isLatin1 {l : Launch} {Γ : GG} (hI : Inj Γ) {h : Nat} (hs : isS h = true) {S : Mem} : MM l Γ yJ_isLatin1 prog_15_method_154_code 1 (some .boolean) 0 0 [aR h] S (some (aI 1)) S := by
  refine met_of hI "java/lang/String" rfl (by decide +kernel) (Nat.le_of_ble_eq_true rfl) (fun X hX C hr => ?_)
  show ZZ X Γ 1 _ S 0 [(0, aR h)] []
  refine z_compact C tw_550 dJ0_isLatin1_aae02_0 ?_
  refine z_if_eq (α := Unit) (A := none) (B := some ()) (q := ()) (tgt := 17) C dJ0_isLatin1_aae02_3 (by decide) rfl (fun c hf => absurd c (by decide)) (fun _ _ => ?_)
  refine z_aload_n (j := 0) C dJ0_isLatin1_aae02_6 rfl ?_
  refine z_strCoder C hs tw_1880 dJ0_isLatin1_aae02_7 ?_
  refine z_if_ne (α := Unit) (A := none) (B := some ()) (q := ()) (tgt := 17) C dJ0_isLatin1_aae02_10 (by decide) rfl (fun c hf => absurd rfl c) (fun _ _ => ?_)
  refine z_iconst (v := 1) C dJ0_isLatin1_aae02_13 (by decide) ?_
  refine z_goto (tgt := 18) C dJ0_isLatin1_aae02_14 (by decide) ?_
  exact z_ireturn C hr (by decide) dJ0_isLatin1_aae02_18 rfl rfl
theorem cJ_length {l : Launch} {Γ : GG} (hI : Inj Γ) {h : Nat} (hs : isS h = true) {S : Mem} : MM l Γ yJ_length prog_15_method_54_code 1 (some .int) 1 20 [aR h] S (some (aI (Int32.ofNat (strN h)))) S := by
  refine met_of hI "java/lang/String" rfl (by decide +kernel) (Nat.le_of_ble_eq_true rfl) (fun X hX C hr => ?_)
  show ZZ X Γ 1 _ S 0 [(0, aR h)] []
  refine z_aload_n (j := 0) C dJ0_length_8abf5_0 rfl ?_
  refine z_strVal C hs tw_1879 dJ0_length_8abf5_1 ?_
  refine z_strLen C hs dJ0_length_8abf5_4 ?_
  refine z_aload_n (j := 0) C dJ0_length_8abf5_5 rfl ?_
  refine z_callStr (rest := [aI (Int32.ofNat (strN h))]) C [] hs rfl kJ_coder tw_546 ⟨by decide, by decide⟩ (Nat.le_of_ble_eq_true rfl) dJ0_length_8abf5_6 (cJ_coder C.inj hs) rfl ?_
  refine z_ishr C dJ0_length_8abf5_9 ?_
  refine z_ireturn C hr rfl dJ0_length_8abf5_10 ?_ rfl
  have e : ∀ i, i < 12 → Int32.ofNat (slen.getD i 0) >>> ((0 : Int32) &&& 31) = Int32.ofNat (slen.getD i 0) := by decide +kernel
  obtain ⟨i, hi, rfl⟩ := isS_of hs
  unfold strN
  rw [show 301 + i - 301 = i by omega, e i hi]
theorem cJ_pcheck {l : Launch} {Γ : GG} (hI : Inj Γ) {a b : Int32} {h : Nat} (h1 : ¬ a < 0) (h2 : a < b) {S : Mem} : MM l Γ yJ_pcheck prog_19_method_11_code 3 (some .int) 0 0 [aI a, aI b, aR h] S (some (aI a)) S := by
  refine met_of hI "jdk/internal/util/Preconditions" rfl (by decide +kernel) (Nat.le_of_ble_eq_true rfl) (fun X hX C hr => ?_)
  show ZZ X Γ 3 _ S 0 [(0, aI a), (1, aI b), (2, aR h)] []
  refine z_iload_n (j := 0) C dJ3_checkIndex_8e157_0 rfl ?_
  refine z_if_lt (α := Unit) (A := none) (B := some ()) (q := ()) (tgt := 9) C dJ3_checkIndex_8e157_1 (by decide) (if_neg h1) (fun c hf => absurd c h1) (fun _ _ => ?_)
  refine z_iload_n (j := 0) C dJ3_checkIndex_8e157_4 rfl ?_
  refine z_iload_n (j := 1) C dJ3_checkIndex_8e157_5 rfl ?_
  refine z_icmp_lt (α := Unit) (A := some ()) (B := none) (q := ()) (tgt := 16) C dJ3_checkIndex_8e157_6 (by decide) (if_pos h2) (fun _ _ => ?_) (fun c hf => absurd h2 c)
  refine z_iload_n (j := 0) C dJ3_checkIndex_8e157_16 rfl ?_
  exact z_ireturn C hr rfl dJ3_checkIndex_8e157_17 rfl rfl
theorem cJ_check {l : Launch} {Γ : GG} (hI : Inj Γ) {a b : Int32} (h1 : ¬ a < 0) (h2 : a < b) {S : Mem} : MM l Γ yJ_check prog_15_method_155_code 2 none 1 22 [aI a, aI b] S none S := by
  refine met_of hI "java/lang/String" rfl (by decide +kernel) (Nat.le_of_ble_eq_true rfl) (fun X hX C hr => ?_)
  show ZZ X Γ 2 _ S 0 [(0, aI a), (1, aI b)] []
  refine z_iload_n (j := 0) C dJ0_checkIndex_df160_0 rfl ?_
  refine z_iload_n (j := 1) C dJ0_checkIndex_df160_1 rfl ?_
  refine z_sioobe C tw_566 dJ0_checkIndex_df160_2 (fun h => ?_)
  refine z_callS1 (rest := []) C [aI a, aI b, aR h] kJ_pcheck tw_568 ⟨by decide, by decide⟩ (Nat.le_of_ble_eq_true rfl) dJ0_checkIndex_df160_5 (cJ_pcheck C.inj h1 h2) rfl ?_
  refine z_pop C dJ0_checkIndex_df160_8 rfl ?_
  exact z_return C hr dJ0_checkIndex_df160_9 rfl rfl
theorem z_callS0 {X : MC} {Γ : GG} {cc : ByteArray} {nL : Nat} {own : String} {fr lo : Nat} {Q : State → Prop} {S : Mem} {pc : Nat} {lv : List (Nat × AV)} {rest : List AV} (C : CX X Γ cc nL own fr lo) {idx : Nat} {y : MethodName} {b : ByteArray} {nl : Nat} {rt : Option FieldType} {f1 l1 : Nat} {S1 : Mem} {st : List AV} (As : List AV) (ca : CalS y b nl rt As.length) (hw : Cond.methodLink own idx y ∈ lw_gt) (hrm : f1 + 1 ≤ fr ∧ 8 + (nl + 11) + l1 ≤ lo) (hst : (rest.map cat).sum ≤ 8) (hd : decode cc pc = .ok (.invokestatic idx, 3)) (hM : MM X.2.1 Γ y b nl rt f1 l1 As S none S1) (es : st = As.reverse ++ rest) (k9 : ZZ X Γ nL Q S1 (pc + 3) lv rest) : ZZ X Γ nL Q S pc lv st := by
  subst es
  exact z_callS C As ca hw hrm hst hd hM k9
theorem inb_ofNat {j : Int32} {n : Nat} (hn : n < 2 ^ 31) (h : inb j n = true) : ¬ j < 0 ∧ j < Int32.ofNat n := by
  simp only [inb, Bool.and_eq_true, Bool.not_eq_true', decide_eq_false_iff_not, decide_eq_true_eq] at h
  obtain ⟨h1, h2⟩ := h
  refine ⟨h1, ?_⟩
  obtain ⟨k, hk, rfl⟩ := nI_of h1
  rw [nI_clamp hk] at h2
  exact nI_lt h2 hn
theorem strN_lt (h : Nat) : strN h < 2 ^ 31 := by
  unfold strN
  rcases Nat.lt_or_ge (h - 301) 12 with q | q
  · exact Nat.lt_trans ((show ∀ i, i < 12 → slen.getD i 0 < 7 by decide +kernel) _ q) (by decide)
  · rw [List.getD_eq_getElem?_getD, List.getElem?_eq_none (by show slen.length ≤ _; exact q)]
    decide
theorem cJ_lcharAt {l : Launch} {Γ : GG} (hI : Inj Γ) {h : Nat} {j : Int32} (hs : isS h = true) (hj : inb j (strN h) = true) {S : Mem} : MM l Γ yJ_lcharAt prog_16_method_2_code 2 (some .char) 2 43 [aR (h + 20), aI j] S (some (aI (strC h j.toNatClampNeg))) S := by
  refine met_of hI "java/lang/StringLatin1" rfl (by decide +kernel) (Nat.le_of_ble_eq_true rfl) (fun X hX C hr => ?_)
  show ZZ X Γ 2 _ S 0 [(0, aR (h + 20)), (1, aI j)] []
  obtain ⟨h1, h2⟩ := inb_ofNat (strN_lt h) hj
  refine z_iload_n (j := 1) C dJ1_charAt_3b067_0 rfl ?_
  refine z_aload_n (j := 0) C dJ1_charAt_3b067_1 rfl ?_
  refine z_strLen C hs dJ1_charAt_3b067_2 ?_
  refine z_callS0 (rest := []) C [aI j, aI (Int32.ofNat (strN h))] kJ_check tw_563 ⟨by decide, by decide⟩ (Nat.le_of_ble_eq_true rfl) dJ1_charAt_3b067_3 (cJ_check C.inj h1 h2) rfl ?_
  refine z_aload_n (j := 0) C dJ1_charAt_3b067_6 rfl ?_
  refine z_iload_n (j := 1) C dJ1_charAt_3b067_7 rfl ?_
  refine z_strByte C hs hj dJ1_charAt_3b067_8 ?_
  refine z_sipush (v := 255) C dJ1_charAt_3b067_9 (by decide) ?_
  refine z_iand C dJ1_charAt_3b067_12 ?_
  refine z_i2c C dJ1_charAt_3b067_13 ?_
  exact z_ireturn C hr (pk_nc _) dJ1_charAt_3b067_14 rfl rfl
theorem cJ_charAt {l : Launch} {Γ : GG} (hI : Inj Γ) {h : Nat} {j : Int32} (hs : isS h = true) (hj : inb j (strN h) = true) {S : Mem} : MM l Γ yJ_charAt prog_15_method_56_code 2 (some .char) 3 64 [aR h, aI j] S (some (aI (strC h j.toNatClampNeg))) S := by
  refine met_of hI "java/lang/String" rfl (by decide +kernel) (Nat.le_of_ble_eq_true rfl) (fun X hX C hr => ?_)
  show ZZ X Γ 2 _ S 0 [(0, aR h), (1, aI j)] []
  refine z_aload_n (j := 0) C dJ0_charAt_5068e_0 rfl ?_
  refine z_callStr (rest := []) C [] hs rfl kJ_isLatin1 tw_556 ⟨by decide, by decide⟩ (Nat.le_of_ble_eq_true rfl) dJ0_charAt_5068e_1 (cJ_isLatin1 C.inj hs) rfl ?_
  refine z_if_eq (α := Unit) (A := none) (B := some ()) (q := ()) (tgt := 16) C dJ0_charAt_5068e_4 (by decide) rfl (fun c hf => absurd c (by decide)) (fun _ _ => ?_)
  refine z_aload_n (j := 0) C dJ0_charAt_5068e_7 rfl ?_
  refine z_strVal C hs tw_1879 dJ0_charAt_5068e_8 ?_
  refine z_iload_n (j := 1) C dJ0_charAt_5068e_11 rfl ?_
  refine z_callS1 (rest := []) C [aR (h + 20), aI j] kJ_lcharAt tw_560 ⟨by decide, by decide⟩ (Nat.le_of_ble_eq_true rfl) dJ0_charAt_5068e_12 (cJ_lcharAt C.inj hs hj) rfl ?_
  exact z_ireturn C hr (pk_nc _) dJ0_charAt_5068e_15 rfl rfl
