/-! the reference's constructor: word, rootOfNumber, its fields, its roots -/
section N34
variable {X : MC} {D : va_G} {cy : Nat → ClassId} {cc : ByteArray} {nL : Nat} {own : String} {fr lo mc ms : Nat} {Q : State → Prop} {kc ks : Nat} {ws : va_W} {pc : Nat} {lv : List (Nat × Value)} {rest : List Value}
theorem n_lload_n (C : NX X D cy cc nL own fr lo mc ms) {j : Nat} {i : Fin 4} {x : Int64} (hd : decode cc pc = .ok (.lload_n i, 1)) (hj : lv[j]? = some ((i : Nat), .long x)) (k : NZ X D nL Q kc ks ws (pc + 1) lv (.long x :: rest)) : NZ X D nL Q kc ks ws pc lv rest := fun H locs ls hP hD hS hl => lv_lload_n C.1 C.2.1 hd rfl (lv_at hl j hj) (k H locs ls hP hD hS hl)
theorem n_lstore_n (C : NX X D cy cc nL own fr lo mc ms) {i : Fin 4} {x : Int64} {lv' : List (Nat × Value)} (hd : decode cc pc = .ok (.lstore_n i, 1)) (hn : (i : Nat) + 1 < nL) (hl9 : ((i : Nat), Value.long x) :: lv.filter (fun q => !(q.1 == (i : Nat)) && (!(q.1 == (i : Nat) + 1) && !(q.1 + 1 == (i : Nat) && q.2.category == 2))) = lv') (k : NZ X D nL Q kc ks ws (pc + 1) lv' rest) : NZ X D nL Q kc ks ws pc lv (.long x :: rest) := fun H locs ls hP hD hS hl => lv_lstore_n C.1 C.2.1 hd rfl hl hn hl9 (fun ls' hl' => k H locs ls' hP hD hS hl')
theorem n_lor (C : NX X D cy cc nL own fr lo mc ms) {x y : Int64} (hd : decode cc pc = .ok (.lor, 1)) (k : NZ X D nL Q kc ks ws (pc + 1) lv (.long (x ||| y) :: rest)) : NZ X D nL Q kc ks ws pc lv (.long y :: .long x :: rest) := fun H locs ls hP hD hS hl => lv_lor C.1 C.2.1 hd (k H locs ls hP hD hS hl)
theorem n_ldiv (C : NX X D cy cc nL own fr lo mc ms) {x y : Int64} (hy : ¬ y = 0) (hd : decode cc pc = .ok (.ldiv, 1)) (k : NZ X D nL Q kc ks ws (pc + 1) lv (.long (x / y) :: rest)) : NZ X D nL Q kc ks ws pc lv (.long y :: .long x :: rest) := fun H locs ls hP hD hS hl => lv_ldiv C.1 C.2.1 hd hy (k H locs ls hP hD hS hl)
theorem n_lshr (C : NX X D cy cc nL own fr lo mc ms) {x : Int64} {y : Int32} (hd : decode cc pc = .ok (.lshr, 1)) (k : NZ X D nL Q kc ks ws (pc + 1) lv (.long (x >>> (y.toInt64 &&& 63)) :: rest)) : NZ X D nL Q kc ks ws pc lv (.int y :: .long x :: rest) := fun H locs ls hP hD hS hl => lv_lshr C.1 C.2.1 hd rfl (k H locs ls hP hD hS hl)
theorem n_topl {x y : Int64} (h : x = y) (k : NZ X D nL Q kc ks ws pc lv (.long y :: rest)) : NZ X D nL Q kc ks ws pc lv (.long x :: rest) := by
  subst h
  exact k
theorem n_lle_no (C : NX X D cy cc nL own fr lo mc ms) {x y : Int64} {off : Int} {tgt : Nat} (hd0 : decode cc pc = .ok (.lcmp, 1)) (hd : decode cc (pc + 1) = .ok (.ifCond .le off, 3)) (ht : ((pc + 1 : Nat) : Int) + off = (tgt : Int)) (hc : ¬ x ≤ y) (k : NZ X D nL Q kc ks ws (pc + 4) lv rest) : NZ X D nL Q kc ks ws pc lv (.long y :: .long x :: rest) := fun H locs ls hP hD hS hl => W.lcmp C.1 C.2.1 hd0 (lv_if_le C.1 C.2.1 hd ht (fun c => absurd ((lg_cmp_le x y).mp c) hc) (fun _ => k H locs ls hP hD hS hl))
theorem n_lle_yes (C : NX X D cy cc nL own fr lo mc ms) {x y : Int64} {off : Int} {tgt : Nat} (hd0 : decode cc pc = .ok (.lcmp, 1)) (hd : decode cc (pc + 1) = .ok (.ifCond .le off, 3)) (ht : ((pc + 1 : Nat) : Int) + off = (tgt : Int)) (hc : x ≤ y) (k : NZ X D nL Q kc ks ws tgt lv rest) : NZ X D nL Q kc ks ws pc lv (.long y :: .long x :: rest) := fun H locs ls hP hD hS hl => W.lcmp C.1 C.2.1 hd0 (lv_if_le C.1 C.2.1 hd ht (fun _ => k H locs ls hP hD hS hl) (fun c => absurd ((lg_cmp_le x y).mpr hc) c))
theorem n_lgt (C : NX X D cy cc nL own fr lo mc ms) {x y : Int64} {off : Int} {tgt : Nat} (hd0 : decode cc pc = .ok (.lcmp, 1)) (hd : decode cc (pc + 1) = .ok (.ifCond .gt off, 3)) (ht : ((pc + 1 : Nat) : Int) + off = (tgt : Int)) (kt : y < x → NZ X D nL Q kc ks ws tgt lv rest) (kf : ¬ y < x → NZ X D nL Q kc ks ws (pc + 4) lv rest) : NZ X D nL Q kc ks ws pc lv (.long y :: .long x :: rest) := fun H locs ls hP hD hS hl => W.lcmp C.1 C.2.1 hd0 (lv_if_gt C.1 C.2.1 hd ht (fun c => kt ((lg_cmp_gt x y).mp c) H locs ls hP hD hS hl) (fun c => kf (fun h => c ((lg_cmp_gt x y).mpr h)) H locs ls hP hD hS hl))
theorem n_gt_no (C : NX X D cy cc nL own fr lo mc ms) {x y : Int32} {off : Int} {tgt : Nat} (hd : decode cc pc = .ok (.if_icmp .gt off, 3)) (ht : (pc : Int) + off = (tgt : Int)) (hc : ¬ y < x) (k : NZ X D nL Q kc ks ws (pc + 3) lv rest) : NZ X D nL Q kc ks ws pc lv (.int y :: .int x :: rest) := fun H locs ls hP hD hS hl => lv_icmp_gt C.1 C.2.1 hd ht (fun c => absurd c hc) (fun _ => k H locs ls hP hD hS hl)
theorem n_gt_yes (C : NX X D cy cc nL own fr lo mc ms) {x y : Int32} {off : Int} {tgt : Nat} (hd : decode cc pc = .ok (.if_icmp .gt off, 3)) (ht : (pc : Int) + off = (tgt : Int)) (hc : y < x) (k : NZ X D nL Q kc ks ws tgt lv rest) : NZ X D nL Q kc ks ws pc lv (.int y :: .int x :: rest) := fun H locs ls hP hD hS hl => lv_icmp_gt C.1 C.2.1 hd ht (fun _ => k H locs ls hP hD hS hl) (fun c => absurd hc c)
theorem n_lt0_no (C : NX X D cy cc nL own fr lo mc ms) {x : Int32} {off : Int} {tgt : Nat} (hd : decode cc pc = .ok (.ifCond .lt off, 3)) (ht : (pc : Int) + off = (tgt : Int)) (hc : ¬ x < 0) (k : NZ X D nL Q kc ks ws (pc + 3) lv rest) : NZ X D nL Q kc ks ws pc lv (.int x :: rest) := fun H locs ls hP hD hS hl => lv_if_lt C.1 C.2.1 hd ht (fun c => absurd c hc) (fun _ => k H locs ls hP hD hS hl)
theorem n_lt0_yes (C : NX X D cy cc nL own fr lo mc ms) {x : Int32} {off : Int} {tgt : Nat} (hd : decode cc pc = .ok (.ifCond .lt off, 3)) (ht : (pc : Int) + off = (tgt : Int)) (hc : x < 0) (k : NZ X D nL Q kc ks ws tgt lv rest) : NZ X D nL Q kc ks ws pc lv (.int x :: rest) := fun H locs ls hP hD hS hl => lv_if_lt C.1 C.2.1 hd ht (fun _ => k H locs ls hP hD hS hl) (fun c => absurd hc c)
/-- a static method of the reference that needs none of the caller's cells -/
theorem n_callS (C : NX X D cy cc nL own fr lo mc ms) {idx : Nat} {y : MethodName} {b : ByteArray} {nl f1 l1 m1 s1 : Nat} {rt : Option FieldType} {v : Value} {st : List Value} (As : List Value) (isR : List Nat) (ca : CalS y b nl rt As.length) (hw : Cond.methodLink own idx y ∈ lw_gt) (hR : isR.map (fun i => ws[i]?) = ws.map some) (hn : va_nd isR = true) (hrm : f1 + 1 ≤ fr ∧ 8 + (nl + 11) + l1 ≤ lo) (hcs : kc + m1 ≤ mc ∧ ks + s1 ≤ ms) (hst : (rest.map fun v => v.category).sum ≤ 8) (hd : decode cc pc = .ok (.invokestatic idx, 3)) (hM : NM X.2.1 D cy y b nl rt f1 l1 m1 s1 As [] (some v) (fun _ => [])) (es : st = As.reverse ++ rest) (k9 : NZ X D nL Q (kc + m1) (ks + s1) ws (pc + 3) lv (v :: rest)) : NZ X D nL Q kc ks ws pc lv st := by
  subst es
  intro H locs ls hP hD hS hl
  have hts := C.2.2.2.2.1
  obtain ⟨⟨c1, c2, c3⟩, c4⟩ := ca
  exact n_back (wc := []) (wr := ws) C [] isR rfl hR hn (fun _ _ h => absurd h List.not_mem_nil) (va_runS (As := As) (rest := rest) ⟨C.1, C.2.1, C.2.2.1, C.2.2.2.1, hts⟩ (hM H.size) ⟨callB_of As.length hts (gt_good c2) rfl rfl rfl (hts _ c1) (hts _ hw) c3 ⟨Nat.le_trans hrm.1 C.2.2.2.2.2.2.2.2.1, Nat.le_trans hrm.2 C.2.2.2.2.2.2.2.2.2.1⟩, hts _ c4⟩ ⟨npre_blind, fun U hU hW => ⟨rfl, npre_at C (fun k q h => by simp at h) ⟨fun i j p q h => by simp at h, fun k q h => by simp at h⟩ hU hW⟩⟩ rfl rfl hl.1 rfl (lv_room hst) hd ⟨Nat.le_trans hcs.1 C.2.2.2.2.2.2.2.2.2.2.1, Nat.le_trans hcs.2 C.2.2.2.2.2.2.2.2.2.2.2.1⟩) hP hD hS hl (fun u => n_eq (List.append_nil ws) k9)
end N34
/-- the root bit by bit, as the reference has it -/
def rnl (n : Int64) : Nat → Int64 → Int64 → Int64
  | 0, r, _ => r
  | k + 1, r, bit => rnl n k (if n < (r ||| bit) * (r ||| bit) then r else r ||| bit) (bit >>> ((1 : Int32).toInt64 &&& 63))
def rn (n : Int64) : Int64 := rnl n 25 0 16777216
def wordk (f : Nat → Int32) : Nat → Int64
  | 0 => 0
  | k + 1 => if f k ≤ 0 then wordk f k else 27 * wordk f k + (f k).toInt64 - 96
def wf6 (a b c d e f : Int32) : Nat → Int32 := upd (upd (upd (upd (upd (upd (fun _ => 0) 0 a) 1 b) 2 c) 3 d) 4 e) 5 f
def wordv (a b c d e f : Int32) : Int64 := wordk (wf6 a b c d e f) 6
theorem d_X12_word_0 : decode cX12_word 0 = .ok (.bipush 6, 2) := by decide +kernel
theorem d_X12_word_2 : decode cX12_word 2 = .ok (.newarray .int, 2) := by decide +kernel
theorem d_X12_word_4 : decode cX12_word 4 = .ok (.dup, 1) := by decide +kernel
theorem d_X12_word_5 : decode cX12_word 5 = .ok (.iconst 0, 1) := by decide +kernel
theorem d_X12_word_6 : decode cX12_word 6 = .ok (.iload_n 0, 1) := by decide +kernel
theorem d_X12_word_7 : decode cX12_word 7 = .ok (.iastore, 1) := by decide +kernel
theorem d_X12_word_8 : decode cX12_word 8 = .ok (.dup, 1) := by decide +kernel
theorem d_X12_word_9 : decode cX12_word 9 = .ok (.iconst 1, 1) := by decide +kernel
theorem d_X12_word_10 : decode cX12_word 10 = .ok (.iload_n 1, 1) := by decide +kernel
theorem d_X12_word_11 : decode cX12_word 11 = .ok (.iastore, 1) := by decide +kernel
theorem d_X12_word_12 : decode cX12_word 12 = .ok (.dup, 1) := by decide +kernel
theorem d_X12_word_13 : decode cX12_word 13 = .ok (.iconst 2, 1) := by decide +kernel
theorem d_X12_word_14 : decode cX12_word 14 = .ok (.iload_n 2, 1) := by decide +kernel
theorem d_X12_word_15 : decode cX12_word 15 = .ok (.iastore, 1) := by decide +kernel
theorem d_X12_word_16 : decode cX12_word 16 = .ok (.dup, 1) := by decide +kernel
theorem d_X12_word_17 : decode cX12_word 17 = .ok (.iconst 3, 1) := by decide +kernel
theorem d_X12_word_18 : decode cX12_word 18 = .ok (.iload_n 3, 1) := by decide +kernel
theorem d_X12_word_19 : decode cX12_word 19 = .ok (.iastore, 1) := by decide +kernel
theorem d_X12_word_20 : decode cX12_word 20 = .ok (.dup, 1) := by decide +kernel
theorem d_X12_word_21 : decode cX12_word 21 = .ok (.iconst 4, 1) := by decide +kernel
theorem d_X12_word_22 : decode cX12_word 22 = .ok (.iload 4, 2) := by decide +kernel
theorem d_X12_word_24 : decode cX12_word 24 = .ok (.iastore, 1) := by decide +kernel
theorem d_X12_word_25 : decode cX12_word 25 = .ok (.dup, 1) := by decide +kernel
theorem d_X12_word_26 : decode cX12_word 26 = .ok (.iconst 5, 1) := by decide +kernel
theorem d_X12_word_27 : decode cX12_word 27 = .ok (.iload 5, 2) := by decide +kernel
theorem d_X12_word_29 : decode cX12_word 29 = .ok (.iastore, 1) := by decide +kernel
theorem d_X12_word_30 : decode cX12_word 30 = .ok (.astore 6, 2) := by decide +kernel
theorem d_X12_word_32 : decode cX12_word 32 = .ok (.lconst 0, 1) := by decide +kernel
theorem d_X12_word_33 : decode cX12_word 33 = .ok (.lstore 7, 2) := by decide +kernel
theorem d_X12_word_35 : decode cX12_word 35 = .ok (.iconst 0, 1) := by decide +kernel
theorem d_X12_word_36 : decode cX12_word 36 = .ok (.istore 9, 2) := by decide +kernel
theorem d_X12_word_38 : decode cX12_word 38 = .ok (.iload 9, 2) := by decide +kernel
theorem d_X12_word_40 : decode cX12_word 40 = .ok (.bipush 6, 2) := by decide +kernel
theorem d_X12_word_42 : decode cX12_word 42 = .ok (.if_icmp .ge 36, 3) := by decide +kernel
theorem d_X12_word_45 : decode cX12_word 45 = .ok (.aload 6, 2) := by decide +kernel
theorem d_X12_word_47 : decode cX12_word 47 = .ok (.iload 9, 2) := by decide +kernel
theorem d_X12_word_49 : decode cX12_word 49 = .ok (.iaload, 1) := by decide +kernel
theorem d_X12_word_50 : decode cX12_word 50 = .ok (.ifCond .le 22, 3) := by decide +kernel
theorem d_X12_word_53 : decode cX12_word 53 = .ok (.ldc2_w 158, 3) := by decide +kernel
theorem d_X12_word_56 : decode cX12_word 56 = .ok (.lload 7, 2) := by decide +kernel
theorem d_X12_word_58 : decode cX12_word 58 = .ok (.lmul, 1) := by decide +kernel
theorem d_X12_word_59 : decode cX12_word 59 = .ok (.aload 6, 2) := by decide +kernel
theorem d_X12_word_61 : decode cX12_word 61 = .ok (.iload 9, 2) := by decide +kernel
theorem d_X12_word_63 : decode cX12_word 63 = .ok (.iaload, 1) := by decide +kernel
theorem d_X12_word_64 : decode cX12_word 64 = .ok (.i2l, 1) := by decide +kernel
theorem d_X12_word_65 : decode cX12_word 65 = .ok (.ladd, 1) := by decide +kernel
theorem d_X12_word_66 : decode cX12_word 66 = .ok (.ldc2_w 160, 3) := by decide +kernel
theorem d_X12_word_69 : decode cX12_word 69 = .ok (.lsub, 1) := by decide +kernel
theorem d_X12_word_70 : decode cX12_word 70 = .ok (.lstore 7, 2) := by decide +kernel
theorem d_X12_word_72 : decode cX12_word 72 = .ok (.iinc 9 1, 3) := by decide +kernel
theorem d_X12_word_75 : decode cX12_word 75 = .ok (.goto (-37), 3) := by decide +kernel
theorem d_X12_word_78 : decode cX12_word 78 = .ok (.lload 7, 2) := by decide +kernel
theorem d_X12_word_80 : decode cX12_word 80 = .ok (.lreturn, 1) := by decide +kernel
theorem kk_X12_rootOfNumber : CalS yX12_rootOfNumber cX12_rootOfNumber 6 (some .long) 1 := k_X12_rootOfNumber
set_option maxRecDepth 20000 in
theorem rn_step {X : MC} {D : va_G} {cy : Nat → ClassId} {fr lo mc ms : Nat} {Q : State → Prop} (C : NX X D cy cX12_rootOfNumber 6 "TickPoolsModel" fr lo mc ms) {n r bit : Int64} (hb : ¬ bit ≤ 0) (k : NZ X D 6 Q 0 0 [] 7 [(4, .long (bit >>> ((1 : Int32).toInt64 &&& 63))), (2, .long (if n < (r ||| bit) * (r ||| bit) then r else r ||| bit)), (0, .long n)] []) : NZ X D 6 Q 0 0 [] 7 [(4, .long bit), (2, .long r), (0, .long n)] [] := by
  refine n_lload (j := 0) C d_X12_rootOfNumber_7 rfl ?_
  refine n_lconst (v := 0) C d_X12_rootOfNumber_9 (by decide) ?_
  refine n_lle_no (tgt := 42) C d_X12_rootOfNumber_10 d_X12_rootOfNumber_11 (by decide) hb ?_
  refine n_lload_n (j := 1) C d_X12_rootOfNumber_14 rfl ?_
  refine n_lload (j := 0) C d_X12_rootOfNumber_15 rfl ?_
  refine n_lor C d_X12_rootOfNumber_17 ?_
  refine n_lload_n (j := 1) C d_X12_rootOfNumber_18 rfl ?_
  refine n_lload (j := 0) C d_X12_rootOfNumber_19 rfl ?_
  refine n_lor C d_X12_rootOfNumber_21 ?_
  refine n_lmul C d_X12_rootOfNumber_22 ?_
  refine n_lload_n (j := 2) C d_X12_rootOfNumber_23 rfl ?_
  have tail : ∀ r' : Int64, NZ X D 6 Q 0 0 [] 7 [(4, .long (bit >>> ((1 : Int32).toInt64 &&& 63))), (2, .long r'), (0, .long n)] [] → NZ X D 6 Q 0 0 [] 33 [(4, .long bit), (2, .long r'), (0, .long n)] [] := fun r' k' => by
    refine n_lload (j := 0) C d_X12_rootOfNumber_33 rfl ?_
    refine n_iconst (v := 1) C d_X12_rootOfNumber_35 (by decide) ?_
    refine n_lshr C d_X12_rootOfNumber_36 ?_
    refine n_lstore (lv' := [(4, .long (bit >>> ((1 : Int32).toInt64 &&& 63))), (2, .long r'), (0, .long n)]) C d_X12_rootOfNumber_37 (by decide) rfl ?_
    exact n_goto (tgt := 7) C d_X12_rootOfNumber_39 (by decide) k'
  refine n_lgt (tgt := 33) C d_X12_rootOfNumber_24 d_X12_rootOfNumber_25 (by decide) (fun c => ?_) (fun c => ?_)
  · rw [if_pos c] at k
    exact tail r k
  · rw [if_neg c] at k
    refine n_lload_n (j := 1) C d_X12_rootOfNumber_28 rfl ?_
    refine n_lload (j := 0) C d_X12_rootOfNumber_29 rfl ?_
    refine n_lor C d_X12_rootOfNumber_31 ?_
    refine n_lstore_n (lv' := [(2, .long (r ||| bit)), (4, .long bit), (0, .long n)]) C d_X12_rootOfNumber_32 (by decide) rfl ?_
    intro H locs ls hP hD hS hl
    exact tail (r ||| bit) k H locs ls hP hD hS (lv_sub hl [1, 0, 2] rfl)
theorem rn_loop {X : MC} {D : va_G} {cy : Nat → ClassId} {fr lo mc ms : Nat} {Q : State → Prop} (C : NX X D cy cX12_rootOfNumber 6 "TickPoolsModel" fr lo mc ms) {n : Int64} : ∀ (k : Nat) (r bit : Int64), (∀ i, i < k → ¬ (Nat.rec bit (fun _ b => b >>> ((1 : Int32).toInt64 &&& 63)) i : Int64) ≤ 0) → ((Nat.rec bit (fun _ b => b >>> ((1 : Int32).toInt64 &&& 63)) k : Int64) ≤ 0) → (∀ (bit' : Int64), bit' ≤ 0 → NZ X D 6 Q 0 0 [] 7 [(4, .long bit'), (2, .long (rnl n k r bit)), (0, .long n)] []) → NZ X D 6 Q 0 0 [] 7 [(4, .long bit), (2, .long r), (0, .long n)] []
  | 0, r, bit, _, h0, h => h bit h0
  | k + 1, r, bit, hb, h0, h => by
    refine rn_step C (hb 0 (Nat.succ_pos k)) ?_
    have sh : ∀ i, (Nat.rec (bit >>> ((1 : Int32).toInt64 &&& 63)) (fun _ b => b >>> ((1 : Int32).toInt64 &&& 63)) i : Int64) = (Nat.rec bit (fun _ b => b >>> ((1 : Int32).toInt64 &&& 63)) (i + 1) : Int64) := by
      intro i
      induction i with
      | zero => rfl
      | succ j ih => show (Nat.rec (bit >>> ((1 : Int32).toInt64 &&& 63)) (fun _ b => b >>> ((1 : Int32).toInt64 &&& 63)) j : Int64) >>> ((1 : Int32).toInt64 &&& 63) = _; rw [ih]
    refine rn_loop C k _ _ (fun i hi => by rw [sh]; exact hb (i + 1) (Nat.succ_lt_succ hi)) (by rw [sh]; exact h0) h
set_option maxRecDepth 20000 in
theorem n_X12_rootOfNumber {l : Launch} {D : va_G} {cy : Nat → ClassId} {n : Int64} : NM l D cy yX12_rootOfNumber cX12_rootOfNumber 6 (some .long) 0 0 0 0 [.long n] [] (some (.long (rn n))) (fun _ => []) := by
  refine nmet_of "TickPoolsModel" rfl (by decide +kernel) [(0, .long n)] rfl (Nat.le_of_ble_eq_true rfl) (fun X sz hX C hr hi hA => ?_)
  refine n_lconst (v := 0) C d_X12_rootOfNumber_0 (by decide) ?_
  refine n_lstore_n (lv' := [(2, .long 0), (0, .long n)]) C d_X12_rootOfNumber_1 (by decide) rfl ?_
  refine n_ldc2 (v := 16777216) C tw_1208 d_X12_rootOfNumber_2 ?_
  refine n_lstore (lv' := [(4, .long 16777216), (2, .long 0), (0, .long n)]) C d_X12_rootOfNumber_5 (by decide) rfl ?_
  refine rn_loop C 25 0 16777216 (by decide +kernel) (by decide +kernel) (fun bit' hb => ?_)
  refine n_lload (j := 0) C d_X12_rootOfNumber_7 rfl ?_
  refine n_lconst (v := 0) C d_X12_rootOfNumber_9 (by decide) ?_
  refine n_lle_yes (tgt := 42) C d_X12_rootOfNumber_10 d_X12_rootOfNumber_11 (by decide) hb ?_
  refine n_lload_n (j := 1) C d_X12_rootOfNumber_42 rfl ?_
  exact n_lret C hr hA rfl (fun _ => 0) rfl d_X12_rootOfNumber_43 rfl rfl
theorem kk_X12_word : CalS yX12_word cX12_word 10 (some .long) 6 := k_X12_word
set_option maxRecDepth 20000 in
theorem word_step {X : MC} {D : va_G} {cy : Nat → ClassId} {fr lo mc ms : Nat} {Q : State → Prop} (C : NX X D cy cX12_word 10 "TickPoolsModel" fr lo mc ms) {q k : Nat} {f : Nat → Int32} (hk : k < 6) (kn : NZ X D 10 Q 1 6 [(q, .inl (cy 1, 6, .inl f))] 38 [(9, .int (nI (k + 1))), (7, .long (wordk f (k + 1))), (6, .ref q)] []) : NZ X D 10 Q 1 6 [(q, .inl (cy 1, 6, .inl f))] 38 [(9, .int (nI k)), (7, .long (wordk f k)), (6, .ref q)] [] := by
  have hin : vp_in (nI k) 6 := vp_in_nI hk (by decide)
  have hcl : (nI k).toNatClampNeg = k := nI_clamp (by omega)
  have tail : ∀ w' : Int64, w' = wordk f (k + 1) → NZ X D 10 Q 1 6 [(q, .inl (cy 1, 6, .inl f))] 72 [(9, .int (nI k)), (7, .long w'), (6, .ref q)] [] := fun w' hw => by
    subst hw
    refine n_iinc (j := 0) (v := nI (k + 1)) (lv' := [(9, .int (nI (k + 1))), (7, .long (wordk f (k + 1))), (6, .ref q)]) C d_X12_word_72 rfl (nI_1 k) (by decide) rfl ?_
    exact n_goto (tgt := 38) C d_X12_word_75 (by decide) kn
  refine n_iload (j := 0) C d_X12_word_38 rfl ?_
  refine n_bipush (v := nI 6) C d_X12_word_40 (by decide) ?_
  refine n_ge_no (tgt := 78) C d_X12_word_42 (by decide) (nI_ge hk (by decide)) ?_
  refine n_aload (j := 2) C d_X12_word_45 rfl ?_
  refine n_iload (j := 0) C d_X12_word_47 rfl ?_
  refine n_iald C 0 rfl hin d_X12_word_49 ?_
  rw [hcl]
  refine n_le (tgt := 72) C d_X12_word_50 (by decide) (fun c => tail _ (by show _ = if f k ≤ 0 then _ else _; rw [if_pos c])) (fun c => ?_)
  refine n_ldc2 (v := 27) C tw_1202 d_X12_word_53 ?_
  refine n_lload (j := 1) C d_X12_word_56 rfl ?_
  refine n_lmul C d_X12_word_58 ?_
  refine n_aload (j := 2) C d_X12_word_59 rfl ?_
  refine n_iload (j := 0) C d_X12_word_61 rfl ?_
  refine n_iald C 0 rfl hin d_X12_word_63 ?_
  rw [hcl]
  refine n_i2l C d_X12_word_64 ?_
  refine n_ladd C d_X12_word_65 ?_
  refine n_ldc2 (v := 96) C tw_1203 d_X12_word_66 ?_
  refine n_lsub C d_X12_word_69 ?_
  refine n_lstore (lv' := [(7, .long (27 * wordk f k + (f k).toInt64 - 96)), (9, .int (nI k)), (6, .ref q)]) C d_X12_word_70 (by decide) rfl ?_
  intro H locs ls hP hD hS hl
  exact tail (27 * wordk f k + (f k).toInt64 - 96) (by show _ = if f k ≤ 0 then _ else _; rw [if_neg c]) H locs ls hP hD hS (lv_sub hl [1, 0, 2] rfl)
set_option maxRecDepth 20000 in
theorem n_X12_word {l : Launch} {D : va_G} {cy : Nat → ClassId} {a b c d e f : Int32} : NM l D cy yX12_word cX12_word 10 (some .long) 0 0 1 6 [.int a, .int b, .int c, .int d, .int e, .int f] [] (some (.long (wordv a b c d e f))) (fun _ => []) := by
  refine nmet_of "TickPoolsModel" rfl (by decide +kernel) [(0, .int a), (1, .int b), (2, .int c), (3, .int d), (4, .int e), (5, .int f)] rfl (Nat.le_of_ble_eq_true rfl) (fun X sz hX C hr hi hA => ?_)
  refine n_bipush (v := 6) C d_X12_word_0 (by decide) ?_
  refine n_newa (atype := .int) (ty := .int) (N := 6) (a0 := (6, .inl (fun _ => 0))) C 1 tw_140 rfl rfl (fun _ => rfl) (by decide) (by decide +kernel) (by decide) (Nat.le_of_ble_eq_true rfl) (Nat.le_of_ble_eq_true rfl) d_X12_word_2 (fun q => ?_)
  refine n_eq (ws' := [(q, .inl (cy 1, 6, .inl (fun _ => 0)))]) rfl ?_
  refine n_dup C rfl d_X12_word_4 ?_
  refine n_iconst (v := 0) C d_X12_word_5 (by decide) ?_
  refine n_iload_n (j := 0) C d_X12_word_6 rfl ?_
  refine n_iast (j := 0) C 0 rfl (inb_vp (by decide)) (by decide) d_X12_word_7 ?_
  refine n_eq (ws' := [(q, .inl (cy 1, 6, .inl (upd (fun _ => 0) 0 a)))]) rfl ?_
  refine n_dup C rfl d_X12_word_8 ?_
  refine n_iconst (v := 1) C d_X12_word_9 (by decide) ?_
  refine n_iload_n (j := 1) C d_X12_word_10 rfl ?_
  refine n_iast (j := 1) C 0 rfl (inb_vp (by decide)) (by decide) d_X12_word_11 ?_
  refine n_eq (ws' := [(q, .inl (cy 1, 6, .inl (upd (upd (fun _ => 0) 0 a) 1 b)))]) rfl ?_
  refine n_dup C rfl d_X12_word_12 ?_
  refine n_iconst (v := 2) C d_X12_word_13 (by decide) ?_
  refine n_iload_n (j := 2) C d_X12_word_14 rfl ?_
  refine n_iast (j := 2) C 0 rfl (inb_vp (by decide)) (by decide) d_X12_word_15 ?_
  refine n_eq (ws' := [(q, .inl (cy 1, 6, .inl (upd (upd (upd (fun _ => 0) 0 a) 1 b) 2 c)))]) rfl ?_
  refine n_dup C rfl d_X12_word_16 ?_
  refine n_iconst (v := 3) C d_X12_word_17 (by decide) ?_
  refine n_iload_n (j := 3) C d_X12_word_18 rfl ?_
  refine n_iast (j := 3) C 0 rfl (inb_vp (by decide)) (by decide) d_X12_word_19 ?_
  refine n_eq (ws' := [(q, .inl (cy 1, 6, .inl (upd (upd (upd (upd (fun _ => 0) 0 a) 1 b) 2 c) 3 d)))]) rfl ?_
  refine n_dup C rfl d_X12_word_20 ?_
  refine n_iconst (v := 4) C d_X12_word_21 (by decide) ?_
  refine n_iload (j := 4) C d_X12_word_22 rfl ?_
  refine n_iast (j := 4) C 0 rfl (inb_vp (by decide)) (by decide) d_X12_word_24 ?_
  refine n_eq (ws' := [(q, .inl (cy 1, 6, .inl (upd (upd (upd (upd (upd (fun _ => 0) 0 a) 1 b) 2 c) 3 d) 4 e)))]) rfl ?_
  refine n_dup C rfl d_X12_word_25 ?_
  refine n_iconst (v := 5) C d_X12_word_26 (by decide) ?_
  refine n_iload (j := 5) C d_X12_word_27 rfl ?_
  refine n_iast (j := 5) C 0 rfl (inb_vp (by decide)) (by decide) d_X12_word_29 ?_
  refine n_eq (ws' := [(q, .inl (cy 1, 6, .inl (upd (upd (upd (upd (upd (upd (fun _ => 0) 0 a) 1 b) 2 c) 3 d) 4 e) 5 f)))]) rfl ?_
  refine n_astore (lv' := [(6, .ref q), (0, .int a), (1, .int b), (2, .int c), (3, .int d), (4, .int e), (5, .int f)]) C d_X12_word_30 (by decide) rfl ?_
  refine n_lconst (v := 0) C d_X12_word_32 (by decide) ?_
  refine n_lstore (lv' := [(7, .long 0), (6, .ref q), (0, .int a), (1, .int b), (2, .int c), (3, .int d), (4, .int e), (5, .int f)]) C d_X12_word_33 (by decide) rfl ?_
  refine n_iconst (v := nI 0) C d_X12_word_35 (by decide) ?_
  refine n_istore (lv' := [(9, .int (nI 0)), (7, .long 0), (6, .ref q), (0, .int a), (1, .int b), (2, .int c), (3, .int d), (4, .int e), (5, .int f)]) C d_X12_word_36 (by decide) rfl ?_
  have go : NZ X D 10 (NQ X D [] sz (some (.long (wordv a b c d e f))) (fun _ => []) 1 6) 1 6 [(q, .inl (cy 1, 6, .inl (wf6 a b c d e f)))] 38 [(9, .int (nI 0)), (7, .long (wordk (wf6 a b c d e f) 0)), (6, .ref q)] [] := by
    refine word_step C (by decide) (word_step C (by decide) (word_step C (by decide) (word_step C (by decide) (word_step C (by decide) (word_step C (by decide) ?_)))))
    refine n_iload (j := 0) C d_X12_word_38 rfl ?_
    refine n_bipush (v := nI 6) C d_X12_word_40 (by decide) ?_
    refine n_ge_yes (tgt := 78) C d_X12_word_42 (by decide) (nI_le (Nat.le_refl 6) (by decide)) ?_
    refine n_lload (j := 1) C d_X12_word_78 rfl ?_
    intro H locs ls hP hD hS hl
    exact n_lret (ws := []) C hr hA rfl (fun _ => 0) rfl d_X12_word_80 rfl rfl H locs ls (fun k q h => by simp at h) ⟨fun i j p q h => by simp at h, fun k q h => by simp at h⟩ hS hl
  intro H locs ls hP hD hS hl
  exact go H locs ls hP hD hS (lv_sub hl [0, 1, 2] rfl)
