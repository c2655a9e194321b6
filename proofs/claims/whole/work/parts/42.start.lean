/-! from the law's entry to its loop -/
theorem arrT {s : State} {cA : ClassId} {k : Class} {comp : ClassId} {ty : FieldType} (h1 : s.vm.classes[cA]? = some k) (h2 : k.kind = .array comp ty) : ArrOfT s cA ty := fun n z => ⟨fun q h => (by cases h), k, h1, comp, h2⟩
theorem arrP {args : Array Value} {s : State} (ty : FieldType) (hty : ∀ C, ty ≠ .object C) (h : (Cond.arrayClass ty).before args s = true) : ∃ cA, ArrOfT s cA ty ∧ va_RA s cA ty := by
  obtain ⟨cA, k, comp, h1, h2, h3⟩ := Cond.arrayClass_spec h
  refine ⟨cA, arrT h2 h3, ?_⟩
  cases ty with
  | object C => exact absurd rfl (hty C)
  | _ => exact h1
theorem arrO {args : Array Value} {s : State} (C : String) (h : (Cond.arrayOver (.object C)).before args s = true) : ∃ cA, ArrOfT s cA (.object C) ∧ va_RA s cA (.object C) := by
  obtain ⟨comp, cA, k, h1, -, h3, h4, h5⟩ := Cond.arrayOver_spec h
  exact ⟨cA, arrT h3 h4, k, comp, h3, h4, h1, h5⟩
def tmS (i : Nat) : Term := .string (sref.getD i ("", 0, "")).1 (sref.getD i ("", 0, "")).2.1
theorem flat_roots : ∀ j, j < 41 → Cond.eq (.elem (.static "TickPools$Curve" "ROOTS" "[I") (.int (Int32.ofNat j))) (.int (rootsf j)) ∈ flatC (Jvm.Cond.and given_1 narrow_1) := by decide +kernel
theorem flat_ex : ∀ i, i < 12 → Cond.exactly (tmS i) "java/lang/String" ∈ flatC (Jvm.Cond.and given_1 narrow_1) := by decide +kernel
theorem flat_co : ∀ i, i < 12 → Cond.eq (.field (tmS i) "java/lang/String" "coder" "B") (.int 0) ∈ flatC (Jvm.Cond.and given_1 narrow_1) := by decide +kernel
theorem flat_ar : ∀ i, i < 12 → Cond.arrayOf (.field (tmS i) "java/lang/String" "value" "[B") .byte ∈ flatC (Jvm.Cond.and given_1 narrow_1) := by decide +kernel
theorem flat_le : ∀ i, i < 12 → Cond.eq (.length (.field (tmS i) "java/lang/String" "value" "[B")) (.int (Int32.ofNat (slen.getD i 0))) ∈ flatC (Jvm.Cond.and given_1 narrow_1) := by decide +kernel
theorem flat_el : ∀ i, i < 12 → ∀ j, j < slen.getD i 0 → Cond.eq (.elem (.field (tmS i) "java/lang/String" "value" "[B") (.int (Int32.ofNat j))) (.int ((sbyt.getD i []).getD j 0)) ∈ flatC (Jvm.Cond.and given_1 narrow_1) := by decide +kernel
theorem flat_ne : ∀ i, i < 12 → ∀ j, j < 12 → i ≠ j → (Cond.not (Cond.eq (tmS i) (tmS j)) ∈ flatC (Jvm.Cond.and given_1 narrow_1) ∨ Cond.not (Cond.eq (tmS j) (tmS i)) ∈ flatC (Jvm.Cond.and given_1 narrow_1)) := by decide +kernel
theorem slen_lt : ∀ i, i < 12 → slen.getD i 0 < 2 ^ 31 := by decide +kernel
section START
variable {X : MC} {D : va_G} {cy : Nat → ClassId} {cc : ByteArray} {nL : Nat} {own : String} {fr lo mc ms : Nat} {Q : State → Prop} {kc ks : Nat} {ws : va_W} {pc : Nat} {lv : List (Nat × Value)} {rest : List Value}
theorem n_astore_n (C : NX X D cy cc nL own fr lo mc ms) {i : Fin 4} {x : Nat} {lv' : List (Nat × Value)} (hd : decode cc pc = .ok (.astore_n i, 1)) (hn : (i : Nat) < nL) (hl9 : ((i : Nat), Value.ref x) :: lv.filter (fun q => !(q.1 == (i : Nat)) && !(q.1 + 1 == (i : Nat) && q.2.category == 2)) = lv') (k : NZ X D nL Q kc ks ws (pc + 1) lv' rest) : NZ X D nL Q kc ks ws pc lv (.ref x :: rest) := fun H locs ls hP hD hS hl => lv_astore_n C.1 C.2.1 hd rfl hl hn hl9 (fun ls' hl' => k H locs ls' hP hD hS hl')
end START
theorem gl_inj : ∀ i, i < 207 → ∀ j, j < 207 → gl0.getD i 0 = gl0.getD j 0 → i = j := by decide +kernel
/-- the world of the constructors is the memory's -/
theorem start_P {D : va_G} {cy : Nat → ClassId} {h0 g0 : Nat} {u w sk sv : Nat → Nat} {rt sf b : Nat} {H : Heap} (hP : va_P D vwCl (pw_X11_init cy h0 u ++ pw_X12_init cy g0 w) H) : va_P D vwCl (wl (D, ad0 h0 u g0 w sk sv rt sf b, cy) S0) H := by
  intro k q hq
  unfold wl at hq
  rw [List.getElem?_map] at hq
  rcases Nat.lt_or_ge k 207 with h | h
  · rw [List.getElem?_range h] at hq
    cases hq
    exact (wl_S0 (sk := sk) (sv := sv) (rt := rt) (sf := sf) (b := b) hP k h).2
  · rw [List.getElem?_eq_none (by rw [List.length_range]; exact h)] at hq
    cases hq
theorem start_I {D : va_G} {cy : Nat → ClassId} {h0 g0 : Nat} {u w sk sv : Nat → Nat} {rt sf b : Nat} {H : Heap} {A : Nat → Prop} (hP : va_P D vwCl (pw_X11_init cy h0 u ++ pw_X12_init cy g0 w) H) (hD : va_D A (pw_X11_init cy h0 u ++ pw_X12_init cy g0 w)) : Inj (D, ad0 h0 u g0 w sk sv rt sf b, cy) ∧ ∀ q, AD (D, ad0 h0 u g0 w sk sv rt sf b, cy) q → A q := by
  refine ⟨fun i j hi hj e => ?_, fun q hq => ?_⟩
  · obtain ⟨⟨e1, h1⟩, -⟩ := wl_S0 (sk := sk) (sv := sv) (rt := rt) (sf := sf) (b := b) hP i hi
    obtain ⟨⟨e2, h2⟩, -⟩ := wl_S0 (sk := sk) (sv := sv) (rt := rt) (sf := sf) (b := b) hP j hj
    exact gl_inj i hi j hj (hD.1 _ _ _ _ h1 h2 e)
  · obtain ⟨h, hh, rfl⟩ := hq
    obtain ⟨⟨e1, h1⟩, -⟩ := wl_S0 (sk := sk) (sv := sv) (rt := rt) (sf := sf) (b := b) hP h hh
    exact hD.2 _ _ h1
set_option maxRecDepth 100000 in
set_option maxHeartbeats 8000000 in
/-- THE LAW, from its entry, out of what is left to show of the functions -/
theorem start_of {INV : Mem → Prop} (OK : OKall INV) (hV : INV S0) {p : Program} {e : Env} {s : State} {m : MethodId} {below : List Frame} {meth : Method} {c : Code} (l : Launch) {b L : Nat} {xs : Nat → Int32} (hL : L ≤ 3584) (C0 : lw_At p s m meth c b L xs) : W p l e room_1 s m #[Value.ref b] below meth c s.heap [] 0 0 (lw_Z below #[Value.ref b] s) (entryFrame m ([Value.ref b] : List Value).toArray 4) := by
  obtain ⟨hx, hb, hr, hml, hown, hts, hX, hbl, hlocks, hgv⟩ := id C0
  have hA9 : ∀ a : Nat, a < s.heap.size → ¬ (fun q => s.heap.size ≤ q) a := fun a h => Nat.not_le.mpr h
  have tb : ∀ w ∈ tables_1, w.before #[Value.ref b] s = true := fun w h => hts w (List.mem_append_right _ h)
  have tg : ∀ w ∈ lw_gt, w.before #[Value.ref b] s = true := fun w h => hts w (List.mem_filter.mp h).1
  have fl := flat_of_before _ hgv
  obtain ⟨c0, i0, hk0⟩ := u_known (C := RX1) (T := TX1) (N := 9) (n := 9) tg inX1 (tb (.instantiable "TickPools$Finder" 9) tq_424)
  obtain ⟨c1, i1, hk1⟩ := u_known (C := RX2) (T := TX2) (N := 9) (n := 9) tg inX2 (tb (.instantiable "TickPools$Market" 9) tq_62)
  obtain ⟨c2, i2, hk2⟩ := u_known (C := RX3) (T := TX3) (N := 2) (n := 2) tg inX3 (tb (.instantiable "TickPools$MarketReader" 2) tq_290)
  obtain ⟨c3, i3, hk3⟩ := u_known (C := RX4) (T := TX4) (N := 12) (n := 12) tg inX4 (tb (.instantiable "TickPools$Pool" 12) tq_69)
  obtain ⟨c4, i4, hk4⟩ := u_known (C := RX5) (T := TX5) (N := 13) (n := 13) tg inX5 (tb (.instantiable "TickPools$Runner" 13) tq_375)
  obtain ⟨c5, i5, hk5⟩ := u_known (C := RX6) (T := TX6) (N := 5) (n := 5) tg inX6 (tb (.instantiable "TickPools$Script" 5) tq_303)
  obtain ⟨c6, i6, hk6⟩ := u_known (C := RX7) (T := TX7) (N := 8) (n := 8) tg inX7 (tb (.instantiable "TickPools$Stake" 8) tq_143)
  obtain ⟨c7, i7, hk7⟩ := u_known (C := RX8) (T := TX8) (N := 10) (n := 10) tg inX8 (tb (.instantiable "TickPools$Step" 10) tq_310)
  obtain ⟨c8, i8, hk8⟩ := u_known (C := RX9) (T := TX9) (N := 7) (n := 7) tg inX9 (tb (.instantiable "TickPools$Tape" 7) tq_28)
  obtain ⟨c9, i9, hk9⟩ := u_known (C := RX10) (T := TX10) (N := 14) (n := 14) tg inX10 (tb (.instantiable "TickPools$Trade" 14) tq_231)
  obtain ⟨c10, i10, hk10⟩ := u_known (C := RX11) (T := TX11) (N := 8) (n := 8) tg inX11 (tb (.instantiable "TickPools" 8) tq_20)
  obtain ⟨c11, i11, hk11⟩ := u_known (C := RX12) (T := TX12) (N := 55) (n := 55) tg inX12 (tb (.instantiable "TickPoolsModel" 55) tq_1194)
  obtain ⟨dC, dI, hKc⟩ : ∃ (dC : Nat → ClassId) (dI : Nat → Nat → Nat), ∀ (k : Nat) (q : vw_C), vwCl[k]? = some q → u_Kn s q.1 q.2.1 q.2.2 (dC k) (dI k) := by
    refine ⟨fun k => [c0, c1, c2, c3, c4, c5, c6, c7, c8, c9, c10, c11].getD k 0, fun k => [i0, i1, i2, i3, i4, i5, i6, i7, i8, i9, i10, i11].getD k (fun _ => 0), ?_⟩
    intro k q hq
    match k, hq with
    | 0, hq => cases hq; exact hk0
    | 1, hq => cases hq; exact hk1
    | 2, hq => cases hq; exact hk2
    | 3, hq => cases hq; exact hk3
    | 4, hq => cases hq; exact hk4
    | 5, hq => cases hq; exact hk5
    | 6, hq => cases hq; exact hk6
    | 7, hq => cases hq; exact hk7
    | 8, hq => cases hq; exact hk8
    | 9, hq => cases hq; exact hk9
    | 10, hq => cases hq; exact hk10
    | 11, hq => cases hq; exact hk11
    | k + 12, hq => exact absurd hq (by simp [vwCl])
  obtain ⟨y0, hy0⟩ := arrP .byte (fun _ h => by cases h) (tb _ tq_60)
  obtain ⟨y1, hy1⟩ := arrP .int (fun _ h => by cases h) (tb _ tq_140)
  obtain ⟨y2, hy2⟩ := arrP .long (fun _ h => by cases h) (tb _ tq_189)
  obtain ⟨y3, hy3⟩ := arrP .boolean (fun _ h => by cases h) (tb _ tq_422)
  obtain ⟨y4, hy4⟩ := arrO "TickPools$Pool" (tb _ tq_68)
  obtain ⟨y5, hy5⟩ := arrO "TickPools$Stake" (tb _ tq_142)
  obtain ⟨y6, hy6⟩ := arrO "TickPools$Step" (tb _ tq_309)
  have hK : va_K (dC, dI) vwCl (wtyc (fun k => [y0, y1, y2, y3, y4, y5, y6].getD k 0)) s := by
    refine ⟨hKc, fun k q hq => ?_⟩
    match k, hq with
    | 0, hq => cases hq; exact hy0
    | 1, hq => cases hq; exact hy1
    | 2, hq => cases hq; exact hy2
    | 3, hq => cases hq; exact hy3
    | 4, hq => cases hq; exact hy4
    | 5, hq => cases hq; exact hy5
    | 6, hq => cases hq; exact hy6
    | k + 7, hq => exact absurd hq (by simp [wtyc])
  generalize (fun k => [y0, y1, y2, y3, y4, y5, y6].getD k 0) = cy at hK
  have hnw : ∀ w ∈ nestw, va_Nw w s := by
    unfold nestw
    simp only [List.forall_mem_cons]
    exact ⟨va_Nw.of rfl (tb _ tq_232), va_Nw.of rfl (tb _ tq_311), va_Nw.of rfl (tb _ tq_801), va_Nw.of rfl (tb _ tq_833), va_Nw.of rfl (tb _ tq_845), va_Nw.of rfl (tb _ tq_940), va_Nw.of rfl (tb _ tq_946), va_Nw.of rfl (tb _ tq_962), va_Nw.of rfl (tb _ tq_1152), fun _ h => absurd h List.not_mem_nil⟩
  have hNW : NWs s := ⟨hnw, va_AO.of (tb _ tq_68), va_AO.of (tb _ tq_142), va_AO.of (tb _ tq_309)⟩
  obtain ⟨rt, hrt, hT⟩ := va_Tof (args := #[Value.ref b]) (s := s) (tm := .static "TickPools$Curve" "ROOTS" "[I") (ty := .int) (N := 41) (f := fun j => .int (rootsf j)) (A := fun q => s.heap.size ≤ q) (by decide) (fl _ (by decide +kernel)) (va_eqt (fl (Cond.eq (.length (.static "TickPools$Curve" "ROOTS" "[I")) (.int 41)) (by decide +kernel))) (fun j hj => va_eqt (fl _ (flat_roots j hj))) hA9
  have hZ := va_Zref (tb _ tq_632) (tg _ tw_17) hrt hA9
  have hZc := va_Zof (tb _ tq_551) (tg _ tw_13) (va_eqi (fl (Cond.eq (.static "java/lang/String" "COMPACT_STRINGS" "Z") (.int 1)) (by decide +kernel))) hA9
  have hZs := va_Zqof (tb _ tq_567) (tg _ tw_15) (fl (Cond.isRef (.static "jdk/internal/util/Preconditions" "SIOOBE_FORMATTER" "Ljava/util/function/BiFunction;")) (by decide +kernel)) hA9
  obtain ⟨sf, hsf⟩ : ∃ sf : Nat, ∀ Γ : GG, Γ.2.1 410 = sf → ∃ h : Nat, va_Z "jdk/internal/util/Preconditions" "SIOOBE_FORMATTER" "Ljava/util/function/BiFunction;" (rv Γ h) (fun q => s.heap.size ≤ q) s s.heap := by
    rcases hZs with h | ⟨t, h⟩
    · exact ⟨0, fun Γ _ => ⟨0, h⟩⟩
    · exact ⟨t, fun Γ e => ⟨410, by rw [rv_pos (by decide), e]; exact h⟩⟩
  obtain ⟨sk, sv, hSS, hSe⟩ := vk_Sof (args := #[Value.ref b]) (s := s) (N := 12) (tm := tmS) (len := slen) (byt := sbyt) (A := fun q => s.heap.size ≤ q) slen_lt (fun i hi => fl _ (flat_ex i hi)) (fun i hi => fl _ (flat_co i hi)) (fun i hi => fl _ (flat_ar i hi)) (fun i hi => fl _ (flat_le i hi)) (fun i hi j hj => fl _ (flat_el i hi j hj)) (fun i j hi hj hij => (flat_ne i hi j hj hij).imp (fl _) (fl _)) hA9
  have hR : ∀ (i : Nat) (q : String × Nat × String), sref[i]? = some q → vk_R q.1 q.2.1 q.2.2 (sk i) s := by
    intro i q hq
    match i, hq with
    | 0, hq => cases hq; exact vk_R.of (tb _ tq_537) (hSe 0 (by decide))
    | 1, hq => cases hq; exact vk_R.of (tb _ tq_590) (hSe 1 (by decide))
    | 2, hq => cases hq; exact vk_R.of (tb _ tq_591) (hSe 2 (by decide))
    | 3, hq => cases hq; exact vk_R.of (tb _ tq_701) (hSe 3 (by decide))
    | 4, hq => cases hq; exact vk_R.of (tb _ tq_703) (hSe 4 (by decide))
    | 5, hq => cases hq; exact vk_R.of (tb _ tq_704) (hSe 5 (by decide))
    | 6, hq => cases hq; exact vk_R.of (tb _ tq_705) (hSe 6 (by decide))
    | 7, hq => cases hq; exact vk_R.of (tb _ tq_706) (hSe 7 (by decide))
    | 8, hq => cases hq; exact vk_R.of (tb _ tq_707) (hSe 8 (by decide))
    | 9, hq => cases hq; exact vk_R.of (tb _ tq_708) (hSe 9 (by decide))
    | 10, hq => cases hq; exact vk_R.of (tb _ tq_735) (hSe 10 (by decide))
    | 11, hq => cases hq; exact vk_R.of (tb _ tq_736) (hSe 11 (by decide))
    | i + 12, hq => exact absurd hq (by simp [sref])
  have hl := lv_entry ([.ref b]) (n := 4) (Nat.le_of_ble_eq_true rfl)
  rw [lg_entry_eq]
  have C : NX (p, l, e, room_1, s, m, #[Value.ref b], below, meth, c, (fun q => s.heap.size ≤ q), 0, 0) (dC, dI) cy code 4 "TickPoolsLaw" 15 700 600000 7302250 := ⟨hx, hb, hml, hown, tg, hK, hNW, hlocks, Nat.le_refl _, Nat.le_refl _, Nat.le_refl _, Nat.le_refl _, fun _ h => h⟩
  have go : NZ (p, l, e, room_1, s, m, #[Value.ref b], below, meth, c, (fun q => s.heap.size ≤ q), 0, 0) (dC, dI) 4 (lw_Z below #[Value.ref b] s) 0 0 [] 0 [(0, .ref b)] [] := by
    refine n_new (ci := 10) (fs := [.null, .null, .null, .null, .null, .null, .null, .null]) C inX11 tyX11 tyX11_ok tw_19 tw_20 tw_1 rfl dfX11 (by decide) (by decide) d_law_0 (fun h0 => ?_)
    refine n_eq (ws' := [(h0, .inr (10, [.null, .null, .null, .null, .null, .null, .null, .null]))]) rfl ?_
    refine n_dup C rfl d_law_3 ?_
    refine n_ctor (wc := [(h0, .inr (10, [.null, .null, .null, .null, .null, .null, .null, .null]))]) (wr := []) (rest := [.ref h0]) C [] [0] [] ki_X11_init tw_21 rfl rfl rfl rfl (by decide) ⟨by decide, by decide⟩ ⟨Nat.le_of_ble_eq_true rfl, Nat.le_of_ble_eq_true rfl⟩ (Nat.le_of_ble_eq_true rfl) d_law_4 n_X11_init rfl (fun u => ?_)
    refine n_eq (ws' := pw_X11_init cy h0 u) rfl ?_
    refine n_astore_n (lv' := [(1, .ref h0), (0, .ref b)]) C d_law_7 (by decide) rfl ?_
    refine n_new (ci := 11) (fs := [.null, .int 0, .int 0, .int 0, .null, .null, .null, .null, .int 0, .int 0, .int 0, .int 0, .long 0, .long 0, .long 0, .long 0, .long 0, .long 0, .long 0, .long 0, .long 0, .long 0, .long 0, .long 0, .int 0, .int 0, .int 0, .null, .null, .long 0, .long 0, .long 0, .long 0, .int 0, .int 0, .null, .null, .null, .null, .null, .null, .null, .int 0, .int 0, .int 0, .long 0, .int 0, .null, .null, .null, .int 0, .long 0, .int 0, .long 0, .int 0]) C inX12 tyX12 tyX12_ok tw_1193 tw_1194 tw_12 rfl dfX12 (Nat.le_of_ble_eq_true rfl) (Nat.le_of_ble_eq_true rfl) d_law_8 (fun g0 => ?_)
    refine n_dup C rfl d_law_11 ?_
    refine n_ctor (wc := [(g0, .inr (11, [.null, .int 0, .int 0, .int 0, .null, .null, .null, .null, .int 0, .int 0, .int 0, .int 0, .long 0, .long 0, .long 0, .long 0, .long 0, .long 0, .long 0, .long 0, .long 0, .long 0, .long 0, .long 0, .int 0, .int 0, .int 0, .null, .null, .long 0, .long 0, .long 0, .long 0, .int 0, .int 0, .null, .null, .null, .null, .null, .null, .null, .int 0, .int 0, .int 0, .long 0, .int 0, .null, .null, .null, .int 0, .long 0, .int 0, .long 0, .int 0]))]) (wr := pw_X11_init cy h0 u) (rest := [.ref g0]) C [] [189] (List.range 189) ki_X12_init tw_1195 rfl rfl rfl (by decide +kernel) (by decide +kernel) ⟨by decide, by decide⟩ ⟨Nat.le_of_ble_eq_true rfl, Nat.le_of_ble_eq_true rfl⟩ (Nat.le_of_ble_eq_true rfl) d_law_12 n_X12_init rfl (fun w => ?_)
    refine n_astore_n (lv' := [(2, .ref g0), (1, .ref h0), (0, .ref b)]) C d_law_15 (by decide) rfl ?_
    refine n_iconst (v := 0) C d_law_16 (by decide) ?_
    refine n_istore_n (lv' := [(3, .int 0), (2, .ref g0), (1, .ref h0), (0, .ref b)]) C d_law_17 (by decide) rfl ?_
    intro H locs ls hP hD hS hl
    obtain ⟨hI, hAD⟩ := start_I (sk := sk) (sv := sv) (rt := rt) (sf := sf) (b := b) hP hD
    have hPm := start_P (sk := sk) (sv := sv) (rt := rt) (sf := sf) (b := b) hP
    have e301 : ∀ i, i < 12 → ad0 h0 u g0 w sk sv rt sf b (301 + i) = sk i := fun i hi => by
      unfold ad0
      rw [if_neg (by omega), if_pos ⟨by omega, by omega⟩, show 301 + i - 301 = i by omega]
    have e321 : ∀ i, i < 12 → ad0 h0 u g0 w sk sv rt sf b (321 + i) = sv i := fun i hi => by
      unfold ad0
      rw [if_neg (by omega), if_neg (by omega), if_pos ⟨by omega, by omega⟩, show 321 + i - 321 = i by omega]
    have hG : LW s b ((dC, dI), ad0 h0 u g0 w sk sv rt sf b, cy) 219 3399 := by
      refine ⟨hK, ⟨hZ, hT, ?_, hZc, hsf _ rfl⟩, ⟨fun i q hq => ?_, hnw⟩, hI, hAD, rfl, Nat.le_of_ble_eq_true rfl, Nat.le_of_ble_eq_true rfl⟩
      · refine ⟨fun i hi => ?_, fun i j hi hj h => hSS.2 i j hi hj (by rw [← e301 i hi, ← e301 j hj]; exact h)⟩
        show va_O _ (ad0 h0 u g0 w sk sv rt sf b (301 + i)) _ _ _ ∧ va_OF _ _ _ _ (ad0 h0 u g0 w sk sv rt sf b (301 + i)) _ _ _ ∧ va_OF _ _ _ (.ref (ad0 h0 u g0 w sk sv rt sf b (321 + i))) (ad0 h0 u g0 w sk sv rt sf b (301 + i)) _ _ _ ∧ va_T _ (ad0 h0 u g0 w sk sv rt sf b (321 + i)) _ _ _ _ _
        rw [e301 i hi, e321 i hi]
        exact hSS.1 i hi
      · have hi : i < 12 := (List.getElem?_eq_some_iff.mp hq).1
        show vk_R _ _ _ (ad0 h0 u g0 w sk sv rt sf b (301 + i)) s
        rw [e301 i hi]
        exact hR i q hq
    have hz := law_loop (e := e) (below := below) (l := l) hL C0 hG OK (L + 7) 0 S0 (by omega) (by omega) hV H locs ls hPm hS (lv_sub hl [3, 2, 1, 0] rfl)
    exact hz
  exact go s.heap [] _ (fun k q h => by simp at h) ⟨fun i j p q h => by simp at h, fun k q h => by simp at h⟩ va_S.rf hl
