theorem sr_of {own tx : String} {k z : Nat} {a : Array Value} {U : State} (h1 : (Cond.stringRef own k tx).before a U = true) (h2 : (Term.string own k).eval a U none [] U = some (.ref z)) : vk_R own k tx z U := vk_R.of h1 h2
theorem ak_i {args : Array Value} {s : State} (h : (Cond.arrayClass .int).before args s = true) : ∃ cA : ClassId, ArrOfT s cA .int ∧ va_RA s cA .int := by
  obtain ⟨c, k, comp, h1, h2, h3⟩ := Cond.arrayClass_spec h
  exact ⟨c, fun n z => ⟨fun k h => (by cases h), k, h2, comp, h3⟩, h1⟩
theorem ak_z {args : Array Value} {s : State} (h : (Cond.arrayClass .boolean).before args s = true) : ∃ cA : ClassId, ArrOfT s cA .boolean ∧ va_RA s cA .boolean := by
  obtain ⟨c, k, comp, h1, h2, h3⟩ := Cond.arrayClass_spec h
  exact ⟨c, fun n z => ⟨fun k h => (by cases h), k, h2, comp, h3⟩, h1⟩
theorem ak_j {args : Array Value} {s : State} (h : (Cond.arrayClass .long).before args s = true) : ∃ cA : ClassId, ArrOfT s cA .long ∧ va_RA s cA .long := by
  obtain ⟨c, k, comp, h1, h2, h3⟩ := Cond.arrayClass_spec h
  exact ⟨c, fun n z => ⟨fun k h => (by cases h), k, h2, comp, h3⟩, h1⟩
theorem sr_ {own tx : String} {k : Nat} {a : Array Value} {U : State} (h : (Cond.stringRef own k tx).before a U = true) : ∃ z, vk_R own k tx z U := by
  have hcur : ∃ cur, U.vm.findClass own = some cur := by
    have h1 := h
    simp only [Cond.before, Cond.holds, Cond.value] at h1
    cases hc : U.vm.findClass own with
    | none => simp [hc] at h1
    | some cur => exact ⟨cur, rfl⟩
  obtain ⟨cur, hcur⟩ := hcur
  obtain ⟨-, -, -, z, -, -, -, -, -, hev⟩ := Cond.stringRef_spec hcur h
  exact ⟨z, sr_of h hev⟩
theorem kn_ {s : State} {a : Array Value} (hB : ∀ w ∈ BG, w.before a s = true) : ∃ (dC : Nat → ClassId) (dI : Nat → Nat → Nat), va_K (dC, dI) vwCl [] s := by
  obtain ⟨c0, i0, k0⟩ := u_known (C := RX0) (T := TX0) (N := 3) (n := 3) hB inB0 (hB _ lk_25)
  obtain ⟨c1, i1, k1⟩ := u_known (C := RX1) (T := TX1) (N := 3) (n := 3) hB inB1 (hB _ lk_59)
  obtain ⟨c2, i2, k2⟩ := u_known (C := RX2) (T := TX2) (N := 4) (n := 4) hB inB2 (hB _ lk_95)
  obtain ⟨c3, i3, k3⟩ := u_known (C := RX3) (T := TX3) (N := 3) (n := 3) hB inB3 (hB _ lk_43)
  obtain ⟨c4, i4, k4⟩ := u_known (C := RX4) (T := TX4) (N := 4) (n := 4) hB inB4 (hB _ lk_75)
  obtain ⟨c5, i5, k5⟩ := u_known (C := RX5) (T := TX5) (N := 5) (n := 5) hB inB5 (hB _ lk_17)
  obtain ⟨c6, i6, k6⟩ := u_known (C := RX6) (T := TX6) (N := 11) (n := 11) hB inB6 (hB _ lk_624)
  refine ⟨fun k => [c0, c1, c2, c3, c4, c5, c6].getD k c0, fun k => [i0, i1, i2, i3, i4, i5, i6].getD k i0, fun k q hq => ?_, fun k q hk => by cases hk⟩
  match k, hq with
  | 0, hq => exact (Option.some.inj (show some (RX0, TX0, 3) = some q from hq)) ▸ k0
  | 1, hq => exact (Option.some.inj (show some (RX1, TX1, 3) = some q from hq)) ▸ k1
  | 2, hq => exact (Option.some.inj (show some (RX2, TX2, 4) = some q from hq)) ▸ k2
  | 3, hq => exact (Option.some.inj (show some (RX3, TX3, 3) = some q from hq)) ▸ k3
  | 4, hq => exact (Option.some.inj (show some (RX4, TX4, 4) = some q from hq)) ▸ k4
  | 5, hq => exact (Option.some.inj (show some (RX5, TX5, 5) = some q from hq)) ▸ k5
  | 6, hq => exact (Option.some.inj (show some (RX6, TX6, 11) = some q from hq)) ▸ k6
  | k + 7, hq => exact absurd (show (none : Option vw_C) = some q from hq) (fun h => by cases h)
theorem nx_in : ∀ w ∈ nx_, w ∈ lw_tbl := by decide +kernel
set_option maxHeartbeats 4000000 in
set_option maxRecDepth 100000 in
theorem whole_start {p : Program} {e : Env} {s : State} {m : MethodId} {below : List Frame} {meth : Method} {c : Code} (l : Launch) (htr : l.stackTraces = false) {b L : Nat} {xs : Nat → Int32} (hL : L ≤ 2048) (C0 : lw_At p s m meth c b L xs) : W p l e room_1 s m #[Value.ref b] below meth c s.heap [] 0 0 (lw_Z below #[Value.ref b] s) (entryFrame m ([Value.ref b] : List Value).toArray 7) := by
  obtain ⟨hx, hb, hr, hml, hown, hts, hXs, hbl, hlocks, hgv⟩ := C0
  have hown : s.vm.findClass "MovedFramesLaw" = some m.cls := hown
  have hB : ∀ w ∈ BG, w.before #[Value.ref b] s = true := fun w h => hts w (List.mem_filter.mp h).1
  obtain ⟨dC, dI, hK0⟩ := kn_ hB
  obtain ⟨cI, haI, hbI⟩ := ak_i (hB _ lk_41)
  obtain ⟨cZ, haZ, hbZ⟩ := ak_z (hB _ lk_93)
  obtain ⟨cJ, haJ, hbJ⟩ := ak_j (hB _ lk_825)
  have hK : va_K (dC, dI) vwCl (ty3_ cI cZ cJ) s := ⟨hK0.1, fun k q hk => by
    match k, hk with
    | 0, hk => exact (Option.some.inj (show some (cI, (.int : FieldType)) = some q from hk)) ▸ ⟨haI, hbI⟩
    | 1, hk => exact (Option.some.inj (show some (cZ, (.boolean : FieldType)) = some q from hk)) ▸ ⟨haZ, hbZ⟩
    | 2, hk => exact (Option.some.inj (show some (cJ, (.long : FieldType)) = some q from hk)) ▸ ⟨haJ, hbJ⟩
    | k + 3, hk => exact absurd (show (none : Option (ClassId × FieldType)) = some q from hk) (fun h => by cases h)⟩
  have hKc : va_K (dC, dI) vwCl [(cI, .int), (cZ, .boolean)] s := hK.sub [0, 1] rfl
  have hN : nl_ s := ⟨va_tabs rfl rfl (hts _ (List.mem_append_right _ (List.mem_of_getElem? (i := 26) (by decide +kernel)))), va_tabs rfl rfl (hts _ (List.mem_append_right _ (List.mem_of_getElem? (i := 137) (by decide +kernel)))), va_tabs rfl rfl (hts _ (List.mem_append_right _ (List.mem_of_getElem? (i := 554) (by decide +kernel)))), va_tabs rfl rfl (hts _ (List.mem_append_right _ (List.mem_of_getElem? (i := 621) (by decide +kernel))))⟩
  have hT : tp_ s := ⟨fun w hw => va_tabs (nx_tab w hw) rfl (hts w (nx_in w hw)), sr_ (hts _ (List.mem_append_right _ (List.mem_of_getElem? (i := 265) (by decide +kernel)))), sr_ (hts _ (List.mem_append_right _ (List.mem_of_getElem? (i := 351) (by decide +kernel)))), sr_ (hts _ (List.mem_append_right _ (List.mem_of_getElem? (i := 376) (by decide +kernel)))), sr_ (hts _ (List.mem_append_right _ (List.mem_of_getElem? (i := 384) (by decide +kernel)))), sr_ (hts _ (List.mem_append_right _ (List.mem_of_getElem? (i := 455) (by decide +kernel)))), sr_ (hts _ (List.mem_append_right _ (List.mem_of_getElem? (i := 456) (by decide +kernel)))), sr_ (hts _ (List.mem_append_right _ (List.mem_of_getElem? (i := 465) (by decide +kernel)))), sr_ (hts _ (List.mem_append_right _ (List.mem_of_getElem? (i := 520) (by decide +kernel)))), sr_ (hts _ (List.mem_append_right _ (List.mem_of_getElem? (i := 544) (by decide +kernel)))), sr_ (hts _ (List.mem_append_right _ (List.mem_of_getElem? (i := 571) (by decide +kernel))))⟩
  have hC : nc_ s := ⟨va_Nc.of (flat_of_before _ hgv (Cond.not (.castable "java/lang/IllegalStateException" "java/lang/IllegalArgumentException")) (by decide +kernel)), va_Nc.of (flat_of_before _ hgv (Cond.not (.castable "java/lang/IndexOutOfBoundsException" "java/lang/IllegalArgumentException")) (by decide +kernel)), va_Nc.of (flat_of_before _ hgv (Cond.not (.castable "java/lang/IllegalStateException" "java/lang/IndexOutOfBoundsException")) (by decide +kernel))⟩
  obtain ⟨A, hAe⟩ : ∃ A : Nat → Prop, A = fun q => s.heap.size ≤ q := ⟨_, rfl⟩
  have hA : ∀ q, s.heap.size ≤ q → A q := fun q h => by rw [hAe]; exact h
  have hAA : ∀ q, A q → s.heap.size ≤ q := fun q h => by rw [hAe] at h; exact h
  have hAn : ∀ a : Nat, a < s.heap.size → ¬ A a := fun a h1 h2 => absurd (hAA a h2) (Nat.not_le.mpr h1)
  have hZ : zq_ A s s.heap := ⟨vx_Zqof (hts _ (List.mem_append_right _ (List.mem_of_getElem? (i := 251) (by decide +kernel)))) (hts _ (List.mem_append_right _ (List.mem_of_getElem? (i := 8) (by decide +kernel)))) (flat_of_before _ hgv (Cond.isRef (.static "java/lang/Throwable" "UNASSIGNED_STACK" "[Ljava/lang/StackTraceElement;")) (by decide +kernel)) hAn, vx_Zqof (hts _ (List.mem_append_right _ (List.mem_of_getElem? (i := 253) (by decide +kernel)))) (hts _ (List.mem_append_right _ (List.mem_of_getElem? (i := 8) (by decide +kernel)))) (flat_of_before _ hgv (Cond.isRef (.static "java/lang/Throwable" "SUPPRESSED_SENTINEL" "Ljava/util/List;")) (by decide +kernel)) hAn⟩
  have hP : va_P (dC, dI) vwCl [] s.heap := fun k q h => by cases h
  have hD : va_D A [] := ⟨fun i j p q h => (by cases h), fun k q h => (by cases h)⟩
  have hS : va_S A s.heap s.heap [] := va_S.rf
  have hl := lv_entry ([.ref b]) (n := 7) (Nat.le_of_ble_eq_true rfl)
  rw [lg_entry_eq]
  generalize (lg_sl ([.ref b]) ++ List.replicate (7 - (lg_sl ([.ref b])).length) Slot.unset).toArray = ls at hl ⊢
  have hl : lv_has ls 7 [(0, .ref b)] := hl
  refine va_new (ci := 5) (fs := [.null, .null, .null, .null, .null]) (C := RX5) (T := TX5) (N := 5) hx hb hB inB5 tyX5 tyX5_ok hown (hB _ lk_16) (hB _ lk_17) (hB _ lk_1) hK hP hD hS hA rfl df_5 (Nat.le_of_ble_eq_true rfl) (Nat.le_of_ble_eq_true rfl) nd_L_law_0 (fun q0 H hP hD hS => ?_)
  have hP : va_P (dC, dI) vwCl (wi_F_init q0 ()) H := hP
  have hD : va_D A (wi_F_init q0 ()) := hD
  refine W.widen (k := 1) (n := 5) (Nat.le_of_ble_eq_true rfl) (Nat.le_of_ble_eq_true rfl) ?_
  refine lv_dup hx hb nd_L_law_3 rfl ?_
  have hFc := va_free (wc := wi_F_init q0 ()) hD hS hA [0] rfl
  refine va_callv (va_runI (As := []) (rest := [.ref q0]) ⟨hx, hb, hml, hown, hB⟩ (ki_F_init l dC dI cI cZ q0 H.size) ⟨callB_of 0 hB (gi_ lk_20) rfl rfl rfl (hB _ lk_1) (hB _ lk_18) (by decide +kernel) ⟨(Nat.le_of_ble_eq_true rfl), (Nat.le_of_ble_eq_true rfl)⟩, rfl, hB _ lk_19⟩ ⟨bl_, pre_ (σ := ()) (wd := wi_F_init q0) hP hKc hD hN⟩ rfl rfl hl.1 rfl (lv_room (Nat.le_of_ble_eq_true rfl)) nd_L_law_4 ⟨(Nat.le_of_ble_eq_true rfl), (Nat.le_of_ble_eq_true rfl)⟩) hS (fun q _ h => hFc q h) hFc (fun q t H1 locs ht hvm hw hB1 hz1 hk1 hS => ?_)
  obtain ⟨hP1, hK1, hD1⟩ := hB1
  rw [ht] at hP1
  subst hw
  have hP : va_P (dC, dI) vwCl (wd_C q cI cZ CS0) H1 := hP1
  have hD : va_D A (wd_C q cI cZ CS0) := hD1.weaken (fun k q _ h => hFc q.1 h)
  refine W.widen (k := 16) (n := 2522) (Nat.le_of_ble_eq_true rfl) (Nat.le_of_ble_eq_true rfl) ?_
  refine lv_astore_n (lv' := [(1, .ref (q 0)), (0, .ref b)]) hx hb nd_L_law_7 rfl hl (by decide) rfl (fun ls hl => ?_)
  refine va_new (ci := 6) (fs := [.int 0, .null, .null, .null, .null, .null, .null, .null, .null, .null, .int 0]) (C := RX6) (T := TX6) (N := 11) hx hb hB inB6 tyX6 tyX6_ok hown (hB _ lk_623) (hB _ lk_624) (hB _ lk_7) hK hP hD hS hA rfl df_6 (Nat.le_of_ble_eq_true rfl) (Nat.le_of_ble_eq_true rfl) nd_L_law_8 (fun r0 H hP hD hS => ?_)
  refine W.widen (k := 17) (n := 2533) (Nat.le_of_ble_eq_true rfl) (Nat.le_of_ble_eq_true rfl) ?_
  refine lv_dup hx hb nd_L_law_11 rfl ?_
  have hPm : va_P (dC, dI) vwCl (wi_M_init r0 ()) H := hP.sub [16] rfl
  have hDm : va_D A (wi_M_init r0 ()) := hD.sub [16] (by decide) rfl
  have hFc := va_free (wc := wi_M_init r0 ()) hD hS hA [16] rfl
  refine va_callv (va_runI (As := []) (rest := [.ref r0]) ⟨hx, hb, hml, hown, hB⟩ (ki_M_init l dC dI cI cZ r0 H.size) ⟨callB_of 0 hB (gi_ lk_627) rfl rfl rfl (hB _ lk_7) (hB _ lk_625) (by decide +kernel) ⟨(Nat.le_of_ble_eq_true rfl), (Nat.le_of_ble_eq_true rfl)⟩, rfl, hB _ lk_626⟩ ⟨bl_, pre_ (σ := ()) (wd := wi_M_init r0) hPm hKc hDm hN⟩ rfl rfl hl.1 rfl (lv_room (Nat.le_of_ble_eq_true rfl)) nd_L_law_12 ⟨(Nat.le_of_ble_eq_true rfl), (Nat.le_of_ble_eq_true rfl)⟩) hS (fun q _ h => hFc q h) hFc (fun r t H1 locs ht hvm hw hB1 hz1 hk1 hS => ?_)
  obtain ⟨hP1, hK1, hD1⟩ := hB1
  rw [ht] at hP1
  subst hw
  obtain ⟨hP, hD⟩ := va_join (wc := wi_M_init (r 0) ()) (wr := wd_C q cI cZ CS0) (w1 := wd_M r cI cZ MS0) hP hD [16] [0, 1, 2, 3, 4, 5, 6, 7, 8, 9, 10, 11, 12, 13, 14, 15] rfl rfl (by decide) (by decide) hk1 hFc hP1 hD1
  refine W.widen (k := 26) (n := 4969) (Nat.le_of_ble_eq_true rfl) (Nat.le_of_ble_eq_true rfl) ?_
  refine lv_astore_n (lv' := [(2, .ref (r 0)), (1, .ref (q 0)), (0, .ref b)]) hx hb nd_L_law_15 rfl hl (by decide) rfl (fun ls hl => ?_)
  refine lv_iconst (v := 1) hx hb nd_L_law_16 (by decide) ?_
  refine va_newa (atype := .long) (N' := 1) (a0 := (1, .inr (.inl (fun _ => 0)))) (ty := .long) (n := 1) hx hb (hB _ lk_825) rfl hK hP hD hS hA (fun _ => rfl) (by decide) (by decide) (by decide) (Nat.le_of_ble_eq_true rfl) (Nat.le_of_ble_eq_true rfl) nd_L_law_17 (fun qo cA H hK9 hP hD hS => ?_)
  obtain rfl : cJ = cA := ra_j (hK9.2 2 _ rfl).2 (hK9.2 3 _ rfl).2
  have hP : va_P (dC, dI) vwCl (wl_ q r qo cI cZ cJ (CS0, (fun _ => 0), MS0)) H := hP.sub [0, 1, 2, 3, 4, 5, 6, 7, 8, 9, 10, 11, 12, 13, 14, 15, 26, 16, 17, 18, 19, 20, 21, 22, 23, 24, 25] rfl
  have hD : va_D A (wl_ q r qo cI cZ cJ (CS0, (fun _ => 0), MS0)) := hD.sub [0, 1, 2, 3, 4, 5, 6, 7, 8, 9, 10, 11, 12, 13, 14, 15, 26, 16, 17, 18, 19, 20, 21, 22, 23, 24, 25] (by decide) rfl
  refine lv_astore_n (lv' := [(3, .ref qo), (2, .ref (r 0)), (1, .ref (q 0)), (0, .ref b)]) hx hb nd_L_law_19 rfl hl (by decide) rfl (fun ls hl => ?_)
  refine lv_iconst (v := nI (4 * 0)) hx hb nd_L_law_20 (by decide) ?_
  refine lv_istore (lv' := [(4, .int (nI (4 * 0))), (3, .ref qo), (2, .ref (r 0)), (1, .ref (q 0)), (0, .ref b)]) hx hb nd_L_law_21 hl (by decide) rfl (fun ls hl => ?_)
  refine W.widen (k := 27 + 0) (n := 4970 + 6 * 0) (Nat.le_of_ble_eq_true rfl) (Nat.le_of_ble_eq_true rfl) ?_
  exact law_loop (Inv := pv_Inv) (dC := dC) (dI := dI) (cI := cI) (cZ := cZ) (cJ := cJ) (A := A) ⟨hx, hb, hr, hml, hown, hB, hXs, hbl, hAn b hbl, hlocks, hK, hN, hT, hZ, hC, hA, hAA, htr⟩ hL (fun j σ τ h hI x1 x2 x3 => pv_step j σ τ (Nat.le_trans h hL) hI x1 x2 x3) L 0 CS0 (fun _ => 0) MS0 (by omega) (by omega) pv_0 _ _ _ (lv_sub hl [4, 3, 2, 1, 0] rfl) hP hD hS
