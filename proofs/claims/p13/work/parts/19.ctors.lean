def qs_ (xs : List Nat) : Nat → Nat := fun k => xs.getD k 0
theorem ra_i {U : State} {a b : ClassId} (h1 : va_RA U a .int) (h2 : va_RA U b .int) : a = b := Option.some.inj (Eq.trans (Eq.symm (show U.vm.findClass ("[" ++ FieldType.int.toString) = some a from h1)) h2)
theorem ra_z {U : State} {a b : ClassId} (h1 : va_RA U a .boolean) (h2 : va_RA U b .boolean) : a = b := Option.some.inj (Eq.trans (Eq.symm (show U.vm.findClass ("[" ++ FieldType.boolean.toString) = some a from h1)) h2)
theorem ra_j {U : State} {a b : ClassId} (h1 : va_RA U a .long) (h2 : va_RA U b .long) : a = b := Option.some.inj (Eq.trans (Eq.symm (show U.vm.findClass ("[" ++ FieldType.long.toString) = some a from h1)) h2)
theorem df_0 : ∀ j, j < 3 → defaultValue (tyX0 j) = vp_V [.null, .null, .long 0] j := fun j hj => by
  match j, hj with
  | 0, _ => rfl
  | 1, _ => rfl
  | 2, _ => rfl
  | j + 3, h => exact absurd h (by omega)
theorem df_1 : ∀ j, j < 3 → defaultValue (tyX1 j) = vp_V [.null, .null, .null] j := fun j hj => by
  match j, hj with
  | 0, _ => rfl
  | 1, _ => rfl
  | 2, _ => rfl
  | j + 3, h => exact absurd h (by omega)
theorem df_2 : ∀ j, j < 4 → defaultValue (tyX2 j) = vp_V [.null, .null, .null, .int 0] j := fun j hj => by
  match j, hj with
  | 0, _ => rfl
  | 1, _ => rfl
  | 2, _ => rfl
  | 3, _ => rfl
  | j + 4, h => exact absurd h (by omega)
theorem df_3 : ∀ j, j < 3 → defaultValue (tyX3 j) = vp_V [.null, .null, .null] j := fun j hj => by
  match j, hj with
  | 0, _ => rfl
  | 1, _ => rfl
  | 2, _ => rfl
  | j + 3, h => exact absurd h (by omega)
theorem df_4 : ∀ j, j < 4 → defaultValue (tyX4 j) = vp_V [.null, .null, .null, .null] j := fun j hj => by
  match j, hj with
  | 0, _ => rfl
  | 1, _ => rfl
  | 2, _ => rfl
  | 3, _ => rfl
  | j + 4, h => exact absurd h (by omega)
theorem df_5 : ∀ j, j < 5 → defaultValue (tyX5 j) = vp_V [.null, .null, .null, .null, .null] j := fun j hj => by
  match j, hj with
  | 0, _ => rfl
  | 1, _ => rfl
  | 2, _ => rfl
  | 3, _ => rfl
  | 4, _ => rfl
  | j + 5, h => exact absurd h (by omega)
theorem df_6 : ∀ j, j < 11 → defaultValue (tyX6 j) = vp_V [.int 0, .null, .null, .null, .null, .null, .null, .null, .null, .null, .int 0] j := fun j hj => by
  match j, hj with
  | 0, _ => rfl
  | 1, _ => rfl
  | 2, _ => rfl
  | 3, _ => rfl
  | 4, _ => rfl
  | 5, _ => rfl
  | 6, _ => rfl
  | 7, _ => rfl
  | 8, _ => rfl
  | 9, _ => rfl
  | 10, _ => rfl
  | j + 11, h => exact absurd h (by omega)
def wi_Frames_init (h0 : Nat) (_ : Unit) : va_W := [(h0, .inr (0, [.null, .null, .long 0]))]
abbrev ri_Frames_init : Room := { frames := 1, cells := 2, slots := 1088, locals := 12 }
def wj_Frames_init (h0 : Nat) (cI cZ : ClassId) (u : Nat → Nat) : va_W := [(h0, .inr (0, [.ref (u 0), .ref (u 1), .long (-1)])), ((u 0), .inl (cI, 64, .inl (fun _ => 0))), ((u 1), .inl (cI, 1024, .inl (fun _ => 0)))]
set_option maxHeartbeats 4000000 in
set_option maxRecDepth 100000 in
theorem ki_Frames_init (l : Launch) (dC : Nat → ClassId) (dI : Nat → Nat → Nat) (cI cZ : ClassId) (h0 sz : Nat) : Met l ny_Frames_init nw_Frames_init ri_Frames_init (va_Pc [.ref h0] (pr_ (dC, dI) (wi_Frames_init h0) [(cI, .int), (cZ, .boolean)] sz ())) (va_Qv (fun (_ : Nat → Nat) => True) (at_ (dC, dI) (wj_Frames_init h0 cI cZ) [(cI, .int), (cZ, .boolean)] (va_A (wi_Frames_init h0 ()) sz)) (va_A (wi_Frames_init h0 ()) sz)) 2 1088 (va_A (wi_Frames_init h0 ()) sz) := by
  refine Met.ofW (cc := nb_Frames_init) (maxL := 1) (ret := none) (by decide) rfl ?_
  intro p e s m args below meth c s₁ B hml hv
  obtain ⟨rfl, hsz, hP, hK, hD0, hN⟩ := hv
  have hx := B.exec
  have hb := B.bytes
  have hr := B.returns
  have hts := atoms_spec (ws := nw_Frames_init) B.pre
  have hB : ∀ w ∈ BG, w.before ([.ref h0] : List Value).toArray s = true := fun w h => hts w (List.mem_cons_of_mem _ h)
  have hown : s.vm.findClass "MovedFrames$Frames" = some m.cls := findClass_of_methodNamed B.named
  have hlocks := B.notSynchronized
  have hin : meth.name = "<init>" := (name_of_methodNamed B.named B.method).1
  subst hsz
  have hD := hD0.self (sz := s.heap.size)
  generalize hAe : va_A (wi_Frames_init h0 ()) s.heap.size = A at hD ⊢
  have hA : ∀ q : Nat, s.heap.size ≤ q → A q := fun q h => by rw [← hAe]; exact Or.inr h
  have hS : va_S A s.heap s.heap [] := va_S.rf
  have hl := lv_entry ([.ref h0]) (n := 1) (Nat.le_of_ble_eq_true rfl)
  rw [lg_entry_eq]
  generalize (lg_sl ([.ref h0]) ++ List.replicate (1 - (lg_sl ([.ref h0])).length) Slot.unset).toArray = ls at hl ⊢
  have hl : lv_has ls 1 [(0, .ref h0)] := hl
  refine lv_aload_n hx hb nd_Frames_init_0 rfl (lv_at hl 0 rfl) ?_
  refine W.objInit hx hb hown (hB _ lk_29) (hB _ lk_22) (hB _ lk_23) rfl (by rw [hml]; exact hl.1) rfl nd_Frames_init_1 (Nat.le_of_ble_eq_true rfl) (Nat.le_of_ble_eq_true rfl) ?_
  refine W.eq (g2 := F0 m 4 ls []) rfl ?_
  refine lv_aload_n hx hb nd_Frames_init_4 rfl (lv_at hl 0 rfl) ?_
  refine lv_bipush (v := 64) hx hb nd_Frames_init_5 (by decide) ?_
  refine va_newa (atype := .int) (N' := 64) (a0 := (64, .inl (fun _ => 0))) (ty := .int) (n := 64) hx hb (hB _ lk_41) rfl hK hP hD hS hA (fun _ => rfl) (by decide) (by decide) (by decide) (Nat.le_of_ble_eq_true rfl) (Nat.le_of_ble_eq_true rfl) nd_Frames_init_7 (fun q7 cA H hK hP hD hS => ?_)
  obtain rfl : cI = cA := ra_i (hK.2 0 _ rfl).2 (hK.2 2 _ rfl).2
  have hK : va_K (dC, dI) vwCl [(cI, .int), (cZ, .boolean)] s := hK.sub [0, 1] rfl
  have hP : va_P (dC, dI) vwCl [(h0, .inr (0, [.null, .null, .long 0])), (q7, .inl (cI, 64, .inl (fun _ => 0)))] H := hP
  have hD : va_D A [(h0, .inr (0, [.null, .null, .long 0])), (q7, .inl (cI, 64, .inl (fun _ => 0)))] := hD
  refine W.widen (k := 1) (n := 64) (Nat.le_of_ble_eq_true rfl) (Nat.le_of_ble_eq_true rfl) ?_
  refine va_putF (D := (dC, dI)) (ci := 0) (v := .ref q7) (ty := (.array .int)) (C := RX0) (T := TX0) (N := 3) hx hb hB inB0 tyX0 tyX0_ok nX0 hown hK hP hD hS 0 rfl rfl 0 (by decide) (hB _ lk_31) (fun _ h9 => h9) rfl hin rfl (by decide +kernel) rfl rfl (Nat.le_of_ble_eq_true rfl) nd_Frames_init_9 (fun H locs hP hD hS => ?_)
  have hP : va_P (dC, dI) vwCl [(h0, .inr (0, [.ref q7, .null, .long 0])), (q7, .inl (cI, 64, .inl (fun _ => 0)))] H := hP
  have hD : va_D A [(h0, .inr (0, [.ref q7, .null, .long 0])), (q7, .inl (cI, 64, .inl (fun _ => 0)))] := hD
  refine lv_aload_n hx hb nd_Frames_init_12 rfl (lv_at hl 0 rfl) ?_
  refine lv_sipush (v := 1024) hx hb nd_Frames_init_13 (by decide) ?_
  refine va_newa (atype := .int) (N' := 1024) (a0 := (1024, .inl (fun _ => 0))) (ty := .int) (n := 1024) hx hb (hB _ lk_41) rfl hK hP hD hS hA (fun _ => rfl) (by decide) (by decide) (by decide) (Nat.le_of_ble_eq_true rfl) (Nat.le_of_ble_eq_true rfl) nd_Frames_init_16 (fun q16 cA H hK hP hD hS => ?_)
  obtain rfl : cI = cA := ra_i (hK.2 0 _ rfl).2 (hK.2 2 _ rfl).2
  have hK : va_K (dC, dI) vwCl [(cI, .int), (cZ, .boolean)] s := hK.sub [0, 1] rfl
  have hP : va_P (dC, dI) vwCl [(h0, .inr (0, [.ref q7, .null, .long 0])), (q7, .inl (cI, 64, .inl (fun _ => 0))), (q16, .inl (cI, 1024, .inl (fun _ => 0)))] H := hP
  have hD : va_D A [(h0, .inr (0, [.ref q7, .null, .long 0])), (q7, .inl (cI, 64, .inl (fun _ => 0))), (q16, .inl (cI, 1024, .inl (fun _ => 0)))] := hD
  refine W.widen (k := 2) (n := 1088) (Nat.le_of_ble_eq_true rfl) (Nat.le_of_ble_eq_true rfl) ?_
  refine va_putF (D := (dC, dI)) (ci := 0) (v := .ref q16) (ty := (.array .int)) (C := RX0) (T := TX0) (N := 3) hx hb hB inB0 tyX0 tyX0_ok nX0 hown hK hP hD hS 0 rfl rfl 1 (by decide) (hB _ lk_32) (fun _ h9 => h9) rfl hin rfl (by decide +kernel) rfl rfl (Nat.le_of_ble_eq_true rfl) nd_Frames_init_18 (fun H locs hP hD hS => ?_)
  have hP : va_P (dC, dI) vwCl [(h0, .inr (0, [.ref q7, .ref q16, .long 0])), (q7, .inl (cI, 64, .inl (fun _ => 0))), (q16, .inl (cI, 1024, .inl (fun _ => 0)))] H := hP
  have hD : va_D A [(h0, .inr (0, [.ref q7, .ref q16, .long 0])), (q7, .inl (cI, 64, .inl (fun _ => 0))), (q16, .inl (cI, 1024, .inl (fun _ => 0)))] := hD
  refine lv_aload_n hx hb nd_Frames_init_21 rfl (lv_at hl 0 rfl) ?_
  refine lv_ldc2 (v := (-1)) hx hb hown (hB _ lk_30) nd_Frames_init_22 ?_
  refine va_put (D := (dC, dI)) (ci := 0) (v := .long (-1)) (ty := .long) (C := RX0) (T := TX0) (N := 3) hx hb hB inB0 tyX0 tyX0_ok nX0 hown hK hP hD hS 0 rfl rfl 2 (by decide) (hB _ lk_33) (fun _ h9 => h9) rfl (by decide +kernel) rfl rfl (Nat.le_of_ble_eq_true rfl) nd_Frames_init_25 (fun H locs hP hD hS => ?_)
  have hP : va_P (dC, dI) vwCl [(h0, .inr (0, [.ref q7, .ref q16, .long (-1)])), (q7, .inl (cI, 64, .inl (fun _ => 0))), (q16, .inl (cI, 1024, .inl (fun _ => 0)))] H := hP
  have hD : va_D A [(h0, .inr (0, [.ref q7, .ref q16, .long (-1)])), (q7, .inl (cI, 64, .inl (fun _ => 0))), (q16, .inl (cI, 1024, .inl (fun _ => 0)))] := hD
  have hP9 : va_P (dC, dI) vwCl (wj_Frames_init h0 cI cZ (qs_ [q7, q16])) H := hP.sub [0, 1, 2] rfl
  have hD9 : va_D A (wj_Frames_init h0 cI cZ (qs_ [q7, q16])) := hD.sub [0, 1, 2] (by decide) rfl
  exact W.vret hx hb hr (fun t ht hW => ⟨⟨qs_ [q7, q16], rfl, trivial, by rw [ht]; exact hP9, va_K.moved hW.alike hK, hD9⟩, hS.F ht⟩) hS.2.2 nd_Frames_init_28 hlocks
def wi_Slabs_init (h0 : Nat) (_ : Unit) : va_W := [(h0, .inr (3, [.null, .null, .null]))]
abbrev ri_Slabs_init : Room := { frames := 1, cells := 2, slots := 128, locals := 12 }
def wj_Slabs_init (h0 : Nat) (f1 : Nat) (cI cZ : ClassId) (u : Nat → Nat) : va_W := [(h0, .inr (3, [.ref f1, .ref (u 0), .ref (u 1)])), ((u 0), .inl (cI, 64, .inl (fun _ => 0))), ((u 1), .inl (cI, 64, .inl (fun _ => 0)))]
set_option maxHeartbeats 4000000 in
set_option maxRecDepth 100000 in
theorem ki_Slabs_init (l : Launch) (dC : Nat → ClassId) (dI : Nat → Nat → Nat) (cI cZ : ClassId) (h0 sz : Nat) (f1 : Nat) : Met l ny_Slabs_init nw_Slabs_init ri_Slabs_init (va_Pc [.ref h0, .ref f1] (pr_ (dC, dI) (wi_Slabs_init h0) [(cI, .int), (cZ, .boolean)] sz ())) (va_Qv (fun (_ : Nat → Nat) => True) (at_ (dC, dI) (wj_Slabs_init h0 f1 cI cZ) [(cI, .int), (cZ, .boolean)] (va_A (wi_Slabs_init h0 ()) sz)) (va_A (wi_Slabs_init h0 ()) sz)) 2 128 (va_A (wi_Slabs_init h0 ()) sz) := by
  refine Met.ofW (cc := nb_Slabs_init) (maxL := 2) (ret := none) (by decide) rfl ?_
  intro p e s m args below meth c s₁ B hml hv
  obtain ⟨rfl, hsz, hP, hK, hD0, hN⟩ := hv
  have hx := B.exec
  have hb := B.bytes
  have hr := B.returns
  have hts := atoms_spec (ws := nw_Slabs_init) B.pre
  have hB : ∀ w ∈ BG, w.before ([.ref h0, .ref f1] : List Value).toArray s = true := fun w h => hts w (List.mem_cons_of_mem _ h)
  have hown : s.vm.findClass "MovedFrames$Slabs" = some m.cls := findClass_of_methodNamed B.named
  have hlocks := B.notSynchronized
  have hin : meth.name = "<init>" := (name_of_methodNamed B.named B.method).1
  subst hsz
  have hD := hD0.self (sz := s.heap.size)
  generalize hAe : va_A (wi_Slabs_init h0 ()) s.heap.size = A at hD ⊢
  have hA : ∀ q : Nat, s.heap.size ≤ q → A q := fun q h => by rw [← hAe]; exact Or.inr h
  have hS : va_S A s.heap s.heap [] := va_S.rf
  have hl := lv_entry ([.ref h0, .ref f1]) (n := 2) (Nat.le_of_ble_eq_true rfl)
  rw [lg_entry_eq]
  generalize (lg_sl ([.ref h0, .ref f1]) ++ List.replicate (2 - (lg_sl ([.ref h0, .ref f1])).length) Slot.unset).toArray = ls at hl ⊢
  have hl : lv_has ls 2 [(0, .ref h0), (1, .ref f1)] := hl
  refine lv_aload_n hx hb nd_Slabs_init_0 rfl (lv_at hl 0 rfl) ?_
  refine W.objInit hx hb hown (hB _ lk_47) (hB _ lk_22) (hB _ lk_23) rfl (by rw [hml]; exact hl.1) rfl nd_Slabs_init_1 (Nat.le_of_ble_eq_true rfl) (Nat.le_of_ble_eq_true rfl) ?_
  refine W.eq (g2 := F0 m 4 ls []) rfl ?_
  refine lv_aload_n hx hb nd_Slabs_init_4 rfl (lv_at hl 0 rfl) ?_
  refine lv_bipush (v := 64) hx hb nd_Slabs_init_5 (by decide) ?_
  refine va_newa (atype := .int) (N' := 64) (a0 := (64, .inl (fun _ => 0))) (ty := .int) (n := 64) hx hb (hB _ lk_41) rfl hK hP hD hS hA (fun _ => rfl) (by decide) (by decide) (by decide) (Nat.le_of_ble_eq_true rfl) (Nat.le_of_ble_eq_true rfl) nd_Slabs_init_7 (fun q7 cA H hK hP hD hS => ?_)
  obtain rfl : cI = cA := ra_i (hK.2 0 _ rfl).2 (hK.2 2 _ rfl).2
  have hK : va_K (dC, dI) vwCl [(cI, .int), (cZ, .boolean)] s := hK.sub [0, 1] rfl
  have hP : va_P (dC, dI) vwCl [(h0, .inr (3, [.null, .null, .null])), (q7, .inl (cI, 64, .inl (fun _ => 0)))] H := hP
  have hD : va_D A [(h0, .inr (3, [.null, .null, .null])), (q7, .inl (cI, 64, .inl (fun _ => 0)))] := hD
  refine W.widen (k := 1) (n := 64) (Nat.le_of_ble_eq_true rfl) (Nat.le_of_ble_eq_true rfl) ?_
  refine va_putF (D := (dC, dI)) (ci := 3) (v := .ref q7) (ty := (.array .int)) (C := RX3) (T := TX3) (N := 3) hx hb hB inB3 tyX3 tyX3_ok nX3 hown hK hP hD hS 0 rfl rfl 1 (by decide) (hB _ lk_49) (fun _ h9 => h9) rfl hin rfl (by decide +kernel) rfl rfl (Nat.le_of_ble_eq_true rfl) nd_Slabs_init_9 (fun H locs hP hD hS => ?_)
  have hP : va_P (dC, dI) vwCl [(h0, .inr (3, [.null, .ref q7, .null])), (q7, .inl (cI, 64, .inl (fun _ => 0)))] H := hP
  have hD : va_D A [(h0, .inr (3, [.null, .ref q7, .null])), (q7, .inl (cI, 64, .inl (fun _ => 0)))] := hD
  refine lv_aload_n hx hb nd_Slabs_init_12 rfl (lv_at hl 0 rfl) ?_
  refine lv_bipush (v := 64) hx hb nd_Slabs_init_13 (by decide) ?_
  refine va_newa (atype := .int) (N' := 64) (a0 := (64, .inl (fun _ => 0))) (ty := .int) (n := 64) hx hb (hB _ lk_41) rfl hK hP hD hS hA (fun _ => rfl) (by decide) (by decide) (by decide) (Nat.le_of_ble_eq_true rfl) (Nat.le_of_ble_eq_true rfl) nd_Slabs_init_15 (fun q15 cA H hK hP hD hS => ?_)
  obtain rfl : cI = cA := ra_i (hK.2 0 _ rfl).2 (hK.2 2 _ rfl).2
  have hK : va_K (dC, dI) vwCl [(cI, .int), (cZ, .boolean)] s := hK.sub [0, 1] rfl
  have hP : va_P (dC, dI) vwCl [(h0, .inr (3, [.null, .ref q7, .null])), (q7, .inl (cI, 64, .inl (fun _ => 0))), (q15, .inl (cI, 64, .inl (fun _ => 0)))] H := hP
  have hD : va_D A [(h0, .inr (3, [.null, .ref q7, .null])), (q7, .inl (cI, 64, .inl (fun _ => 0))), (q15, .inl (cI, 64, .inl (fun _ => 0)))] := hD
  refine W.widen (k := 2) (n := 128) (Nat.le_of_ble_eq_true rfl) (Nat.le_of_ble_eq_true rfl) ?_
  refine va_putF (D := (dC, dI)) (ci := 3) (v := .ref q15) (ty := (.array .int)) (C := RX3) (T := TX3) (N := 3) hx hb hB inB3 tyX3 tyX3_ok nX3 hown hK hP hD hS 0 rfl rfl 2 (by decide) (hB _ lk_50) (fun _ h9 => h9) rfl hin rfl (by decide +kernel) rfl rfl (Nat.le_of_ble_eq_true rfl) nd_Slabs_init_17 (fun H locs hP hD hS => ?_)
  have hP : va_P (dC, dI) vwCl [(h0, .inr (3, [.null, .ref q7, .ref q15])), (q7, .inl (cI, 64, .inl (fun _ => 0))), (q15, .inl (cI, 64, .inl (fun _ => 0)))] H := hP
  have hD : va_D A [(h0, .inr (3, [.null, .ref q7, .ref q15])), (q7, .inl (cI, 64, .inl (fun _ => 0))), (q15, .inl (cI, 64, .inl (fun _ => 0)))] := hD
  refine lv_aload_n hx hb nd_Slabs_init_20 rfl (lv_at hl 0 rfl) ?_
  refine lv_aload_n hx hb nd_Slabs_init_21 rfl (lv_at hl 1 rfl) ?_
  refine va_putF (D := (dC, dI)) (ci := 3) (v := .ref f1) (ty := (.object "MovedFrames$Frames")) (C := RX3) (T := TX3) (N := 3) hx hb hB inB3 tyX3 tyX3_ok nX3 hown hK hP hD hS 0 rfl rfl 0 (by decide) (hB _ lk_48) (fun _ h9 => h9) rfl hin rfl (by decide +kernel) rfl rfl (Nat.le_of_ble_eq_true rfl) nd_Slabs_init_22 (fun H locs hP hD hS => ?_)
  have hP : va_P (dC, dI) vwCl [(h0, .inr (3, [.ref f1, .ref q7, .ref q15])), (q7, .inl (cI, 64, .inl (fun _ => 0))), (q15, .inl (cI, 64, .inl (fun _ => 0)))] H := hP
  have hD : va_D A [(h0, .inr (3, [.ref f1, .ref q7, .ref q15])), (q7, .inl (cI, 64, .inl (fun _ => 0))), (q15, .inl (cI, 64, .inl (fun _ => 0)))] := hD
  have hP9 : va_P (dC, dI) vwCl (wj_Slabs_init h0 f1 cI cZ (qs_ [q7, q15])) H := hP.sub [0, 1, 2] rfl
  have hD9 : va_D A (wj_Slabs_init h0 f1 cI cZ (qs_ [q7, q15])) := hD.sub [0, 1, 2] (by decide) rfl
  exact W.vret hx hb hr (fun t ht hW => ⟨⟨qs_ [q7, q15], rfl, trivial, by rw [ht]; exact hP9, va_K.moved hW.alike hK, hD9⟩, hS.F ht⟩) hS.2.2 nd_Slabs_init_25 hlocks
def wi_Ranges_init (h0 : Nat) (_ : Unit) : va_W := [(h0, .inr (1, [.null, .null, .null]))]
abbrev ri_Ranges_init : Room := { frames := 1, cells := 2, slots := 128, locals := 12 }
def wj_Ranges_init (h0 : Nat) (f1 : Nat) (cI cZ : ClassId) (u : Nat → Nat) : va_W := [(h0, .inr (1, [.ref f1, .ref (u 0), .ref (u 1)])), ((u 0), .inl (cI, 64, .inl (fun _ => 0))), ((u 1), .inl (cI, 64, .inl (fun _ => 0)))]
set_option maxHeartbeats 4000000 in
set_option maxRecDepth 100000 in
theorem ki_Ranges_init (l : Launch) (dC : Nat → ClassId) (dI : Nat → Nat → Nat) (cI cZ : ClassId) (h0 sz : Nat) (f1 : Nat) : Met l ny_Ranges_init nw_Ranges_init ri_Ranges_init (va_Pc [.ref h0, .ref f1] (pr_ (dC, dI) (wi_Ranges_init h0) [(cI, .int), (cZ, .boolean)] sz ())) (va_Qv (fun (_ : Nat → Nat) => True) (at_ (dC, dI) (wj_Ranges_init h0 f1 cI cZ) [(cI, .int), (cZ, .boolean)] (va_A (wi_Ranges_init h0 ()) sz)) (va_A (wi_Ranges_init h0 ()) sz)) 2 128 (va_A (wi_Ranges_init h0 ()) sz) := by
  refine Met.ofW (cc := nb_Ranges_init) (maxL := 2) (ret := none) (by decide) rfl ?_
  intro p e s m args below meth c s₁ B hml hv
  obtain ⟨rfl, hsz, hP, hK, hD0, hN⟩ := hv
  have hx := B.exec
  have hb := B.bytes
  have hr := B.returns
  have hts := atoms_spec (ws := nw_Ranges_init) B.pre
  have hB : ∀ w ∈ BG, w.before ([.ref h0, .ref f1] : List Value).toArray s = true := fun w h => hts w (List.mem_cons_of_mem _ h)
  have hown : s.vm.findClass "MovedFrames$Ranges" = some m.cls := findClass_of_methodNamed B.named
  have hlocks := B.notSynchronized
  have hin : meth.name = "<init>" := (name_of_methodNamed B.named B.method).1
  subst hsz
  have hD := hD0.self (sz := s.heap.size)
  generalize hAe : va_A (wi_Ranges_init h0 ()) s.heap.size = A at hD ⊢
  have hA : ∀ q : Nat, s.heap.size ≤ q → A q := fun q h => by rw [← hAe]; exact Or.inr h
  have hS : va_S A s.heap s.heap [] := va_S.rf
  have hl := lv_entry ([.ref h0, .ref f1]) (n := 2) (Nat.le_of_ble_eq_true rfl)
  rw [lg_entry_eq]
  generalize (lg_sl ([.ref h0, .ref f1]) ++ List.replicate (2 - (lg_sl ([.ref h0, .ref f1])).length) Slot.unset).toArray = ls at hl ⊢
  have hl : lv_has ls 2 [(0, .ref h0), (1, .ref f1)] := hl
  refine lv_aload_n hx hb nd_Ranges_init_0 rfl (lv_at hl 0 rfl) ?_
  refine W.objInit hx hb hown (hB _ lk_63) (hB _ lk_22) (hB _ lk_23) rfl (by rw [hml]; exact hl.1) rfl nd_Ranges_init_1 (Nat.le_of_ble_eq_true rfl) (Nat.le_of_ble_eq_true rfl) ?_
  refine W.eq (g2 := F0 m 4 ls []) rfl ?_
  refine lv_aload_n hx hb nd_Ranges_init_4 rfl (lv_at hl 0 rfl) ?_
  refine lv_bipush (v := 64) hx hb nd_Ranges_init_5 (by decide) ?_
  refine va_newa (atype := .int) (N' := 64) (a0 := (64, .inl (fun _ => 0))) (ty := .int) (n := 64) hx hb (hB _ lk_41) rfl hK hP hD hS hA (fun _ => rfl) (by decide) (by decide) (by decide) (Nat.le_of_ble_eq_true rfl) (Nat.le_of_ble_eq_true rfl) nd_Ranges_init_7 (fun q7 cA H hK hP hD hS => ?_)
  obtain rfl : cI = cA := ra_i (hK.2 0 _ rfl).2 (hK.2 2 _ rfl).2
  have hK : va_K (dC, dI) vwCl [(cI, .int), (cZ, .boolean)] s := hK.sub [0, 1] rfl
  have hP : va_P (dC, dI) vwCl [(h0, .inr (1, [.null, .null, .null])), (q7, .inl (cI, 64, .inl (fun _ => 0)))] H := hP
  have hD : va_D A [(h0, .inr (1, [.null, .null, .null])), (q7, .inl (cI, 64, .inl (fun _ => 0)))] := hD
  refine W.widen (k := 1) (n := 64) (Nat.le_of_ble_eq_true rfl) (Nat.le_of_ble_eq_true rfl) ?_
  refine va_putF (D := (dC, dI)) (ci := 1) (v := .ref q7) (ty := (.array .int)) (C := RX1) (T := TX1) (N := 3) hx hb hB inB1 tyX1 tyX1_ok nX1 hown hK hP hD hS 0 rfl rfl 1 (by decide) (hB _ lk_65) (fun _ h9 => h9) rfl hin rfl (by decide +kernel) rfl rfl (Nat.le_of_ble_eq_true rfl) nd_Ranges_init_9 (fun H locs hP hD hS => ?_)
  have hP : va_P (dC, dI) vwCl [(h0, .inr (1, [.null, .ref q7, .null])), (q7, .inl (cI, 64, .inl (fun _ => 0)))] H := hP
  have hD : va_D A [(h0, .inr (1, [.null, .ref q7, .null])), (q7, .inl (cI, 64, .inl (fun _ => 0)))] := hD
  refine lv_aload_n hx hb nd_Ranges_init_12 rfl (lv_at hl 0 rfl) ?_
  refine lv_bipush (v := 64) hx hb nd_Ranges_init_13 (by decide) ?_
  refine va_newa (atype := .int) (N' := 64) (a0 := (64, .inl (fun _ => 0))) (ty := .int) (n := 64) hx hb (hB _ lk_41) rfl hK hP hD hS hA (fun _ => rfl) (by decide) (by decide) (by decide) (Nat.le_of_ble_eq_true rfl) (Nat.le_of_ble_eq_true rfl) nd_Ranges_init_15 (fun q15 cA H hK hP hD hS => ?_)
  obtain rfl : cI = cA := ra_i (hK.2 0 _ rfl).2 (hK.2 2 _ rfl).2
  have hK : va_K (dC, dI) vwCl [(cI, .int), (cZ, .boolean)] s := hK.sub [0, 1] rfl
  have hP : va_P (dC, dI) vwCl [(h0, .inr (1, [.null, .ref q7, .null])), (q7, .inl (cI, 64, .inl (fun _ => 0))), (q15, .inl (cI, 64, .inl (fun _ => 0)))] H := hP
  have hD : va_D A [(h0, .inr (1, [.null, .ref q7, .null])), (q7, .inl (cI, 64, .inl (fun _ => 0))), (q15, .inl (cI, 64, .inl (fun _ => 0)))] := hD
  refine W.widen (k := 2) (n := 128) (Nat.le_of_ble_eq_true rfl) (Nat.le_of_ble_eq_true rfl) ?_
  refine va_putF (D := (dC, dI)) (ci := 1) (v := .ref q15) (ty := (.array .int)) (C := RX1) (T := TX1) (N := 3) hx hb hB inB1 tyX1 tyX1_ok nX1 hown hK hP hD hS 0 rfl rfl 2 (by decide) (hB _ lk_66) (fun _ h9 => h9) rfl hin rfl (by decide +kernel) rfl rfl (Nat.le_of_ble_eq_true rfl) nd_Ranges_init_17 (fun H locs hP hD hS => ?_)
  have hP : va_P (dC, dI) vwCl [(h0, .inr (1, [.null, .ref q7, .ref q15])), (q7, .inl (cI, 64, .inl (fun _ => 0))), (q15, .inl (cI, 64, .inl (fun _ => 0)))] H := hP
  have hD : va_D A [(h0, .inr (1, [.null, .ref q7, .ref q15])), (q7, .inl (cI, 64, .inl (fun _ => 0))), (q15, .inl (cI, 64, .inl (fun _ => 0)))] := hD
  refine lv_aload_n hx hb nd_Ranges_init_20 rfl (lv_at hl 0 rfl) ?_
  refine lv_aload_n hx hb nd_Ranges_init_21 rfl (lv_at hl 1 rfl) ?_
  refine va_putF (D := (dC, dI)) (ci := 1) (v := .ref f1) (ty := (.object "MovedFrames$Frames")) (C := RX1) (T := TX1) (N := 3) hx hb hB inB1 tyX1 tyX1_ok nX1 hown hK hP hD hS 0 rfl rfl 0 (by decide) (hB _ lk_64) (fun _ h9 => h9) rfl hin rfl (by decide +kernel) rfl rfl (Nat.le_of_ble_eq_true rfl) nd_Ranges_init_22 (fun H locs hP hD hS => ?_)
  have hP : va_P (dC, dI) vwCl [(h0, .inr (1, [.ref f1, .ref q7, .ref q15])), (q7, .inl (cI, 64, .inl (fun _ => 0))), (q15, .inl (cI, 64, .inl (fun _ => 0)))] H := hP
  have hD : va_D A [(h0, .inr (1, [.ref f1, .ref q7, .ref q15])), (q7, .inl (cI, 64, .inl (fun _ => 0))), (q15, .inl (cI, 64, .inl (fun _ => 0)))] := hD
  have hP9 : va_P (dC, dI) vwCl (wj_Ranges_init h0 f1 cI cZ (qs_ [q7, q15])) H := hP.sub [0, 1, 2] rfl
  have hD9 : va_D A (wj_Ranges_init h0 f1 cI cZ (qs_ [q7, q15])) := hD.sub [0, 1, 2] (by decide) rfl
  exact W.vret hx hb hr (fun t ht hW => ⟨⟨qs_ [q7, q15], rfl, trivial, by rw [ht]; exact hP9, va_K.moved hW.alike hK, hD9⟩, hS.F ht⟩) hS.2.2 nd_Ranges_init_25 hlocks
def wi_Spaces_init (h0 : Nat) (_ : Unit) : va_W := [(h0, .inr (4, [.null, .null, .null, .null]))]
abbrev ri_Spaces_init : Room := { frames := 1, cells := 3, slots := 1092, locals := 12 }
def wj_Spaces_init (h0 : Nat) (f1 : Nat) (cI cZ : ClassId) (u : Nat → Nat) : va_W := [(h0, .inr (4, [.ref f1, .ref (u 0), .ref (u 1), .ref (u 2)])), ((u 0), .inl (cI, 4, .inl (fun _ => 0))), ((u 1), .inl (cZ, 1024, .inl (fun _ => 0))), ((u 2), .inl (cI, 64, .inl (fun _ => 0)))]
set_option maxHeartbeats 4000000 in
set_option maxRecDepth 100000 in
theorem ki_Spaces_init (l : Launch) (dC : Nat → ClassId) (dI : Nat → Nat → Nat) (cI cZ : ClassId) (h0 sz : Nat) (f1 : Nat) : Met l ny_Spaces_init nw_Spaces_init ri_Spaces_init (va_Pc [.ref h0, .ref f1] (pr_ (dC, dI) (wi_Spaces_init h0) [(cI, .int), (cZ, .boolean)] sz ())) (va_Qv (fun (_ : Nat → Nat) => True) (at_ (dC, dI) (wj_Spaces_init h0 f1 cI cZ) [(cI, .int), (cZ, .boolean)] (va_A (wi_Spaces_init h0 ()) sz)) (va_A (wi_Spaces_init h0 ()) sz)) 3 1092 (va_A (wi_Spaces_init h0 ()) sz) := by
  refine Met.ofW (cc := nb_Spaces_init) (maxL := 2) (ret := none) (by decide) rfl ?_
  intro p e s m args below meth c s₁ B hml hv
  obtain ⟨rfl, hsz, hP, hK, hD0, hN⟩ := hv
  have hx := B.exec
  have hb := B.bytes
  have hr := B.returns
  have hts := atoms_spec (ws := nw_Spaces_init) B.pre
  have hB : ∀ w ∈ BG, w.before ([.ref h0, .ref f1] : List Value).toArray s = true := fun w h => hts w (List.mem_cons_of_mem _ h)
  have hown : s.vm.findClass "MovedFrames$Spaces" = some m.cls := findClass_of_methodNamed B.named
  have hlocks := B.notSynchronized
  have hin : meth.name = "<init>" := (name_of_methodNamed B.named B.method).1
  subst hsz
  have hD := hD0.self (sz := s.heap.size)
  generalize hAe : va_A (wi_Spaces_init h0 ()) s.heap.size = A at hD ⊢
  have hA : ∀ q : Nat, s.heap.size ≤ q → A q := fun q h => by rw [← hAe]; exact Or.inr h
  have hS : va_S A s.heap s.heap [] := va_S.rf
  have hl := lv_entry ([.ref h0, .ref f1]) (n := 2) (Nat.le_of_ble_eq_true rfl)
  rw [lg_entry_eq]
  generalize (lg_sl ([.ref h0, .ref f1]) ++ List.replicate (2 - (lg_sl ([.ref h0, .ref f1])).length) Slot.unset).toArray = ls at hl ⊢
  have hl : lv_has ls 2 [(0, .ref h0), (1, .ref f1)] := hl
  refine lv_aload_n hx hb nd_Spaces_init_0 rfl (lv_at hl 0 rfl) ?_
  refine W.objInit hx hb hown (hB _ lk_79) (hB _ lk_22) (hB _ lk_23) rfl (by rw [hml]; exact hl.1) rfl nd_Spaces_init_1 (Nat.le_of_ble_eq_true rfl) (Nat.le_of_ble_eq_true rfl) ?_
  refine W.eq (g2 := F0 m 4 ls []) rfl ?_
  refine lv_aload_n hx hb nd_Spaces_init_4 rfl (lv_at hl 0 rfl) ?_
  refine lv_iconst (v := 4) hx hb nd_Spaces_init_5 (by decide) ?_
  refine va_newa (atype := .int) (N' := 4) (a0 := (4, .inl (fun _ => 0))) (ty := .int) (n := 4) hx hb (hB _ lk_41) rfl hK hP hD hS hA (fun _ => rfl) (by decide) (by decide) (by decide) (Nat.le_of_ble_eq_true rfl) (Nat.le_of_ble_eq_true rfl) nd_Spaces_init_6 (fun q6 cA H hK hP hD hS => ?_)
  obtain rfl : cI = cA := ra_i (hK.2 0 _ rfl).2 (hK.2 2 _ rfl).2
  have hK : va_K (dC, dI) vwCl [(cI, .int), (cZ, .boolean)] s := hK.sub [0, 1] rfl
  have hP : va_P (dC, dI) vwCl [(h0, .inr (4, [.null, .null, .null, .null])), (q6, .inl (cI, 4, .inl (fun _ => 0)))] H := hP
  have hD : va_D A [(h0, .inr (4, [.null, .null, .null, .null])), (q6, .inl (cI, 4, .inl (fun _ => 0)))] := hD
  refine W.widen (k := 1) (n := 4) (Nat.le_of_ble_eq_true rfl) (Nat.le_of_ble_eq_true rfl) ?_
  refine va_putF (D := (dC, dI)) (ci := 4) (v := .ref q6) (ty := (.array .int)) (C := RX4) (T := TX4) (N := 4) hx hb hB inB4 tyX4 tyX4_ok nX4 hown hK hP hD hS 0 rfl rfl 1 (by decide) (hB _ lk_81) (fun _ h9 => h9) rfl hin rfl (by decide +kernel) rfl rfl (Nat.le_of_ble_eq_true rfl) nd_Spaces_init_8 (fun H locs hP hD hS => ?_)
  have hP : va_P (dC, dI) vwCl [(h0, .inr (4, [.null, .ref q6, .null, .null])), (q6, .inl (cI, 4, .inl (fun _ => 0)))] H := hP
  have hD : va_D A [(h0, .inr (4, [.null, .ref q6, .null, .null])), (q6, .inl (cI, 4, .inl (fun _ => 0)))] := hD
  refine lv_aload_n hx hb nd_Spaces_init_11 rfl (lv_at hl 0 rfl) ?_
  refine lv_sipush (v := 1024) hx hb nd_Spaces_init_12 (by decide) ?_
  refine va_newa (atype := .boolean) (N' := 1024) (a0 := (1024, .inl (fun _ => 0))) (ty := .boolean) (n := 1024) hx hb (hB _ lk_93) rfl hK hP hD hS hA (fun _ => rfl) (by decide) (by decide) (by decide) (Nat.le_of_ble_eq_true rfl) (Nat.le_of_ble_eq_true rfl) nd_Spaces_init_15 (fun q15 cA H hK hP hD hS => ?_)
  obtain rfl : cZ = cA := ra_z (hK.2 1 _ rfl).2 (hK.2 2 _ rfl).2
  have hK : va_K (dC, dI) vwCl [(cI, .int), (cZ, .boolean)] s := hK.sub [0, 1] rfl
  have hP : va_P (dC, dI) vwCl [(h0, .inr (4, [.null, .ref q6, .null, .null])), (q6, .inl (cI, 4, .inl (fun _ => 0))), (q15, .inl (cZ, 1024, .inl (fun _ => 0)))] H := hP
  have hD : va_D A [(h0, .inr (4, [.null, .ref q6, .null, .null])), (q6, .inl (cI, 4, .inl (fun _ => 0))), (q15, .inl (cZ, 1024, .inl (fun _ => 0)))] := hD
  refine W.widen (k := 2) (n := 1028) (Nat.le_of_ble_eq_true rfl) (Nat.le_of_ble_eq_true rfl) ?_
  refine va_putF (D := (dC, dI)) (ci := 4) (v := .ref q15) (ty := (.array .boolean)) (C := RX4) (T := TX4) (N := 4) hx hb hB inB4 tyX4 tyX4_ok nX4 hown hK hP hD hS 0 rfl rfl 2 (by decide) (hB _ lk_82) (fun _ h9 => h9) rfl hin rfl (by decide +kernel) rfl rfl (Nat.le_of_ble_eq_true rfl) nd_Spaces_init_17 (fun H locs hP hD hS => ?_)
  have hP : va_P (dC, dI) vwCl [(h0, .inr (4, [.null, .ref q6, .ref q15, .null])), (q6, .inl (cI, 4, .inl (fun _ => 0))), (q15, .inl (cZ, 1024, .inl (fun _ => 0)))] H := hP
  have hD : va_D A [(h0, .inr (4, [.null, .ref q6, .ref q15, .null])), (q6, .inl (cI, 4, .inl (fun _ => 0))), (q15, .inl (cZ, 1024, .inl (fun _ => 0)))] := hD
  refine lv_aload_n hx hb nd_Spaces_init_20 rfl (lv_at hl 0 rfl) ?_
  refine lv_bipush (v := 64) hx hb nd_Spaces_init_21 (by decide) ?_
  refine va_newa (atype := .int) (N' := 64) (a0 := (64, .inl (fun _ => 0))) (ty := .int) (n := 64) hx hb (hB _ lk_41) rfl hK hP hD hS hA (fun _ => rfl) (by decide) (by decide) (by decide) (Nat.le_of_ble_eq_true rfl) (Nat.le_of_ble_eq_true rfl) nd_Spaces_init_23 (fun q23 cA H hK hP hD hS => ?_)
  obtain rfl : cI = cA := ra_i (hK.2 0 _ rfl).2 (hK.2 2 _ rfl).2
  have hK : va_K (dC, dI) vwCl [(cI, .int), (cZ, .boolean)] s := hK.sub [0, 1] rfl
  have hP : va_P (dC, dI) vwCl [(h0, .inr (4, [.null, .ref q6, .ref q15, .null])), (q6, .inl (cI, 4, .inl (fun _ => 0))), (q15, .inl (cZ, 1024, .inl (fun _ => 0))), (q23, .inl (cI, 64, .inl (fun _ => 0)))] H := hP
  have hD : va_D A [(h0, .inr (4, [.null, .ref q6, .ref q15, .null])), (q6, .inl (cI, 4, .inl (fun _ => 0))), (q15, .inl (cZ, 1024, .inl (fun _ => 0))), (q23, .inl (cI, 64, .inl (fun _ => 0)))] := hD
  refine W.widen (k := 3) (n := 1092) (Nat.le_of_ble_eq_true rfl) (Nat.le_of_ble_eq_true rfl) ?_
  refine va_putF (D := (dC, dI)) (ci := 4) (v := .ref q23) (ty := (.array .int)) (C := RX4) (T := TX4) (N := 4) hx hb hB inB4 tyX4 tyX4_ok nX4 hown hK hP hD hS 0 rfl rfl 3 (by decide) (hB _ lk_83) (fun _ h9 => h9) rfl hin rfl (by decide +kernel) rfl rfl (Nat.le_of_ble_eq_true rfl) nd_Spaces_init_25 (fun H locs hP hD hS => ?_)
  have hP : va_P (dC, dI) vwCl [(h0, .inr (4, [.null, .ref q6, .ref q15, .ref q23])), (q6, .inl (cI, 4, .inl (fun _ => 0))), (q15, .inl (cZ, 1024, .inl (fun _ => 0))), (q23, .inl (cI, 64, .inl (fun _ => 0)))] H := hP
  have hD : va_D A [(h0, .inr (4, [.null, .ref q6, .ref q15, .ref q23])), (q6, .inl (cI, 4, .inl (fun _ => 0))), (q15, .inl (cZ, 1024, .inl (fun _ => 0))), (q23, .inl (cI, 64, .inl (fun _ => 0)))] := hD
  refine lv_aload_n hx hb nd_Spaces_init_28 rfl (lv_at hl 0 rfl) ?_
  refine lv_aload_n hx hb nd_Spaces_init_29 rfl (lv_at hl 1 rfl) ?_
  refine va_putF (D := (dC, dI)) (ci := 4) (v := .ref f1) (ty := (.object "MovedFrames$Frames")) (C := RX4) (T := TX4) (N := 4) hx hb hB inB4 tyX4 tyX4_ok nX4 hown hK hP hD hS 0 rfl rfl 0 (by decide) (hB _ lk_80) (fun _ h9 => h9) rfl hin rfl (by decide +kernel) rfl rfl (Nat.le_of_ble_eq_true rfl) nd_Spaces_init_30 (fun H locs hP hD hS => ?_)
  have hP : va_P (dC, dI) vwCl [(h0, .inr (4, [.ref f1, .ref q6, .ref q15, .ref q23])), (q6, .inl (cI, 4, .inl (fun _ => 0))), (q15, .inl (cZ, 1024, .inl (fun _ => 0))), (q23, .inl (cI, 64, .inl (fun _ => 0)))] H := hP
  have hD : va_D A [(h0, .inr (4, [.ref f1, .ref q6, .ref q15, .ref q23])), (q6, .inl (cI, 4, .inl (fun _ => 0))), (q15, .inl (cZ, 1024, .inl (fun _ => 0))), (q23, .inl (cI, 64, .inl (fun _ => 0)))] := hD
  have hP9 : va_P (dC, dI) vwCl (wj_Spaces_init h0 f1 cI cZ (qs_ [q6, q15, q23])) H := hP.sub [0, 1, 2, 3] rfl
  have hD9 : va_D A (wj_Spaces_init h0 f1 cI cZ (qs_ [q6, q15, q23])) := hD.sub [0, 1, 2, 3] (by decide) rfl
  exact W.vret hx hb hr (fun t ht hW => ⟨⟨qs_ [q6, q15, q23], rfl, trivial, by rw [ht]; exact hP9, va_K.moved hW.alike hK, hD9⟩, hS.F ht⟩) hS.2.2 nd_Spaces_init_33 hlocks
def wi_Runs_init (h0 : Nat) (_ : Unit) : va_W := [(h0, .inr (2, [.null, .null, .null, .int 0]))]
abbrev ri_Runs_init : Room := { frames := 1, cells := 1, slots := 64, locals := 12 }
def wj_Runs_init (h0 : Nat) (f1 : Nat) (f2 : Nat) (cI cZ : ClassId) (u : Nat → Nat) : va_W := [(h0, .inr (2, [.ref f1, .ref f2, .ref (u 0), .int 0])), ((u 0), .inl (cI, 64, .inl (fun _ => 0)))]
set_option maxHeartbeats 4000000 in
set_option maxRecDepth 100000 in
theorem ki_Runs_init (l : Launch) (dC : Nat → ClassId) (dI : Nat → Nat → Nat) (cI cZ : ClassId) (h0 sz : Nat) (f1 : Nat) (f2 : Nat) : Met l ny_Runs_init nw_Runs_init ri_Runs_init (va_Pc [.ref h0, .ref f1, .ref f2] (pr_ (dC, dI) (wi_Runs_init h0) [(cI, .int), (cZ, .boolean)] sz ())) (va_Qv (fun (_ : Nat → Nat) => True) (at_ (dC, dI) (wj_Runs_init h0 f1 f2 cI cZ) [(cI, .int), (cZ, .boolean)] (va_A (wi_Runs_init h0 ()) sz)) (va_A (wi_Runs_init h0 ()) sz)) 1 64 (va_A (wi_Runs_init h0 ()) sz) := by
  refine Met.ofW (cc := nb_Runs_init) (maxL := 3) (ret := none) (by decide) rfl ?_
  intro p e s m args below meth c s₁ B hml hv
  obtain ⟨rfl, hsz, hP, hK, hD0, hN⟩ := hv
  have hx := B.exec
  have hb := B.bytes
  have hr := B.returns
  have hts := atoms_spec (ws := nw_Runs_init) B.pre
  have hB : ∀ w ∈ BG, w.before ([.ref h0, .ref f1, .ref f2] : List Value).toArray s = true := fun w h => hts w (List.mem_cons_of_mem _ h)
  have hown : s.vm.findClass "MovedFrames$Runs" = some m.cls := findClass_of_methodNamed B.named
  have hlocks := B.notSynchronized
  have hin : meth.name = "<init>" := (name_of_methodNamed B.named B.method).1
  subst hsz
  have hD := hD0.self (sz := s.heap.size)
  generalize hAe : va_A (wi_Runs_init h0 ()) s.heap.size = A at hD ⊢
  have hA : ∀ q : Nat, s.heap.size ≤ q → A q := fun q h => by rw [← hAe]; exact Or.inr h
  have hS : va_S A s.heap s.heap [] := va_S.rf
  have hl := lv_entry ([.ref h0, .ref f1, .ref f2]) (n := 3) (Nat.le_of_ble_eq_true rfl)
  rw [lg_entry_eq]
  generalize (lg_sl ([.ref h0, .ref f1, .ref f2]) ++ List.replicate (3 - (lg_sl ([.ref h0, .ref f1, .ref f2])).length) Slot.unset).toArray = ls at hl ⊢
  have hl : lv_has ls 3 [(0, .ref h0), (1, .ref f1), (2, .ref f2)] := hl
  refine lv_aload_n hx hb nd_Runs_init_0 rfl (lv_at hl 0 rfl) ?_
  refine W.objInit hx hb hown (hB _ lk_99) (hB _ lk_22) (hB _ lk_23) rfl (by rw [hml]; exact hl.1) rfl nd_Runs_init_1 (Nat.le_of_ble_eq_true rfl) (Nat.le_of_ble_eq_true rfl) ?_
  refine W.eq (g2 := F0 m 4 ls []) rfl ?_
  refine lv_aload_n hx hb nd_Runs_init_4 rfl (lv_at hl 0 rfl) ?_
  refine lv_bipush (v := 64) hx hb nd_Runs_init_5 (by decide) ?_
  refine va_newa (atype := .int) (N' := 64) (a0 := (64, .inl (fun _ => 0))) (ty := .int) (n := 64) hx hb (hB _ lk_41) rfl hK hP hD hS hA (fun _ => rfl) (by decide) (by decide) (by decide) (Nat.le_of_ble_eq_true rfl) (Nat.le_of_ble_eq_true rfl) nd_Runs_init_7 (fun q7 cA H hK hP hD hS => ?_)
  obtain rfl : cI = cA := ra_i (hK.2 0 _ rfl).2 (hK.2 2 _ rfl).2
  have hK : va_K (dC, dI) vwCl [(cI, .int), (cZ, .boolean)] s := hK.sub [0, 1] rfl
  have hP : va_P (dC, dI) vwCl [(h0, .inr (2, [.null, .null, .null, .int 0])), (q7, .inl (cI, 64, .inl (fun _ => 0)))] H := hP
  have hD : va_D A [(h0, .inr (2, [.null, .null, .null, .int 0])), (q7, .inl (cI, 64, .inl (fun _ => 0)))] := hD
  refine W.widen (k := 1) (n := 64) (Nat.le_of_ble_eq_true rfl) (Nat.le_of_ble_eq_true rfl) ?_
  refine va_putF (D := (dC, dI)) (ci := 2) (v := .ref q7) (ty := (.array .int)) (C := RX2) (T := TX2) (N := 4) hx hb hB inB2 tyX2 tyX2_ok nX2 hown hK hP hD hS 0 rfl rfl 2 (by decide) (hB _ lk_102) (fun _ h9 => h9) rfl hin rfl (by decide +kernel) rfl rfl (Nat.le_of_ble_eq_true rfl) nd_Runs_init_9 (fun H locs hP hD hS => ?_)
  have hP : va_P (dC, dI) vwCl [(h0, .inr (2, [.null, .null, .ref q7, .int 0])), (q7, .inl (cI, 64, .inl (fun _ => 0)))] H := hP
  have hD : va_D A [(h0, .inr (2, [.null, .null, .ref q7, .int 0])), (q7, .inl (cI, 64, .inl (fun _ => 0)))] := hD
  refine lv_aload_n hx hb nd_Runs_init_12 rfl (lv_at hl 0 rfl) ?_
  refine lv_aload_n hx hb nd_Runs_init_13 rfl (lv_at hl 1 rfl) ?_
  refine va_putF (D := (dC, dI)) (ci := 2) (v := .ref f1) (ty := (.object "MovedFrames$Frames")) (C := RX2) (T := TX2) (N := 4) hx hb hB inB2 tyX2 tyX2_ok nX2 hown hK hP hD hS 0 rfl rfl 0 (by decide) (hB _ lk_100) (fun _ h9 => h9) rfl hin rfl (by decide +kernel) rfl rfl (Nat.le_of_ble_eq_true rfl) nd_Runs_init_14 (fun H locs hP hD hS => ?_)
  have hP : va_P (dC, dI) vwCl [(h0, .inr (2, [.ref f1, .null, .ref q7, .int 0])), (q7, .inl (cI, 64, .inl (fun _ => 0)))] H := hP
  have hD : va_D A [(h0, .inr (2, [.ref f1, .null, .ref q7, .int 0])), (q7, .inl (cI, 64, .inl (fun _ => 0)))] := hD
  refine lv_aload_n hx hb nd_Runs_init_17 rfl (lv_at hl 0 rfl) ?_
  refine lv_aload_n hx hb nd_Runs_init_18 rfl (lv_at hl 2 rfl) ?_
  refine va_putF (D := (dC, dI)) (ci := 2) (v := .ref f2) (ty := (.object "MovedFrames$Spaces")) (C := RX2) (T := TX2) (N := 4) hx hb hB inB2 tyX2 tyX2_ok nX2 hown hK hP hD hS 0 rfl rfl 1 (by decide) (hB _ lk_101) (fun _ h9 => h9) rfl hin rfl (by decide +kernel) rfl rfl (Nat.le_of_ble_eq_true rfl) nd_Runs_init_19 (fun H locs hP hD hS => ?_)
  have hP : va_P (dC, dI) vwCl [(h0, .inr (2, [.ref f1, .ref f2, .ref q7, .int 0])), (q7, .inl (cI, 64, .inl (fun _ => 0)))] H := hP
  have hD : va_D A [(h0, .inr (2, [.ref f1, .ref f2, .ref q7, .int 0])), (q7, .inl (cI, 64, .inl (fun _ => 0)))] := hD
  have hP9 : va_P (dC, dI) vwCl (wj_Runs_init h0 f1 f2 cI cZ (qs_ [q7])) H := hP.sub [0, 1] rfl
  have hD9 : va_D A (wj_Runs_init h0 f1 f2 cI cZ (qs_ [q7])) := hD.sub [0, 1] (by decide) rfl
  exact W.vret hx hb hr (fun t ht hW => ⟨⟨qs_ [q7], rfl, trivial, by rw [ht]; exact hP9, va_K.moved hW.alike hK, hD9⟩, hS.F ht⟩) hS.2.2 nd_Runs_init_22 hlocks
def wi_F_init (h0 : Nat) (_ : Unit) : va_W := [(h0, .inr (5, [.null, .null, .null, .null, .null]))]
abbrev ri_F_init : Room := { frames := 2, cells := 15, slots := 2517, locals := 34 }
def CS0 : CS := ((fun _ => 0), (fun _ => 0), (-1), (fun _ => 0), (fun _ => 0), (fun _ => 0), (fun _ => 0), (fun _ => 0), (fun _ => 0), (fun _ => 0), (fun _ => 0), 0)
set_option maxHeartbeats 4000000 in
set_option maxRecDepth 100000 in
theorem ki_F_init (l : Launch) (dC : Nat → ClassId) (dI : Nat → Nat → Nat) (cI cZ : ClassId) (h0 sz : Nat) : Met l ny_F_init nw_F_init ri_F_init (va_Pc [.ref h0] (pr_ (dC, dI) (wi_F_init h0) [(cI, .int), (cZ, .boolean)] sz ())) (va_Qv (fun (u : Nat → Nat) => u 0 = h0) (at_ (dC, dI) (fun u => wd_C u cI cZ CS0) [(cI, .int), (cZ, .boolean)] (va_A (wi_F_init h0 ()) sz)) (va_A (wi_F_init h0 ()) sz)) 15 2517 (va_A (wi_F_init h0 ()) sz) := by
  refine Met.ofW (cc := nb_F_init) (maxL := 1) (ret := none) (by decide) rfl ?_
  intro p e s m args below meth c s₁ B hml hv
  obtain ⟨rfl, hsz, hP, hK, hD0, hN⟩ := hv
  have hx := B.exec
  have hb := B.bytes
  have hr := B.returns
  have hts := atoms_spec (ws := nw_F_init) B.pre
  have hB : ∀ w ∈ BG, w.before ([.ref h0] : List Value).toArray s = true := fun w h => hts w (List.mem_cons_of_mem _ h)
  have hown : s.vm.findClass "MovedFrames" = some m.cls := findClass_of_methodNamed B.named
  have hlocks := B.notSynchronized
  have hin : meth.name = "<init>" := (name_of_methodNamed B.named B.method).1
  subst hsz
  have hD := hD0.self (sz := s.heap.size)
  generalize hAe : va_A (wi_F_init h0 ()) s.heap.size = A at hD ⊢
  have hA : ∀ q : Nat, s.heap.size ≤ q → A q := fun q h => by rw [← hAe]; exact Or.inr h
  have hS : va_S A s.heap s.heap [] := va_S.rf
  have hl := lv_entry ([.ref h0]) (n := 1) (Nat.le_of_ble_eq_true rfl)
  rw [lg_entry_eq]
  generalize (lg_sl ([.ref h0]) ++ List.replicate (1 - (lg_sl ([.ref h0])).length) Slot.unset).toArray = ls at hl ⊢
  have hl : lv_has ls 1 [(0, .ref h0)] := hl
  refine lv_aload_n hx hb nd_F_init_0 rfl (lv_at hl 0 rfl) ?_
  refine W.objInit hx hb hown (hB _ lk_21) (hB _ lk_22) (hB _ lk_23) rfl (by rw [hml]; exact hl.1) rfl nd_F_init_1 (Nat.le_of_ble_eq_true rfl) (Nat.le_of_ble_eq_true rfl) ?_
  refine W.eq (g2 := F0 m 4 ls []) rfl ?_
  refine lv_aload_n hx hb nd_F_init_4 rfl (lv_at hl 0 rfl) ?_
  refine va_new (ci := 0) (fs := [.null, .null, .long 0]) (C := RX0) (T := TX0) (N := 3) hx hb hB inB0 tyX0 tyX0_ok hown (hB _ lk_24) (hB _ lk_25) (hB _ lk_2) hK hP hD hS hA rfl (df_0) (Nat.le_of_ble_eq_true rfl) (Nat.le_of_ble_eq_true rfl) nd_F_init_5 (fun q5 H hP hD hS => ?_)
  have hP : va_P (dC, dI) vwCl [(h0, .inr (5, [.null, .null, .null, .null, .null])), (q5, .inr (0, [.null, .null, .long 0]))] H := hP
  have hD : va_D A [(h0, .inr (5, [.null, .null, .null, .null, .null])), (q5, .inr (0, [.null, .null, .long 0]))] := hD
  refine W.widen (k := 1) (n := 3) (Nat.le_of_ble_eq_true rfl) (Nat.le_of_ble_eq_true rfl) ?_
  refine lv_dup hx hb nd_F_init_8 rfl ?_
  have hPc := hP.sub (ws' := (wi_Frames_init q5 ())) [1] rfl
  have hDc := hD.sub (ws' := (wi_Frames_init q5 ())) [1] (by decide) rfl
  have hFc := va_free (wc := (wi_Frames_init q5 ())) hD hS hA [1] rfl
  refine va_callv (va_runIN (As := []) (rest := [.ref q5, .ref h0]) ⟨hx, hb, hml, hown, hB⟩ (ki_Frames_init l dC dI cI cZ q5 H.size) ⟨va_cnB 0 hB (gi_ lk_28) rfl rfl rfl hN.1 (hB _ lk_2) (by decide +kernel) ⟨(Nat.le_of_ble_eq_true rfl), (Nat.le_of_ble_eq_true rfl)⟩, rfl, hB _ lk_27⟩ ⟨bl_, pre_ (σ := ()) (wd := wi_Frames_init q5) hPc hK hDc hN⟩ rfl rfl hl.1 rfl (lv_room (Nat.le_of_ble_eq_true rfl)) nd_F_init_9 ⟨(Nat.le_of_ble_eq_true rfl), (Nat.le_of_ble_eq_true rfl)⟩) hS (fun q _ h => hFc q h) hFc (fun u9 t H1 locs ht hvm hw hB1 hz1 hk1 hS => ?_)
  obtain ⟨hP1, hK1, hD1⟩ := hB1
  rw [ht] at hP1
  obtain ⟨hP, hD⟩ := va_join (wr := [(h0, .inr (5, [.null, .null, .null, .null, .null]))]) (w1 := (wj_Frames_init q5 cI cZ u9)) hP hD [1] [0] rfl rfl (by decide) (by decide) hk1 hFc hP1 hD1
  generalize H1 = H at hP hS ⊢
  have hP : va_P (dC, dI) vwCl [(h0, .inr (5, [.null, .null, .null, .null, .null])), (q5, .inr (0, [.ref (u9 0), .ref (u9 1), .long (-1)])), ((u9 0), .inl (cI, 64, .inl (fun _ => 0))), ((u9 1), .inl (cI, 1024, .inl (fun _ => 0)))] H := hP
  have hD : va_D A [(h0, .inr (5, [.null, .null, .null, .null, .null])), (q5, .inr (0, [.ref (u9 0), .ref (u9 1), .long (-1)])), ((u9 0), .inl (cI, 64, .inl (fun _ => 0))), ((u9 1), .inl (cI, 1024, .inl (fun _ => 0)))] := hD
  refine W.widen (k := 3) (n := 1091) (Nat.le_of_ble_eq_true rfl) (Nat.le_of_ble_eq_true rfl) ?_
  refine va_putF (D := (dC, dI)) (ci := 5) (v := .ref q5) (ty := (.object "MovedFrames$Frames")) (C := RX5) (T := TX5) (N := 5) hx hb hB inB5 tyX5 tyX5_ok nX5 hown hK hP hD hS 0 rfl rfl 0 (by decide) (hB _ lk_113) (fun _ h9 => h9) rfl hin rfl (by decide +kernel) rfl rfl (Nat.le_of_ble_eq_true rfl) nd_F_init_12 (fun H locs hP hD hS => ?_)
  have hP : va_P (dC, dI) vwCl [(h0, .inr (5, [.ref q5, .null, .null, .null, .null])), (q5, .inr (0, [.ref (u9 0), .ref (u9 1), .long (-1)])), ((u9 0), .inl (cI, 64, .inl (fun _ => 0))), ((u9 1), .inl (cI, 1024, .inl (fun _ => 0)))] H := hP
  have hD : va_D A [(h0, .inr (5, [.ref q5, .null, .null, .null, .null])), (q5, .inr (0, [.ref (u9 0), .ref (u9 1), .long (-1)])), ((u9 0), .inl (cI, 64, .inl (fun _ => 0))), ((u9 1), .inl (cI, 1024, .inl (fun _ => 0)))] := hD
  refine lv_aload_n hx hb nd_F_init_15 rfl (lv_at hl 0 rfl) ?_
  refine va_new (ci := 3) (fs := [.null, .null, .null]) (C := RX3) (T := TX3) (N := 3) hx hb hB inB3 tyX3 tyX3_ok hown (hB _ lk_42) (hB _ lk_43) (hB _ lk_3) hK hP hD hS hA rfl (df_3) (Nat.le_of_ble_eq_true rfl) (Nat.le_of_ble_eq_true rfl) nd_F_init_16 (fun q16 H hP hD hS => ?_)
  have hP : va_P (dC, dI) vwCl [(h0, .inr (5, [.ref q5, .null, .null, .null, .null])), (q5, .inr (0, [.ref (u9 0), .ref (u9 1), .long (-1)])), ((u9 0), .inl (cI, 64, .inl (fun _ => 0))), ((u9 1), .inl (cI, 1024, .inl (fun _ => 0))), (q16, .inr (3, [.null, .null, .null]))] H := hP
  have hD : va_D A [(h0, .inr (5, [.ref q5, .null, .null, .null, .null])), (q5, .inr (0, [.ref (u9 0), .ref (u9 1), .long (-1)])), ((u9 0), .inl (cI, 64, .inl (fun _ => 0))), ((u9 1), .inl (cI, 1024, .inl (fun _ => 0))), (q16, .inr (3, [.null, .null, .null]))] := hD
  refine W.widen (k := 4) (n := 1094) (Nat.le_of_ble_eq_true rfl) (Nat.le_of_ble_eq_true rfl) ?_
  refine lv_dup hx hb nd_F_init_19 rfl ?_
  refine lv_aload_n hx hb nd_F_init_20 rfl (lv_at hl 0 rfl) ?_
  refine va_get (D := (dC, dI)) (ci := 5) (v := .ref q5) (C := RX5) (T := TX5) (N := 5) hx hb hB inB5 hown hK hP 0 rfl rfl 0 (by decide) (hB _ lk_113) (fun _ h9 => h9) rfl nd_F_init_21 ?_
  have hPc := hP.sub (ws' := (wi_Slabs_init q16 ())) [4] rfl
  have hDc := hD.sub (ws' := (wi_Slabs_init q16 ())) [4] (by decide) rfl
  have hFc := va_free (wc := (wi_Slabs_init q16 ())) hD hS hA [4] rfl
  refine va_callv (va_runI (As := [.ref q5]) (rest := [.ref q16, .ref h0]) ⟨hx, hb, hml, hown, hB⟩ (ki_Slabs_init l dC dI cI cZ q16 H.size q5) ⟨callB_of 1 hB (gi_ lk_46) rfl rfl rfl (hB _ lk_3) (hB _ lk_44) (by decide +kernel) ⟨(Nat.le_of_ble_eq_true rfl), (Nat.le_of_ble_eq_true rfl)⟩, rfl, hB _ lk_45⟩ ⟨bl_, pre_ (σ := ()) (wd := wi_Slabs_init q16) hPc hK hDc hN⟩ rfl rfl hl.1 rfl (lv_room (Nat.le_of_ble_eq_true rfl)) nd_F_init_24 ⟨(Nat.le_of_ble_eq_true rfl), (Nat.le_of_ble_eq_true rfl)⟩) hS (fun q _ h => hFc q h) hFc (fun u24 t H1 locs ht hvm hw hB1 hz1 hk1 hS => ?_)
  obtain ⟨hP1, hK1, hD1⟩ := hB1
  rw [ht] at hP1
  obtain ⟨hP, hD⟩ := va_join (wr := [(h0, .inr (5, [.ref q5, .null, .null, .null, .null])), (q5, .inr (0, [.ref (u9 0), .ref (u9 1), .long (-1)])), ((u9 0), .inl (cI, 64, .inl (fun _ => 0))), ((u9 1), .inl (cI, 1024, .inl (fun _ => 0)))]) (w1 := (wj_Slabs_init q16 q5 cI cZ u24)) hP hD [4] [0, 1, 2, 3] rfl rfl (by decide) (by decide) hk1 hFc hP1 hD1
  generalize H1 = H at hP hS ⊢
  have hP : va_P (dC, dI) vwCl [(h0, .inr (5, [.ref q5, .null, .null, .null, .null])), (q5, .inr (0, [.ref (u9 0), .ref (u9 1), .long (-1)])), ((u9 0), .inl (cI, 64, .inl (fun _ => 0))), ((u9 1), .inl (cI, 1024, .inl (fun _ => 0))), (q16, .inr (3, [.ref q5, .ref (u24 0), .ref (u24 1)])), ((u24 0), .inl (cI, 64, .inl (fun _ => 0))), ((u24 1), .inl (cI, 64, .inl (fun _ => 0)))] H := hP
  have hD : va_D A [(h0, .inr (5, [.ref q5, .null, .null, .null, .null])), (q5, .inr (0, [.ref (u9 0), .ref (u9 1), .long (-1)])), ((u9 0), .inl (cI, 64, .inl (fun _ => 0))), ((u9 1), .inl (cI, 1024, .inl (fun _ => 0))), (q16, .inr (3, [.ref q5, .ref (u24 0), .ref (u24 1)])), ((u24 0), .inl (cI, 64, .inl (fun _ => 0))), ((u24 1), .inl (cI, 64, .inl (fun _ => 0)))] := hD
  refine W.widen (k := 6) (n := 1222) (Nat.le_of_ble_eq_true rfl) (Nat.le_of_ble_eq_true rfl) ?_
  refine va_putF (D := (dC, dI)) (ci := 5) (v := .ref q16) (ty := (.object "MovedFrames$Slabs")) (C := RX5) (T := TX5) (N := 5) hx hb hB inB5 tyX5 tyX5_ok nX5 hown hK hP hD hS 0 rfl rfl 1 (by decide) (hB _ lk_114) (fun _ h9 => h9) rfl hin rfl (by decide +kernel) rfl rfl (Nat.le_of_ble_eq_true rfl) nd_F_init_27 (fun H locs hP hD hS => ?_)
  have hP : va_P (dC, dI) vwCl [(h0, .inr (5, [.ref q5, .ref q16, .null, .null, .null])), (q5, .inr (0, [.ref (u9 0), .ref (u9 1), .long (-1)])), ((u9 0), .inl (cI, 64, .inl (fun _ => 0))), ((u9 1), .inl (cI, 1024, .inl (fun _ => 0))), (q16, .inr (3, [.ref q5, .ref (u24 0), .ref (u24 1)])), ((u24 0), .inl (cI, 64, .inl (fun _ => 0))), ((u24 1), .inl (cI, 64, .inl (fun _ => 0)))] H := hP
  have hD : va_D A [(h0, .inr (5, [.ref q5, .ref q16, .null, .null, .null])), (q5, .inr (0, [.ref (u9 0), .ref (u9 1), .long (-1)])), ((u9 0), .inl (cI, 64, .inl (fun _ => 0))), ((u9 1), .inl (cI, 1024, .inl (fun _ => 0))), (q16, .inr (3, [.ref q5, .ref (u24 0), .ref (u24 1)])), ((u24 0), .inl (cI, 64, .inl (fun _ => 0))), ((u24 1), .inl (cI, 64, .inl (fun _ => 0)))] := hD
  refine lv_aload_n hx hb nd_F_init_30 rfl (lv_at hl 0 rfl) ?_
  refine va_new (ci := 1) (fs := [.null, .null, .null]) (C := RX1) (T := TX1) (N := 3) hx hb hB inB1 tyX1 tyX1_ok hown (hB _ lk_58) (hB _ lk_59) (hB _ lk_4) hK hP hD hS hA rfl (df_1) (Nat.le_of_ble_eq_true rfl) (Nat.le_of_ble_eq_true rfl) nd_F_init_31 (fun q31 H hP hD hS => ?_)
  have hP : va_P (dC, dI) vwCl [(h0, .inr (5, [.ref q5, .ref q16, .null, .null, .null])), (q5, .inr (0, [.ref (u9 0), .ref (u9 1), .long (-1)])), ((u9 0), .inl (cI, 64, .inl (fun _ => 0))), ((u9 1), .inl (cI, 1024, .inl (fun _ => 0))), (q16, .inr (3, [.ref q5, .ref (u24 0), .ref (u24 1)])), ((u24 0), .inl (cI, 64, .inl (fun _ => 0))), ((u24 1), .inl (cI, 64, .inl (fun _ => 0))), (q31, .inr (1, [.null, .null, .null]))] H := hP
  have hD : va_D A [(h0, .inr (5, [.ref q5, .ref q16, .null, .null, .null])), (q5, .inr (0, [.ref (u9 0), .ref (u9 1), .long (-1)])), ((u9 0), .inl (cI, 64, .inl (fun _ => 0))), ((u9 1), .inl (cI, 1024, .inl (fun _ => 0))), (q16, .inr (3, [.ref q5, .ref (u24 0), .ref (u24 1)])), ((u24 0), .inl (cI, 64, .inl (fun _ => 0))), ((u24 1), .inl (cI, 64, .inl (fun _ => 0))), (q31, .inr (1, [.null, .null, .null]))] := hD
  refine W.widen (k := 7) (n := 1225) (Nat.le_of_ble_eq_true rfl) (Nat.le_of_ble_eq_true rfl) ?_
  refine lv_dup hx hb nd_F_init_34 rfl ?_
  refine lv_aload_n hx hb nd_F_init_35 rfl (lv_at hl 0 rfl) ?_
  refine va_get (D := (dC, dI)) (ci := 5) (v := .ref q5) (C := RX5) (T := TX5) (N := 5) hx hb hB inB5 hown hK hP 0 rfl rfl 0 (by decide) (hB _ lk_113) (fun _ h9 => h9) rfl nd_F_init_36 ?_
  have hPc := hP.sub (ws' := (wi_Ranges_init q31 ())) [7] rfl
  have hDc := hD.sub (ws' := (wi_Ranges_init q31 ())) [7] (by decide) rfl
  have hFc := va_free (wc := (wi_Ranges_init q31 ())) hD hS hA [7] rfl
  refine va_callv (va_runI (As := [.ref q5]) (rest := [.ref q31, .ref h0]) ⟨hx, hb, hml, hown, hB⟩ (ki_Ranges_init l dC dI cI cZ q31 H.size q5) ⟨callB_of 1 hB (gi_ lk_62) rfl rfl rfl (hB _ lk_4) (hB _ lk_60) (by decide +kernel) ⟨(Nat.le_of_ble_eq_true rfl), (Nat.le_of_ble_eq_true rfl)⟩, rfl, hB _ lk_61⟩ ⟨bl_, pre_ (σ := ()) (wd := wi_Ranges_init q31) hPc hK hDc hN⟩ rfl rfl hl.1 rfl (lv_room (Nat.le_of_ble_eq_true rfl)) nd_F_init_39 ⟨(Nat.le_of_ble_eq_true rfl), (Nat.le_of_ble_eq_true rfl)⟩) hS (fun q _ h => hFc q h) hFc (fun u39 t H1 locs ht hvm hw hB1 hz1 hk1 hS => ?_)
  obtain ⟨hP1, hK1, hD1⟩ := hB1
  rw [ht] at hP1
  obtain ⟨hP, hD⟩ := va_join (wr := [(h0, .inr (5, [.ref q5, .ref q16, .null, .null, .null])), (q5, .inr (0, [.ref (u9 0), .ref (u9 1), .long (-1)])), ((u9 0), .inl (cI, 64, .inl (fun _ => 0))), ((u9 1), .inl (cI, 1024, .inl (fun _ => 0))), (q16, .inr (3, [.ref q5, .ref (u24 0), .ref (u24 1)])), ((u24 0), .inl (cI, 64, .inl (fun _ => 0))), ((u24 1), .inl (cI, 64, .inl (fun _ => 0)))]) (w1 := (wj_Ranges_init q31 q5 cI cZ u39)) hP hD [7] [0, 1, 2, 3, 4, 5, 6] rfl rfl (by decide) (by decide) hk1 hFc hP1 hD1
  generalize H1 = H at hP hS ⊢
  have hP : va_P (dC, dI) vwCl [(h0, .inr (5, [.ref q5, .ref q16, .null, .null, .null])), (q5, .inr (0, [.ref (u9 0), .ref (u9 1), .long (-1)])), ((u9 0), .inl (cI, 64, .inl (fun _ => 0))), ((u9 1), .inl (cI, 1024, .inl (fun _ => 0))), (q16, .inr (3, [.ref q5, .ref (u24 0), .ref (u24 1)])), ((u24 0), .inl (cI, 64, .inl (fun _ => 0))), ((u24 1), .inl (cI, 64, .inl (fun _ => 0))), (q31, .inr (1, [.ref q5, .ref (u39 0), .ref (u39 1)])), ((u39 0), .inl (cI, 64, .inl (fun _ => 0))), ((u39 1), .inl (cI, 64, .inl (fun _ => 0)))] H := hP
  have hD : va_D A [(h0, .inr (5, [.ref q5, .ref q16, .null, .null, .null])), (q5, .inr (0, [.ref (u9 0), .ref (u9 1), .long (-1)])), ((u9 0), .inl (cI, 64, .inl (fun _ => 0))), ((u9 1), .inl (cI, 1024, .inl (fun _ => 0))), (q16, .inr (3, [.ref q5, .ref (u24 0), .ref (u24 1)])), ((u24 0), .inl (cI, 64, .inl (fun _ => 0))), ((u24 1), .inl (cI, 64, .inl (fun _ => 0))), (q31, .inr (1, [.ref q5, .ref (u39 0), .ref (u39 1)])), ((u39 0), .inl (cI, 64, .inl (fun _ => 0))), ((u39 1), .inl (cI, 64, .inl (fun _ => 0)))] := hD
  refine W.widen (k := 9) (n := 1353) (Nat.le_of_ble_eq_true rfl) (Nat.le_of_ble_eq_true rfl) ?_
  refine va_putF (D := (dC, dI)) (ci := 5) (v := .ref q31) (ty := (.object "MovedFrames$Ranges")) (C := RX5) (T := TX5) (N := 5) hx hb hB inB5 tyX5 tyX5_ok nX5 hown hK hP hD hS 0 rfl rfl 2 (by decide) (hB _ lk_115) (fun _ h9 => h9) rfl hin rfl (by decide +kernel) rfl rfl (Nat.le_of_ble_eq_true rfl) nd_F_init_42 (fun H locs hP hD hS => ?_)
  have hP : va_P (dC, dI) vwCl [(h0, .inr (5, [.ref q5, .ref q16, .ref q31, .null, .null])), (q5, .inr (0, [.ref (u9 0), .ref (u9 1), .long (-1)])), ((u9 0), .inl (cI, 64, .inl (fun _ => 0))), ((u9 1), .inl (cI, 1024, .inl (fun _ => 0))), (q16, .inr (3, [.ref q5, .ref (u24 0), .ref (u24 1)])), ((u24 0), .inl (cI, 64, .inl (fun _ => 0))), ((u24 1), .inl (cI, 64, .inl (fun _ => 0))), (q31, .inr (1, [.ref q5, .ref (u39 0), .ref (u39 1)])), ((u39 0), .inl (cI, 64, .inl (fun _ => 0))), ((u39 1), .inl (cI, 64, .inl (fun _ => 0)))] H := hP
  have hD : va_D A [(h0, .inr (5, [.ref q5, .ref q16, .ref q31, .null, .null])), (q5, .inr (0, [.ref (u9 0), .ref (u9 1), .long (-1)])), ((u9 0), .inl (cI, 64, .inl (fun _ => 0))), ((u9 1), .inl (cI, 1024, .inl (fun _ => 0))), (q16, .inr (3, [.ref q5, .ref (u24 0), .ref (u24 1)])), ((u24 0), .inl (cI, 64, .inl (fun _ => 0))), ((u24 1), .inl (cI, 64, .inl (fun _ => 0))), (q31, .inr (1, [.ref q5, .ref (u39 0), .ref (u39 1)])), ((u39 0), .inl (cI, 64, .inl (fun _ => 0))), ((u39 1), .inl (cI, 64, .inl (fun _ => 0)))] := hD
  refine lv_aload_n hx hb nd_F_init_45 rfl (lv_at hl 0 rfl) ?_
  refine va_new (ci := 4) (fs := [.null, .null, .null, .null]) (C := RX4) (T := TX4) (N := 4) hx hb hB inB4 tyX4 tyX4_ok hown (hB _ lk_74) (hB _ lk_75) (hB _ lk_5) hK hP hD hS hA rfl (df_4) (Nat.le_of_ble_eq_true rfl) (Nat.le_of_ble_eq_true rfl) nd_F_init_46 (fun q46 H hP hD hS => ?_)
  have hP : va_P (dC, dI) vwCl [(h0, .inr (5, [.ref q5, .ref q16, .ref q31, .null, .null])), (q5, .inr (0, [.ref (u9 0), .ref (u9 1), .long (-1)])), ((u9 0), .inl (cI, 64, .inl (fun _ => 0))), ((u9 1), .inl (cI, 1024, .inl (fun _ => 0))), (q16, .inr (3, [.ref q5, .ref (u24 0), .ref (u24 1)])), ((u24 0), .inl (cI, 64, .inl (fun _ => 0))), ((u24 1), .inl (cI, 64, .inl (fun _ => 0))), (q31, .inr (1, [.ref q5, .ref (u39 0), .ref (u39 1)])), ((u39 0), .inl (cI, 64, .inl (fun _ => 0))), ((u39 1), .inl (cI, 64, .inl (fun _ => 0))), (q46, .inr (4, [.null, .null, .null, .null]))] H := hP
  have hD : va_D A [(h0, .inr (5, [.ref q5, .ref q16, .ref q31, .null, .null])), (q5, .inr (0, [.ref (u9 0), .ref (u9 1), .long (-1)])), ((u9 0), .inl (cI, 64, .inl (fun _ => 0))), ((u9 1), .inl (cI, 1024, .inl (fun _ => 0))), (q16, .inr (3, [.ref q5, .ref (u24 0), .ref (u24 1)])), ((u24 0), .inl (cI, 64, .inl (fun _ => 0))), ((u24 1), .inl (cI, 64, .inl (fun _ => 0))), (q31, .inr (1, [.ref q5, .ref (u39 0), .ref (u39 1)])), ((u39 0), .inl (cI, 64, .inl (fun _ => 0))), ((u39 1), .inl (cI, 64, .inl (fun _ => 0))), (q46, .inr (4, [.null, .null, .null, .null]))] := hD
  refine W.widen (k := 10) (n := 1357) (Nat.le_of_ble_eq_true rfl) (Nat.le_of_ble_eq_true rfl) ?_
  refine lv_dup hx hb nd_F_init_49 rfl ?_
  refine lv_aload_n hx hb nd_F_init_50 rfl (lv_at hl 0 rfl) ?_
  refine va_get (D := (dC, dI)) (ci := 5) (v := .ref q5) (C := RX5) (T := TX5) (N := 5) hx hb hB inB5 hown hK hP 0 rfl rfl 0 (by decide) (hB _ lk_113) (fun _ h9 => h9) rfl nd_F_init_51 ?_
  have hPc := hP.sub (ws' := (wi_Spaces_init q46 ())) [10] rfl
  have hDc := hD.sub (ws' := (wi_Spaces_init q46 ())) [10] (by decide) rfl
  have hFc := va_free (wc := (wi_Spaces_init q46 ())) hD hS hA [10] rfl
  refine va_callv (va_runI (As := [.ref q5]) (rest := [.ref q46, .ref h0]) ⟨hx, hb, hml, hown, hB⟩ (ki_Spaces_init l dC dI cI cZ q46 H.size q5) ⟨callB_of 1 hB (gi_ lk_78) rfl rfl rfl (hB _ lk_5) (hB _ lk_76) (by decide +kernel) ⟨(Nat.le_of_ble_eq_true rfl), (Nat.le_of_ble_eq_true rfl)⟩, rfl, hB _ lk_77⟩ ⟨bl_, pre_ (σ := ()) (wd := wi_Spaces_init q46) hPc hK hDc hN⟩ rfl rfl hl.1 rfl (lv_room (Nat.le_of_ble_eq_true rfl)) nd_F_init_54 ⟨(Nat.le_of_ble_eq_true rfl), (Nat.le_of_ble_eq_true rfl)⟩) hS (fun q _ h => hFc q h) hFc (fun u54 t H1 locs ht hvm hw hB1 hz1 hk1 hS => ?_)
  obtain ⟨hP1, hK1, hD1⟩ := hB1
  rw [ht] at hP1
  obtain ⟨hP, hD⟩ := va_join (wr := [(h0, .inr (5, [.ref q5, .ref q16, .ref q31, .null, .null])), (q5, .inr (0, [.ref (u9 0), .ref (u9 1), .long (-1)])), ((u9 0), .inl (cI, 64, .inl (fun _ => 0))), ((u9 1), .inl (cI, 1024, .inl (fun _ => 0))), (q16, .inr (3, [.ref q5, .ref (u24 0), .ref (u24 1)])), ((u24 0), .inl (cI, 64, .inl (fun _ => 0))), ((u24 1), .inl (cI, 64, .inl (fun _ => 0))), (q31, .inr (1, [.ref q5, .ref (u39 0), .ref (u39 1)])), ((u39 0), .inl (cI, 64, .inl (fun _ => 0))), ((u39 1), .inl (cI, 64, .inl (fun _ => 0)))]) (w1 := (wj_Spaces_init q46 q5 cI cZ u54)) hP hD [10] [0, 1, 2, 3, 4, 5, 6, 7, 8, 9] rfl rfl (by decide) (by decide) hk1 hFc hP1 hD1
  generalize H1 = H at hP hS ⊢
  have hP : va_P (dC, dI) vwCl [(h0, .inr (5, [.ref q5, .ref q16, .ref q31, .null, .null])), (q5, .inr (0, [.ref (u9 0), .ref (u9 1), .long (-1)])), ((u9 0), .inl (cI, 64, .inl (fun _ => 0))), ((u9 1), .inl (cI, 1024, .inl (fun _ => 0))), (q16, .inr (3, [.ref q5, .ref (u24 0), .ref (u24 1)])), ((u24 0), .inl (cI, 64, .inl (fun _ => 0))), ((u24 1), .inl (cI, 64, .inl (fun _ => 0))), (q31, .inr (1, [.ref q5, .ref (u39 0), .ref (u39 1)])), ((u39 0), .inl (cI, 64, .inl (fun _ => 0))), ((u39 1), .inl (cI, 64, .inl (fun _ => 0))), (q46, .inr (4, [.ref q5, .ref (u54 0), .ref (u54 1), .ref (u54 2)])), ((u54 0), .inl (cI, 4, .inl (fun _ => 0))), ((u54 1), .inl (cZ, 1024, .inl (fun _ => 0))), ((u54 2), .inl (cI, 64, .inl (fun _ => 0)))] H := hP
  have hD : va_D A [(h0, .inr (5, [.ref q5, .ref q16, .ref q31, .null, .null])), (q5, .inr (0, [.ref (u9 0), .ref (u9 1), .long (-1)])), ((u9 0), .inl (cI, 64, .inl (fun _ => 0))), ((u9 1), .inl (cI, 1024, .inl (fun _ => 0))), (q16, .inr (3, [.ref q5, .ref (u24 0), .ref (u24 1)])), ((u24 0), .inl (cI, 64, .inl (fun _ => 0))), ((u24 1), .inl (cI, 64, .inl (fun _ => 0))), (q31, .inr (1, [.ref q5, .ref (u39 0), .ref (u39 1)])), ((u39 0), .inl (cI, 64, .inl (fun _ => 0))), ((u39 1), .inl (cI, 64, .inl (fun _ => 0))), (q46, .inr (4, [.ref q5, .ref (u54 0), .ref (u54 1), .ref (u54 2)])), ((u54 0), .inl (cI, 4, .inl (fun _ => 0))), ((u54 1), .inl (cZ, 1024, .inl (fun _ => 0))), ((u54 2), .inl (cI, 64, .inl (fun _ => 0)))] := hD
  refine W.widen (k := 13) (n := 2449) (Nat.le_of_ble_eq_true rfl) (Nat.le_of_ble_eq_true rfl) ?_
  refine va_putF (D := (dC, dI)) (ci := 5) (v := .ref q46) (ty := (.object "MovedFrames$Spaces")) (C := RX5) (T := TX5) (N := 5) hx hb hB inB5 tyX5 tyX5_ok nX5 hown hK hP hD hS 0 rfl rfl 3 (by decide) (hB _ lk_116) (fun _ h9 => h9) rfl hin rfl (by decide +kernel) rfl rfl (Nat.le_of_ble_eq_true rfl) nd_F_init_57 (fun H locs hP hD hS => ?_)
  have hP : va_P (dC, dI) vwCl [(h0, .inr (5, [.ref q5, .ref q16, .ref q31, .ref q46, .null])), (q5, .inr (0, [.ref (u9 0), .ref (u9 1), .long (-1)])), ((u9 0), .inl (cI, 64, .inl (fun _ => 0))), ((u9 1), .inl (cI, 1024, .inl (fun _ => 0))), (q16, .inr (3, [.ref q5, .ref (u24 0), .ref (u24 1)])), ((u24 0), .inl (cI, 64, .inl (fun _ => 0))), ((u24 1), .inl (cI, 64, .inl (fun _ => 0))), (q31, .inr (1, [.ref q5, .ref (u39 0), .ref (u39 1)])), ((u39 0), .inl (cI, 64, .inl (fun _ => 0))), ((u39 1), .inl (cI, 64, .inl (fun _ => 0))), (q46, .inr (4, [.ref q5, .ref (u54 0), .ref (u54 1), .ref (u54 2)])), ((u54 0), .inl (cI, 4, .inl (fun _ => 0))), ((u54 1), .inl (cZ, 1024, .inl (fun _ => 0))), ((u54 2), .inl (cI, 64, .inl (fun _ => 0)))] H := hP
  have hD : va_D A [(h0, .inr (5, [.ref q5, .ref q16, .ref q31, .ref q46, .null])), (q5, .inr (0, [.ref (u9 0), .ref (u9 1), .long (-1)])), ((u9 0), .inl (cI, 64, .inl (fun _ => 0))), ((u9 1), .inl (cI, 1024, .inl (fun _ => 0))), (q16, .inr (3, [.ref q5, .ref (u24 0), .ref (u24 1)])), ((u24 0), .inl (cI, 64, .inl (fun _ => 0))), ((u24 1), .inl (cI, 64, .inl (fun _ => 0))), (q31, .inr (1, [.ref q5, .ref (u39 0), .ref (u39 1)])), ((u39 0), .inl (cI, 64, .inl (fun _ => 0))), ((u39 1), .inl (cI, 64, .inl (fun _ => 0))), (q46, .inr (4, [.ref q5, .ref (u54 0), .ref (u54 1), .ref (u54 2)])), ((u54 0), .inl (cI, 4, .inl (fun _ => 0))), ((u54 1), .inl (cZ, 1024, .inl (fun _ => 0))), ((u54 2), .inl (cI, 64, .inl (fun _ => 0)))] := hD
  refine lv_aload_n hx hb nd_F_init_60 rfl (lv_at hl 0 rfl) ?_
  refine va_new (ci := 2) (fs := [.null, .null, .null, .int 0]) (C := RX2) (T := TX2) (N := 4) hx hb hB inB2 tyX2 tyX2_ok hown (hB _ lk_94) (hB _ lk_95) (hB _ lk_6) hK hP hD hS hA rfl (df_2) (Nat.le_of_ble_eq_true rfl) (Nat.le_of_ble_eq_true rfl) nd_F_init_61 (fun q61 H hP hD hS => ?_)
  have hP : va_P (dC, dI) vwCl [(h0, .inr (5, [.ref q5, .ref q16, .ref q31, .ref q46, .null])), (q5, .inr (0, [.ref (u9 0), .ref (u9 1), .long (-1)])), ((u9 0), .inl (cI, 64, .inl (fun _ => 0))), ((u9 1), .inl (cI, 1024, .inl (fun _ => 0))), (q16, .inr (3, [.ref q5, .ref (u24 0), .ref (u24 1)])), ((u24 0), .inl (cI, 64, .inl (fun _ => 0))), ((u24 1), .inl (cI, 64, .inl (fun _ => 0))), (q31, .inr (1, [.ref q5, .ref (u39 0), .ref (u39 1)])), ((u39 0), .inl (cI, 64, .inl (fun _ => 0))), ((u39 1), .inl (cI, 64, .inl (fun _ => 0))), (q46, .inr (4, [.ref q5, .ref (u54 0), .ref (u54 1), .ref (u54 2)])), ((u54 0), .inl (cI, 4, .inl (fun _ => 0))), ((u54 1), .inl (cZ, 1024, .inl (fun _ => 0))), ((u54 2), .inl (cI, 64, .inl (fun _ => 0))), (q61, .inr (2, [.null, .null, .null, .int 0]))] H := hP
  have hD : va_D A [(h0, .inr (5, [.ref q5, .ref q16, .ref q31, .ref q46, .null])), (q5, .inr (0, [.ref (u9 0), .ref (u9 1), .long (-1)])), ((u9 0), .inl (cI, 64, .inl (fun _ => 0))), ((u9 1), .inl (cI, 1024, .inl (fun _ => 0))), (q16, .inr (3, [.ref q5, .ref (u24 0), .ref (u24 1)])), ((u24 0), .inl (cI, 64, .inl (fun _ => 0))), ((u24 1), .inl (cI, 64, .inl (fun _ => 0))), (q31, .inr (1, [.ref q5, .ref (u39 0), .ref (u39 1)])), ((u39 0), .inl (cI, 64, .inl (fun _ => 0))), ((u39 1), .inl (cI, 64, .inl (fun _ => 0))), (q46, .inr (4, [.ref q5, .ref (u54 0), .ref (u54 1), .ref (u54 2)])), ((u54 0), .inl (cI, 4, .inl (fun _ => 0))), ((u54 1), .inl (cZ, 1024, .inl (fun _ => 0))), ((u54 2), .inl (cI, 64, .inl (fun _ => 0))), (q61, .inr (2, [.null, .null, .null, .int 0]))] := hD
  refine W.widen (k := 14) (n := 2453) (Nat.le_of_ble_eq_true rfl) (Nat.le_of_ble_eq_true rfl) ?_
  refine lv_dup hx hb nd_F_init_64 rfl ?_
  refine lv_aload_n hx hb nd_F_init_65 rfl (lv_at hl 0 rfl) ?_
  refine va_get (D := (dC, dI)) (ci := 5) (v := .ref q5) (C := RX5) (T := TX5) (N := 5) hx hb hB inB5 hown hK hP 0 rfl rfl 0 (by decide) (hB _ lk_113) (fun _ h9 => h9) rfl nd_F_init_66 ?_
  refine lv_aload_n hx hb nd_F_init_69 rfl (lv_at hl 0 rfl) ?_
  refine va_get (D := (dC, dI)) (ci := 5) (v := .ref q46) (C := RX5) (T := TX5) (N := 5) hx hb hB inB5 hown hK hP 0 rfl rfl 3 (by decide) (hB _ lk_116) (fun _ h9 => h9) rfl nd_F_init_70 ?_
  have hPc := hP.sub (ws' := (wi_Runs_init q61 ())) [14] rfl
  have hDc := hD.sub (ws' := (wi_Runs_init q61 ())) [14] (by decide) rfl
  have hFc := va_free (wc := (wi_Runs_init q61 ())) hD hS hA [14] rfl
  refine va_callv (va_runI (As := [.ref q5, .ref q46]) (rest := [.ref q61, .ref h0]) ⟨hx, hb, hml, hown, hB⟩ (ki_Runs_init l dC dI cI cZ q61 H.size q5 q46) ⟨callB_of 2 hB (gi_ lk_98) rfl rfl rfl (hB _ lk_6) (hB _ lk_96) (by decide +kernel) ⟨(Nat.le_of_ble_eq_true rfl), (Nat.le_of_ble_eq_true rfl)⟩, rfl, hB _ lk_97⟩ ⟨bl_, pre_ (σ := ()) (wd := wi_Runs_init q61) hPc hK hDc hN⟩ rfl rfl hl.1 rfl (lv_room (Nat.le_of_ble_eq_true rfl)) nd_F_init_73 ⟨(Nat.le_of_ble_eq_true rfl), (Nat.le_of_ble_eq_true rfl)⟩) hS (fun q _ h => hFc q h) hFc (fun u73 t H1 locs ht hvm hw hB1 hz1 hk1 hS => ?_)
  obtain ⟨hP1, hK1, hD1⟩ := hB1
  rw [ht] at hP1
  obtain ⟨hP, hD⟩ := va_join (wr := [(h0, .inr (5, [.ref q5, .ref q16, .ref q31, .ref q46, .null])), (q5, .inr (0, [.ref (u9 0), .ref (u9 1), .long (-1)])), ((u9 0), .inl (cI, 64, .inl (fun _ => 0))), ((u9 1), .inl (cI, 1024, .inl (fun _ => 0))), (q16, .inr (3, [.ref q5, .ref (u24 0), .ref (u24 1)])), ((u24 0), .inl (cI, 64, .inl (fun _ => 0))), ((u24 1), .inl (cI, 64, .inl (fun _ => 0))), (q31, .inr (1, [.ref q5, .ref (u39 0), .ref (u39 1)])), ((u39 0), .inl (cI, 64, .inl (fun _ => 0))), ((u39 1), .inl (cI, 64, .inl (fun _ => 0))), (q46, .inr (4, [.ref q5, .ref (u54 0), .ref (u54 1), .ref (u54 2)])), ((u54 0), .inl (cI, 4, .inl (fun _ => 0))), ((u54 1), .inl (cZ, 1024, .inl (fun _ => 0))), ((u54 2), .inl (cI, 64, .inl (fun _ => 0)))]) (w1 := (wj_Runs_init q61 q5 q46 cI cZ u73)) hP hD [14] [0, 1, 2, 3, 4, 5, 6, 7, 8, 9, 10, 11, 12, 13] rfl rfl (by decide) (by decide) hk1 hFc hP1 hD1
  generalize H1 = H at hP hS ⊢
  have hP : va_P (dC, dI) vwCl [(h0, .inr (5, [.ref q5, .ref q16, .ref q31, .ref q46, .null])), (q5, .inr (0, [.ref (u9 0), .ref (u9 1), .long (-1)])), ((u9 0), .inl (cI, 64, .inl (fun _ => 0))), ((u9 1), .inl (cI, 1024, .inl (fun _ => 0))), (q16, .inr (3, [.ref q5, .ref (u24 0), .ref (u24 1)])), ((u24 0), .inl (cI, 64, .inl (fun _ => 0))), ((u24 1), .inl (cI, 64, .inl (fun _ => 0))), (q31, .inr (1, [.ref q5, .ref (u39 0), .ref (u39 1)])), ((u39 0), .inl (cI, 64, .inl (fun _ => 0))), ((u39 1), .inl (cI, 64, .inl (fun _ => 0))), (q46, .inr (4, [.ref q5, .ref (u54 0), .ref (u54 1), .ref (u54 2)])), ((u54 0), .inl (cI, 4, .inl (fun _ => 0))), ((u54 1), .inl (cZ, 1024, .inl (fun _ => 0))), ((u54 2), .inl (cI, 64, .inl (fun _ => 0))), (q61, .inr (2, [.ref q5, .ref q46, .ref (u73 0), .int 0])), ((u73 0), .inl (cI, 64, .inl (fun _ => 0)))] H := hP
  have hD : va_D A [(h0, .inr (5, [.ref q5, .ref q16, .ref q31, .ref q46, .null])), (q5, .inr (0, [.ref (u9 0), .ref (u9 1), .long (-1)])), ((u9 0), .inl (cI, 64, .inl (fun _ => 0))), ((u9 1), .inl (cI, 1024, .inl (fun _ => 0))), (q16, .inr (3, [.ref q5, .ref (u24 0), .ref (u24 1)])), ((u24 0), .inl (cI, 64, .inl (fun _ => 0))), ((u24 1), .inl (cI, 64, .inl (fun _ => 0))), (q31, .inr (1, [.ref q5, .ref (u39 0), .ref (u39 1)])), ((u39 0), .inl (cI, 64, .inl (fun _ => 0))), ((u39 1), .inl (cI, 64, .inl (fun _ => 0))), (q46, .inr (4, [.ref q5, .ref (u54 0), .ref (u54 1), .ref (u54 2)])), ((u54 0), .inl (cI, 4, .inl (fun _ => 0))), ((u54 1), .inl (cZ, 1024, .inl (fun _ => 0))), ((u54 2), .inl (cI, 64, .inl (fun _ => 0))), (q61, .inr (2, [.ref q5, .ref q46, .ref (u73 0), .int 0])), ((u73 0), .inl (cI, 64, .inl (fun _ => 0)))] := hD
  refine W.widen (k := 15) (n := 2517) (Nat.le_of_ble_eq_true rfl) (Nat.le_of_ble_eq_true rfl) ?_
  refine va_putF (D := (dC, dI)) (ci := 5) (v := .ref q61) (ty := (.object "MovedFrames$Runs")) (C := RX5) (T := TX5) (N := 5) hx hb hB inB5 tyX5 tyX5_ok nX5 hown hK hP hD hS 0 rfl rfl 4 (by decide) (hB _ lk_117) (fun _ h9 => h9) rfl hin rfl (by decide +kernel) rfl rfl (Nat.le_of_ble_eq_true rfl) nd_F_init_76 (fun H locs hP hD hS => ?_)
  have hP : va_P (dC, dI) vwCl [(h0, .inr (5, [.ref q5, .ref q16, .ref q31, .ref q46, .ref q61])), (q5, .inr (0, [.ref (u9 0), .ref (u9 1), .long (-1)])), ((u9 0), .inl (cI, 64, .inl (fun _ => 0))), ((u9 1), .inl (cI, 1024, .inl (fun _ => 0))), (q16, .inr (3, [.ref q5, .ref (u24 0), .ref (u24 1)])), ((u24 0), .inl (cI, 64, .inl (fun _ => 0))), ((u24 1), .inl (cI, 64, .inl (fun _ => 0))), (q31, .inr (1, [.ref q5, .ref (u39 0), .ref (u39 1)])), ((u39 0), .inl (cI, 64, .inl (fun _ => 0))), ((u39 1), .inl (cI, 64, .inl (fun _ => 0))), (q46, .inr (4, [.ref q5, .ref (u54 0), .ref (u54 1), .ref (u54 2)])), ((u54 0), .inl (cI, 4, .inl (fun _ => 0))), ((u54 1), .inl (cZ, 1024, .inl (fun _ => 0))), ((u54 2), .inl (cI, 64, .inl (fun _ => 0))), (q61, .inr (2, [.ref q5, .ref q46, .ref (u73 0), .int 0])), ((u73 0), .inl (cI, 64, .inl (fun _ => 0)))] H := hP
  have hD : va_D A [(h0, .inr (5, [.ref q5, .ref q16, .ref q31, .ref q46, .ref q61])), (q5, .inr (0, [.ref (u9 0), .ref (u9 1), .long (-1)])), ((u9 0), .inl (cI, 64, .inl (fun _ => 0))), ((u9 1), .inl (cI, 1024, .inl (fun _ => 0))), (q16, .inr (3, [.ref q5, .ref (u24 0), .ref (u24 1)])), ((u24 0), .inl (cI, 64, .inl (fun _ => 0))), ((u24 1), .inl (cI, 64, .inl (fun _ => 0))), (q31, .inr (1, [.ref q5, .ref (u39 0), .ref (u39 1)])), ((u39 0), .inl (cI, 64, .inl (fun _ => 0))), ((u39 1), .inl (cI, 64, .inl (fun _ => 0))), (q46, .inr (4, [.ref q5, .ref (u54 0), .ref (u54 1), .ref (u54 2)])), ((u54 0), .inl (cI, 4, .inl (fun _ => 0))), ((u54 1), .inl (cZ, 1024, .inl (fun _ => 0))), ((u54 2), .inl (cI, 64, .inl (fun _ => 0))), (q61, .inr (2, [.ref q5, .ref q46, .ref (u73 0), .int 0])), ((u73 0), .inl (cI, 64, .inl (fun _ => 0)))] := hD
  have hP9 : va_P (dC, dI) vwCl (wd_C (qs_ [h0, q5, q16, q31, q46, q61, (u9 0), (u9 1), (u24 0), (u24 1), (u39 0), (u39 1), (u54 0), (u54 1), (u54 2), (u73 0)]) cI cZ CS0) H := hP.sub [0, 1, 4, 7, 10, 14, 2, 3, 5, 6, 8, 9, 11, 12, 13, 15] rfl
  have hD9 : va_D A (wd_C (qs_ [h0, q5, q16, q31, q46, q61, (u9 0), (u9 1), (u24 0), (u24 1), (u39 0), (u39 1), (u54 0), (u54 1), (u54 2), (u73 0)]) cI cZ CS0) := hD.sub [0, 1, 4, 7, 10, 14, 2, 3, 5, 6, 8, 9, 11, 12, 13, 15] (by decide) rfl
  exact W.vret hx hb hr (fun t ht hW => ⟨⟨qs_ [h0, q5, q16, q31, q46, q61, (u9 0), (u9 1), (u24 0), (u24 1), (u39 0), (u39 1), (u54 0), (u54 1), (u54 2), (u73 0)], rfl, rfl, by rw [ht]; exact hP9, va_K.moved hW.alike hK, hD9⟩, hS.F ht⟩) hS.2.2 nd_F_init_79 hlocks
def wi_M_init (h0 : Nat) (_ : Unit) : va_W := [(h0, .inr (6, [.int 0, .null, .null, .null, .null, .null, .null, .null, .null, .null, .int 0]))]
abbrev ri_M_init : Room := { frames := 1, cells := 9, slots := 2436, locals := 12 }
def MS0 : MS := (0, (fun _ => 0), (fun _ => 0), (fun _ => 0), (fun _ => 0), (fun _ => 0), (fun _ => 0), (fun _ => 0), (fun _ => 0), (fun _ => 0), 0)
set_option maxHeartbeats 4000000 in
set_option maxRecDepth 100000 in
theorem ki_M_init (l : Launch) (dC : Nat → ClassId) (dI : Nat → Nat → Nat) (cI cZ : ClassId) (h0 sz : Nat) : Met l ny_M_init nw_M_init ri_M_init (va_Pc [.ref h0] (pr_ (dC, dI) (wi_M_init h0) [(cI, .int), (cZ, .boolean)] sz ())) (va_Qv (fun (u : Nat → Nat) => u 0 = h0) (at_ (dC, dI) (fun u => wd_M u cI cZ MS0) [(cI, .int), (cZ, .boolean)] (va_A (wi_M_init h0 ()) sz)) (va_A (wi_M_init h0 ()) sz)) 9 2436 (va_A (wi_M_init h0 ()) sz) := by
  refine Met.ofW (cc := nb_M_init) (maxL := 1) (ret := none) (by decide) rfl ?_
  intro p e s m args below meth c s₁ B hml hv
  obtain ⟨rfl, hsz, hP, hK, hD0, hN⟩ := hv
  have hx := B.exec
  have hb := B.bytes
  have hr := B.returns
  have hts := atoms_spec (ws := nw_M_init) B.pre
  have hB : ∀ w ∈ BG, w.before ([.ref h0] : List Value).toArray s = true := fun w h => hts w (List.mem_cons_of_mem _ h)
  have hown : s.vm.findClass "MovedFramesModel" = some m.cls := findClass_of_methodNamed B.named
  have hlocks := B.notSynchronized
  have hin : meth.name = "<init>" := (name_of_methodNamed B.named B.method).1
  subst hsz
  have hD := hD0.self (sz := s.heap.size)
  generalize hAe : va_A (wi_M_init h0 ()) s.heap.size = A at hD ⊢
  have hA : ∀ q : Nat, s.heap.size ≤ q → A q := fun q h => by rw [← hAe]; exact Or.inr h
  have hS : va_S A s.heap s.heap [] := va_S.rf
  have hl := lv_entry ([.ref h0]) (n := 1) (Nat.le_of_ble_eq_true rfl)
  rw [lg_entry_eq]
  generalize (lg_sl ([.ref h0]) ++ List.replicate (1 - (lg_sl ([.ref h0])).length) Slot.unset).toArray = ls at hl ⊢
  have hl : lv_has ls 1 [(0, .ref h0)] := hl
  refine lv_aload_n hx hb nd_M_init_0 rfl (lv_at hl 0 rfl) ?_
  refine W.objInit hx hb hown (hB _ lk_628) (hB _ lk_22) (hB _ lk_23) rfl (by rw [hml]; exact hl.1) rfl nd_M_init_1 (Nat.le_of_ble_eq_true rfl) (Nat.le_of_ble_eq_true rfl) ?_
  refine W.eq (g2 := F0 m 4 ls []) rfl ?_
  refine lv_aload_n hx hb nd_M_init_4 rfl (lv_at hl 0 rfl) ?_
  refine lv_bipush (v := 64) hx hb nd_M_init_5 (by decide) ?_
  refine va_newa (atype := .int) (N' := 64) (a0 := (64, .inl (fun _ => 0))) (ty := .int) (n := 64) hx hb (hB _ lk_41) rfl hK hP hD hS hA (fun _ => rfl) (by decide) (by decide) (by decide) (Nat.le_of_ble_eq_true rfl) (Nat.le_of_ble_eq_true rfl) nd_M_init_7 (fun q7 cA H hK hP hD hS => ?_)
  obtain rfl : cI = cA := ra_i (hK.2 0 _ rfl).2 (hK.2 2 _ rfl).2
  have hK : va_K (dC, dI) vwCl [(cI, .int), (cZ, .boolean)] s := hK.sub [0, 1] rfl
  have hP : va_P (dC, dI) vwCl [(h0, .inr (6, [.int 0, .null, .null, .null, .null, .null, .null, .null, .null, .null, .int 0])), (q7, .inl (cI, 64, .inl (fun _ => 0)))] H := hP
  have hD : va_D A [(h0, .inr (6, [.int 0, .null, .null, .null, .null, .null, .null, .null, .null, .null, .int 0])), (q7, .inl (cI, 64, .inl (fun _ => 0)))] := hD
  refine W.widen (k := 1) (n := 64) (Nat.le_of_ble_eq_true rfl) (Nat.le_of_ble_eq_true rfl) ?_
  refine va_putF (D := (dC, dI)) (ci := 6) (v := .ref q7) (ty := (.array .int)) (C := RX6) (T := TX6) (N := 11) hx hb hB inB6 tyX6 tyX6_ok nX6 hown hK hP hD hS 0 rfl rfl 1 (by decide) (hB _ lk_630) (fun _ h9 => h9) rfl hin rfl (by decide +kernel) rfl rfl (Nat.le_of_ble_eq_true rfl) nd_M_init_9 (fun H locs hP hD hS => ?_)
  have hP : va_P (dC, dI) vwCl [(h0, .inr (6, [.int 0, .ref q7, .null, .null, .null, .null, .null, .null, .null, .null, .int 0])), (q7, .inl (cI, 64, .inl (fun _ => 0)))] H := hP
  have hD : va_D A [(h0, .inr (6, [.int 0, .ref q7, .null, .null, .null, .null, .null, .null, .null, .null, .int 0])), (q7, .inl (cI, 64, .inl (fun _ => 0)))] := hD
  refine lv_aload_n hx hb nd_M_init_12 rfl (lv_at hl 0 rfl) ?_
  refine lv_sipush (v := 1024) hx hb nd_M_init_13 (by decide) ?_
  refine va_newa (atype := .int) (N' := 1024) (a0 := (1024, .inl (fun _ => 0))) (ty := .int) (n := 1024) hx hb (hB _ lk_41) rfl hK hP hD hS hA (fun _ => rfl) (by decide) (by decide) (by decide) (Nat.le_of_ble_eq_true rfl) (Nat.le_of_ble_eq_true rfl) nd_M_init_16 (fun q16 cA H hK hP hD hS => ?_)
  obtain rfl : cI = cA := ra_i (hK.2 0 _ rfl).2 (hK.2 2 _ rfl).2
  have hK : va_K (dC, dI) vwCl [(cI, .int), (cZ, .boolean)] s := hK.sub [0, 1] rfl
  have hP : va_P (dC, dI) vwCl [(h0, .inr (6, [.int 0, .ref q7, .null, .null, .null, .null, .null, .null, .null, .null, .int 0])), (q7, .inl (cI, 64, .inl (fun _ => 0))), (q16, .inl (cI, 1024, .inl (fun _ => 0)))] H := hP
  have hD : va_D A [(h0, .inr (6, [.int 0, .ref q7, .null, .null, .null, .null, .null, .null, .null, .null, .int 0])), (q7, .inl (cI, 64, .inl (fun _ => 0))), (q16, .inl (cI, 1024, .inl (fun _ => 0)))] := hD
  refine W.widen (k := 2) (n := 1088) (Nat.le_of_ble_eq_true rfl) (Nat.le_of_ble_eq_true rfl) ?_
  refine va_putF (D := (dC, dI)) (ci := 6) (v := .ref q16) (ty := (.array .int)) (C := RX6) (T := TX6) (N := 11) hx hb hB inB6 tyX6 tyX6_ok nX6 hown hK hP hD hS 0 rfl rfl 2 (by decide) (hB _ lk_631) (fun _ h9 => h9) rfl hin rfl (by decide +kernel) rfl rfl (Nat.le_of_ble_eq_true rfl) nd_M_init_18 (fun H locs hP hD hS => ?_)
  have hP : va_P (dC, dI) vwCl [(h0, .inr (6, [.int 0, .ref q7, .ref q16, .null, .null, .null, .null, .null, .null, .null, .int 0])), (q7, .inl (cI, 64, .inl (fun _ => 0))), (q16, .inl (cI, 1024, .inl (fun _ => 0)))] H := hP
  have hD : va_D A [(h0, .inr (6, [.int 0, .ref q7, .ref q16, .null, .null, .null, .null, .null, .null, .null, .int 0])), (q7, .inl (cI, 64, .inl (fun _ => 0))), (q16, .inl (cI, 1024, .inl (fun _ => 0)))] := hD
  refine lv_aload_n hx hb nd_M_init_21 rfl (lv_at hl 0 rfl) ?_
  refine lv_bipush (v := 64) hx hb nd_M_init_22 (by decide) ?_
  refine va_newa (atype := .int) (N' := 64) (a0 := (64, .inl (fun _ => 0))) (ty := .int) (n := 64) hx hb (hB _ lk_41) rfl hK hP hD hS hA (fun _ => rfl) (by decide) (by decide) (by decide) (Nat.le_of_ble_eq_true rfl) (Nat.le_of_ble_eq_true rfl) nd_M_init_24 (fun q24 cA H hK hP hD hS => ?_)
  obtain rfl : cI = cA := ra_i (hK.2 0 _ rfl).2 (hK.2 2 _ rfl).2
  have hK : va_K (dC, dI) vwCl [(cI, .int), (cZ, .boolean)] s := hK.sub [0, 1] rfl
  have hP : va_P (dC, dI) vwCl [(h0, .inr (6, [.int 0, .ref q7, .ref q16, .null, .null, .null, .null, .null, .null, .null, .int 0])), (q7, .inl (cI, 64, .inl (fun _ => 0))), (q16, .inl (cI, 1024, .inl (fun _ => 0))), (q24, .inl (cI, 64, .inl (fun _ => 0)))] H := hP
  have hD : va_D A [(h0, .inr (6, [.int 0, .ref q7, .ref q16, .null, .null, .null, .null, .null, .null, .null, .int 0])), (q7, .inl (cI, 64, .inl (fun _ => 0))), (q16, .inl (cI, 1024, .inl (fun _ => 0))), (q24, .inl (cI, 64, .inl (fun _ => 0)))] := hD
  refine W.widen (k := 3) (n := 1152) (Nat.le_of_ble_eq_true rfl) (Nat.le_of_ble_eq_true rfl) ?_
  refine va_putF (D := (dC, dI)) (ci := 6) (v := .ref q24) (ty := (.array .int)) (C := RX6) (T := TX6) (N := 11) hx hb hB inB6 tyX6 tyX6_ok nX6 hown hK hP hD hS 0 rfl rfl 3 (by decide) (hB _ lk_632) (fun _ h9 => h9) rfl hin rfl (by decide +kernel) rfl rfl (Nat.le_of_ble_eq_true rfl) nd_M_init_26 (fun H locs hP hD hS => ?_)
  have hP : va_P (dC, dI) vwCl [(h0, .inr (6, [.int 0, .ref q7, .ref q16, .ref q24, .null, .null, .null, .null, .null, .null, .int 0])), (q7, .inl (cI, 64, .inl (fun _ => 0))), (q16, .inl (cI, 1024, .inl (fun _ => 0))), (q24, .inl (cI, 64, .inl (fun _ => 0)))] H := hP
  have hD : va_D A [(h0, .inr (6, [.int 0, .ref q7, .ref q16, .ref q24, .null, .null, .null, .null, .null, .null, .int 0])), (q7, .inl (cI, 64, .inl (fun _ => 0))), (q16, .inl (cI, 1024, .inl (fun _ => 0))), (q24, .inl (cI, 64, .inl (fun _ => 0)))] := hD
  refine lv_aload_n hx hb nd_M_init_29 rfl (lv_at hl 0 rfl) ?_
  refine lv_bipush (v := 64) hx hb nd_M_init_30 (by decide) ?_
  refine va_newa (atype := .int) (N' := 64) (a0 := (64, .inl (fun _ => 0))) (ty := .int) (n := 64) hx hb (hB _ lk_41) rfl hK hP hD hS hA (fun _ => rfl) (by decide) (by decide) (by decide) (Nat.le_of_ble_eq_true rfl) (Nat.le_of_ble_eq_true rfl) nd_M_init_32 (fun q32 cA H hK hP hD hS => ?_)
  obtain rfl : cI = cA := ra_i (hK.2 0 _ rfl).2 (hK.2 2 _ rfl).2
  have hK : va_K (dC, dI) vwCl [(cI, .int), (cZ, .boolean)] s := hK.sub [0, 1] rfl
  have hP : va_P (dC, dI) vwCl [(h0, .inr (6, [.int 0, .ref q7, .ref q16, .ref q24, .null, .null, .null, .null, .null, .null, .int 0])), (q7, .inl (cI, 64, .inl (fun _ => 0))), (q16, .inl (cI, 1024, .inl (fun _ => 0))), (q24, .inl (cI, 64, .inl (fun _ => 0))), (q32, .inl (cI, 64, .inl (fun _ => 0)))] H := hP
  have hD : va_D A [(h0, .inr (6, [.int 0, .ref q7, .ref q16, .ref q24, .null, .null, .null, .null, .null, .null, .int 0])), (q7, .inl (cI, 64, .inl (fun _ => 0))), (q16, .inl (cI, 1024, .inl (fun _ => 0))), (q24, .inl (cI, 64, .inl (fun _ => 0))), (q32, .inl (cI, 64, .inl (fun _ => 0)))] := hD
  refine W.widen (k := 4) (n := 1216) (Nat.le_of_ble_eq_true rfl) (Nat.le_of_ble_eq_true rfl) ?_
  refine va_putF (D := (dC, dI)) (ci := 6) (v := .ref q32) (ty := (.array .int)) (C := RX6) (T := TX6) (N := 11) hx hb hB inB6 tyX6 tyX6_ok nX6 hown hK hP hD hS 0 rfl rfl 4 (by decide) (hB _ lk_633) (fun _ h9 => h9) rfl hin rfl (by decide +kernel) rfl rfl (Nat.le_of_ble_eq_true rfl) nd_M_init_34 (fun H locs hP hD hS => ?_)
  have hP : va_P (dC, dI) vwCl [(h0, .inr (6, [.int 0, .ref q7, .ref q16, .ref q24, .ref q32, .null, .null, .null, .null, .null, .int 0])), (q7, .inl (cI, 64, .inl (fun _ => 0))), (q16, .inl (cI, 1024, .inl (fun _ => 0))), (q24, .inl (cI, 64, .inl (fun _ => 0))), (q32, .inl (cI, 64, .inl (fun _ => 0)))] H := hP
  have hD : va_D A [(h0, .inr (6, [.int 0, .ref q7, .ref q16, .ref q24, .ref q32, .null, .null, .null, .null, .null, .int 0])), (q7, .inl (cI, 64, .inl (fun _ => 0))), (q16, .inl (cI, 1024, .inl (fun _ => 0))), (q24, .inl (cI, 64, .inl (fun _ => 0))), (q32, .inl (cI, 64, .inl (fun _ => 0)))] := hD
  refine lv_aload_n hx hb nd_M_init_37 rfl (lv_at hl 0 rfl) ?_
  refine lv_bipush (v := 64) hx hb nd_M_init_38 (by decide) ?_
  refine va_newa (atype := .int) (N' := 64) (a0 := (64, .inl (fun _ => 0))) (ty := .int) (n := 64) hx hb (hB _ lk_41) rfl hK hP hD hS hA (fun _ => rfl) (by decide) (by decide) (by decide) (Nat.le_of_ble_eq_true rfl) (Nat.le_of_ble_eq_true rfl) nd_M_init_40 (fun q40 cA H hK hP hD hS => ?_)
  obtain rfl : cI = cA := ra_i (hK.2 0 _ rfl).2 (hK.2 2 _ rfl).2
  have hK : va_K (dC, dI) vwCl [(cI, .int), (cZ, .boolean)] s := hK.sub [0, 1] rfl
  have hP : va_P (dC, dI) vwCl [(h0, .inr (6, [.int 0, .ref q7, .ref q16, .ref q24, .ref q32, .null, .null, .null, .null, .null, .int 0])), (q7, .inl (cI, 64, .inl (fun _ => 0))), (q16, .inl (cI, 1024, .inl (fun _ => 0))), (q24, .inl (cI, 64, .inl (fun _ => 0))), (q32, .inl (cI, 64, .inl (fun _ => 0))), (q40, .inl (cI, 64, .inl (fun _ => 0)))] H := hP
  have hD : va_D A [(h0, .inr (6, [.int 0, .ref q7, .ref q16, .ref q24, .ref q32, .null, .null, .null, .null, .null, .int 0])), (q7, .inl (cI, 64, .inl (fun _ => 0))), (q16, .inl (cI, 1024, .inl (fun _ => 0))), (q24, .inl (cI, 64, .inl (fun _ => 0))), (q32, .inl (cI, 64, .inl (fun _ => 0))), (q40, .inl (cI, 64, .inl (fun _ => 0)))] := hD
  refine W.widen (k := 5) (n := 1280) (Nat.le_of_ble_eq_true rfl) (Nat.le_of_ble_eq_true rfl) ?_
  refine va_putF (D := (dC, dI)) (ci := 6) (v := .ref q40) (ty := (.array .int)) (C := RX6) (T := TX6) (N := 11) hx hb hB inB6 tyX6 tyX6_ok nX6 hown hK hP hD hS 0 rfl rfl 5 (by decide) (hB _ lk_634) (fun _ h9 => h9) rfl hin rfl (by decide +kernel) rfl rfl (Nat.le_of_ble_eq_true rfl) nd_M_init_42 (fun H locs hP hD hS => ?_)
  have hP : va_P (dC, dI) vwCl [(h0, .inr (6, [.int 0, .ref q7, .ref q16, .ref q24, .ref q32, .ref q40, .null, .null, .null, .null, .int 0])), (q7, .inl (cI, 64, .inl (fun _ => 0))), (q16, .inl (cI, 1024, .inl (fun _ => 0))), (q24, .inl (cI, 64, .inl (fun _ => 0))), (q32, .inl (cI, 64, .inl (fun _ => 0))), (q40, .inl (cI, 64, .inl (fun _ => 0)))] H := hP
  have hD : va_D A [(h0, .inr (6, [.int 0, .ref q7, .ref q16, .ref q24, .ref q32, .ref q40, .null, .null, .null, .null, .int 0])), (q7, .inl (cI, 64, .inl (fun _ => 0))), (q16, .inl (cI, 1024, .inl (fun _ => 0))), (q24, .inl (cI, 64, .inl (fun _ => 0))), (q32, .inl (cI, 64, .inl (fun _ => 0))), (q40, .inl (cI, 64, .inl (fun _ => 0)))] := hD
  refine lv_aload_n hx hb nd_M_init_45 rfl (lv_at hl 0 rfl) ?_
  refine lv_bipush (v := 64) hx hb nd_M_init_46 (by decide) ?_
  refine va_newa (atype := .int) (N' := 64) (a0 := (64, .inl (fun _ => 0))) (ty := .int) (n := 64) hx hb (hB _ lk_41) rfl hK hP hD hS hA (fun _ => rfl) (by decide) (by decide) (by decide) (Nat.le_of_ble_eq_true rfl) (Nat.le_of_ble_eq_true rfl) nd_M_init_48 (fun q48 cA H hK hP hD hS => ?_)
  obtain rfl : cI = cA := ra_i (hK.2 0 _ rfl).2 (hK.2 2 _ rfl).2
  have hK : va_K (dC, dI) vwCl [(cI, .int), (cZ, .boolean)] s := hK.sub [0, 1] rfl
  have hP : va_P (dC, dI) vwCl [(h0, .inr (6, [.int 0, .ref q7, .ref q16, .ref q24, .ref q32, .ref q40, .null, .null, .null, .null, .int 0])), (q7, .inl (cI, 64, .inl (fun _ => 0))), (q16, .inl (cI, 1024, .inl (fun _ => 0))), (q24, .inl (cI, 64, .inl (fun _ => 0))), (q32, .inl (cI, 64, .inl (fun _ => 0))), (q40, .inl (cI, 64, .inl (fun _ => 0))), (q48, .inl (cI, 64, .inl (fun _ => 0)))] H := hP
  have hD : va_D A [(h0, .inr (6, [.int 0, .ref q7, .ref q16, .ref q24, .ref q32, .ref q40, .null, .null, .null, .null, .int 0])), (q7, .inl (cI, 64, .inl (fun _ => 0))), (q16, .inl (cI, 1024, .inl (fun _ => 0))), (q24, .inl (cI, 64, .inl (fun _ => 0))), (q32, .inl (cI, 64, .inl (fun _ => 0))), (q40, .inl (cI, 64, .inl (fun _ => 0))), (q48, .inl (cI, 64, .inl (fun _ => 0)))] := hD
  refine W.widen (k := 6) (n := 1344) (Nat.le_of_ble_eq_true rfl) (Nat.le_of_ble_eq_true rfl) ?_
  refine va_putF (D := (dC, dI)) (ci := 6) (v := .ref q48) (ty := (.array .int)) (C := RX6) (T := TX6) (N := 11) hx hb hB inB6 tyX6 tyX6_ok nX6 hown hK hP hD hS 0 rfl rfl 6 (by decide) (hB _ lk_635) (fun _ h9 => h9) rfl hin rfl (by decide +kernel) rfl rfl (Nat.le_of_ble_eq_true rfl) nd_M_init_50 (fun H locs hP hD hS => ?_)
  have hP : va_P (dC, dI) vwCl [(h0, .inr (6, [.int 0, .ref q7, .ref q16, .ref q24, .ref q32, .ref q40, .ref q48, .null, .null, .null, .int 0])), (q7, .inl (cI, 64, .inl (fun _ => 0))), (q16, .inl (cI, 1024, .inl (fun _ => 0))), (q24, .inl (cI, 64, .inl (fun _ => 0))), (q32, .inl (cI, 64, .inl (fun _ => 0))), (q40, .inl (cI, 64, .inl (fun _ => 0))), (q48, .inl (cI, 64, .inl (fun _ => 0)))] H := hP
  have hD : va_D A [(h0, .inr (6, [.int 0, .ref q7, .ref q16, .ref q24, .ref q32, .ref q40, .ref q48, .null, .null, .null, .int 0])), (q7, .inl (cI, 64, .inl (fun _ => 0))), (q16, .inl (cI, 1024, .inl (fun _ => 0))), (q24, .inl (cI, 64, .inl (fun _ => 0))), (q32, .inl (cI, 64, .inl (fun _ => 0))), (q40, .inl (cI, 64, .inl (fun _ => 0))), (q48, .inl (cI, 64, .inl (fun _ => 0)))] := hD
  refine lv_aload_n hx hb nd_M_init_53 rfl (lv_at hl 0 rfl) ?_
  refine lv_bipush (v := 64) hx hb nd_M_init_54 (by decide) ?_
  refine va_newa (atype := .int) (N' := 64) (a0 := (64, .inl (fun _ => 0))) (ty := .int) (n := 64) hx hb (hB _ lk_41) rfl hK hP hD hS hA (fun _ => rfl) (by decide) (by decide) (by decide) (Nat.le_of_ble_eq_true rfl) (Nat.le_of_ble_eq_true rfl) nd_M_init_56 (fun q56 cA H hK hP hD hS => ?_)
  obtain rfl : cI = cA := ra_i (hK.2 0 _ rfl).2 (hK.2 2 _ rfl).2
  have hK : va_K (dC, dI) vwCl [(cI, .int), (cZ, .boolean)] s := hK.sub [0, 1] rfl
  have hP : va_P (dC, dI) vwCl [(h0, .inr (6, [.int 0, .ref q7, .ref q16, .ref q24, .ref q32, .ref q40, .ref q48, .null, .null, .null, .int 0])), (q7, .inl (cI, 64, .inl (fun _ => 0))), (q16, .inl (cI, 1024, .inl (fun _ => 0))), (q24, .inl (cI, 64, .inl (fun _ => 0))), (q32, .inl (cI, 64, .inl (fun _ => 0))), (q40, .inl (cI, 64, .inl (fun _ => 0))), (q48, .inl (cI, 64, .inl (fun _ => 0))), (q56, .inl (cI, 64, .inl (fun _ => 0)))] H := hP
  have hD : va_D A [(h0, .inr (6, [.int 0, .ref q7, .ref q16, .ref q24, .ref q32, .ref q40, .ref q48, .null, .null, .null, .int 0])), (q7, .inl (cI, 64, .inl (fun _ => 0))), (q16, .inl (cI, 1024, .inl (fun _ => 0))), (q24, .inl (cI, 64, .inl (fun _ => 0))), (q32, .inl (cI, 64, .inl (fun _ => 0))), (q40, .inl (cI, 64, .inl (fun _ => 0))), (q48, .inl (cI, 64, .inl (fun _ => 0))), (q56, .inl (cI, 64, .inl (fun _ => 0)))] := hD
  refine W.widen (k := 7) (n := 1408) (Nat.le_of_ble_eq_true rfl) (Nat.le_of_ble_eq_true rfl) ?_
  refine va_putF (D := (dC, dI)) (ci := 6) (v := .ref q56) (ty := (.array .int)) (C := RX6) (T := TX6) (N := 11) hx hb hB inB6 tyX6 tyX6_ok nX6 hown hK hP hD hS 0 rfl rfl 7 (by decide) (hB _ lk_636) (fun _ h9 => h9) rfl hin rfl (by decide +kernel) rfl rfl (Nat.le_of_ble_eq_true rfl) nd_M_init_58 (fun H locs hP hD hS => ?_)
  have hP : va_P (dC, dI) vwCl [(h0, .inr (6, [.int 0, .ref q7, .ref q16, .ref q24, .ref q32, .ref q40, .ref q48, .ref q56, .null, .null, .int 0])), (q7, .inl (cI, 64, .inl (fun _ => 0))), (q16, .inl (cI, 1024, .inl (fun _ => 0))), (q24, .inl (cI, 64, .inl (fun _ => 0))), (q32, .inl (cI, 64, .inl (fun _ => 0))), (q40, .inl (cI, 64, .inl (fun _ => 0))), (q48, .inl (cI, 64, .inl (fun _ => 0))), (q56, .inl (cI, 64, .inl (fun _ => 0)))] H := hP
  have hD : va_D A [(h0, .inr (6, [.int 0, .ref q7, .ref q16, .ref q24, .ref q32, .ref q40, .ref q48, .ref q56, .null, .null, .int 0])), (q7, .inl (cI, 64, .inl (fun _ => 0))), (q16, .inl (cI, 1024, .inl (fun _ => 0))), (q24, .inl (cI, 64, .inl (fun _ => 0))), (q32, .inl (cI, 64, .inl (fun _ => 0))), (q40, .inl (cI, 64, .inl (fun _ => 0))), (q48, .inl (cI, 64, .inl (fun _ => 0))), (q56, .inl (cI, 64, .inl (fun _ => 0)))] := hD
  refine lv_aload_n hx hb nd_M_init_61 rfl (lv_at hl 0 rfl) ?_
  refine lv_iconst (v := 4) hx hb nd_M_init_62 (by decide) ?_
  refine va_newa (atype := .int) (N' := 4) (a0 := (4, .inl (fun _ => 0))) (ty := .int) (n := 4) hx hb (hB _ lk_41) rfl hK hP hD hS hA (fun _ => rfl) (by decide) (by decide) (by decide) (Nat.le_of_ble_eq_true rfl) (Nat.le_of_ble_eq_true rfl) nd_M_init_63 (fun q63 cA H hK hP hD hS => ?_)
  obtain rfl : cI = cA := ra_i (hK.2 0 _ rfl).2 (hK.2 2 _ rfl).2
  have hK : va_K (dC, dI) vwCl [(cI, .int), (cZ, .boolean)] s := hK.sub [0, 1] rfl
  have hP : va_P (dC, dI) vwCl [(h0, .inr (6, [.int 0, .ref q7, .ref q16, .ref q24, .ref q32, .ref q40, .ref q48, .ref q56, .null, .null, .int 0])), (q7, .inl (cI, 64, .inl (fun _ => 0))), (q16, .inl (cI, 1024, .inl (fun _ => 0))), (q24, .inl (cI, 64, .inl (fun _ => 0))), (q32, .inl (cI, 64, .inl (fun _ => 0))), (q40, .inl (cI, 64, .inl (fun _ => 0))), (q48, .inl (cI, 64, .inl (fun _ => 0))), (q56, .inl (cI, 64, .inl (fun _ => 0))), (q63, .inl (cI, 4, .inl (fun _ => 0)))] H := hP
  have hD : va_D A [(h0, .inr (6, [.int 0, .ref q7, .ref q16, .ref q24, .ref q32, .ref q40, .ref q48, .ref q56, .null, .null, .int 0])), (q7, .inl (cI, 64, .inl (fun _ => 0))), (q16, .inl (cI, 1024, .inl (fun _ => 0))), (q24, .inl (cI, 64, .inl (fun _ => 0))), (q32, .inl (cI, 64, .inl (fun _ => 0))), (q40, .inl (cI, 64, .inl (fun _ => 0))), (q48, .inl (cI, 64, .inl (fun _ => 0))), (q56, .inl (cI, 64, .inl (fun _ => 0))), (q63, .inl (cI, 4, .inl (fun _ => 0)))] := hD
  refine W.widen (k := 8) (n := 1412) (Nat.le_of_ble_eq_true rfl) (Nat.le_of_ble_eq_true rfl) ?_
  refine va_putF (D := (dC, dI)) (ci := 6) (v := .ref q63) (ty := (.array .int)) (C := RX6) (T := TX6) (N := 11) hx hb hB inB6 tyX6 tyX6_ok nX6 hown hK hP hD hS 0 rfl rfl 8 (by decide) (hB _ lk_637) (fun _ h9 => h9) rfl hin rfl (by decide +kernel) rfl rfl (Nat.le_of_ble_eq_true rfl) nd_M_init_65 (fun H locs hP hD hS => ?_)
  have hP : va_P (dC, dI) vwCl [(h0, .inr (6, [.int 0, .ref q7, .ref q16, .ref q24, .ref q32, .ref q40, .ref q48, .ref q56, .ref q63, .null, .int 0])), (q7, .inl (cI, 64, .inl (fun _ => 0))), (q16, .inl (cI, 1024, .inl (fun _ => 0))), (q24, .inl (cI, 64, .inl (fun _ => 0))), (q32, .inl (cI, 64, .inl (fun _ => 0))), (q40, .inl (cI, 64, .inl (fun _ => 0))), (q48, .inl (cI, 64, .inl (fun _ => 0))), (q56, .inl (cI, 64, .inl (fun _ => 0))), (q63, .inl (cI, 4, .inl (fun _ => 0)))] H := hP
  have hD : va_D A [(h0, .inr (6, [.int 0, .ref q7, .ref q16, .ref q24, .ref q32, .ref q40, .ref q48, .ref q56, .ref q63, .null, .int 0])), (q7, .inl (cI, 64, .inl (fun _ => 0))), (q16, .inl (cI, 1024, .inl (fun _ => 0))), (q24, .inl (cI, 64, .inl (fun _ => 0))), (q32, .inl (cI, 64, .inl (fun _ => 0))), (q40, .inl (cI, 64, .inl (fun _ => 0))), (q48, .inl (cI, 64, .inl (fun _ => 0))), (q56, .inl (cI, 64, .inl (fun _ => 0))), (q63, .inl (cI, 4, .inl (fun _ => 0)))] := hD
  refine lv_aload_n hx hb nd_M_init_68 rfl (lv_at hl 0 rfl) ?_
  refine lv_sipush (v := 1024) hx hb nd_M_init_69 (by decide) ?_
  refine va_newa (atype := .boolean) (N' := 1024) (a0 := (1024, .inl (fun _ => 0))) (ty := .boolean) (n := 1024) hx hb (hB _ lk_93) rfl hK hP hD hS hA (fun _ => rfl) (by decide) (by decide) (by decide) (Nat.le_of_ble_eq_true rfl) (Nat.le_of_ble_eq_true rfl) nd_M_init_72 (fun q72 cA H hK hP hD hS => ?_)
  obtain rfl : cZ = cA := ra_z (hK.2 1 _ rfl).2 (hK.2 2 _ rfl).2
  have hK : va_K (dC, dI) vwCl [(cI, .int), (cZ, .boolean)] s := hK.sub [0, 1] rfl
  have hP : va_P (dC, dI) vwCl [(h0, .inr (6, [.int 0, .ref q7, .ref q16, .ref q24, .ref q32, .ref q40, .ref q48, .ref q56, .ref q63, .null, .int 0])), (q7, .inl (cI, 64, .inl (fun _ => 0))), (q16, .inl (cI, 1024, .inl (fun _ => 0))), (q24, .inl (cI, 64, .inl (fun _ => 0))), (q32, .inl (cI, 64, .inl (fun _ => 0))), (q40, .inl (cI, 64, .inl (fun _ => 0))), (q48, .inl (cI, 64, .inl (fun _ => 0))), (q56, .inl (cI, 64, .inl (fun _ => 0))), (q63, .inl (cI, 4, .inl (fun _ => 0))), (q72, .inl (cZ, 1024, .inl (fun _ => 0)))] H := hP
  have hD : va_D A [(h0, .inr (6, [.int 0, .ref q7, .ref q16, .ref q24, .ref q32, .ref q40, .ref q48, .ref q56, .ref q63, .null, .int 0])), (q7, .inl (cI, 64, .inl (fun _ => 0))), (q16, .inl (cI, 1024, .inl (fun _ => 0))), (q24, .inl (cI, 64, .inl (fun _ => 0))), (q32, .inl (cI, 64, .inl (fun _ => 0))), (q40, .inl (cI, 64, .inl (fun _ => 0))), (q48, .inl (cI, 64, .inl (fun _ => 0))), (q56, .inl (cI, 64, .inl (fun _ => 0))), (q63, .inl (cI, 4, .inl (fun _ => 0))), (q72, .inl (cZ, 1024, .inl (fun _ => 0)))] := hD
  refine W.widen (k := 9) (n := 2436) (Nat.le_of_ble_eq_true rfl) (Nat.le_of_ble_eq_true rfl) ?_
  refine va_putF (D := (dC, dI)) (ci := 6) (v := .ref q72) (ty := (.array .boolean)) (C := RX6) (T := TX6) (N := 11) hx hb hB inB6 tyX6 tyX6_ok nX6 hown hK hP hD hS 0 rfl rfl 9 (by decide) (hB _ lk_638) (fun _ h9 => h9) rfl hin rfl (by decide +kernel) rfl rfl (Nat.le_of_ble_eq_true rfl) nd_M_init_74 (fun H locs hP hD hS => ?_)
  have hP : va_P (dC, dI) vwCl [(h0, .inr (6, [.int 0, .ref q7, .ref q16, .ref q24, .ref q32, .ref q40, .ref q48, .ref q56, .ref q63, .ref q72, .int 0])), (q7, .inl (cI, 64, .inl (fun _ => 0))), (q16, .inl (cI, 1024, .inl (fun _ => 0))), (q24, .inl (cI, 64, .inl (fun _ => 0))), (q32, .inl (cI, 64, .inl (fun _ => 0))), (q40, .inl (cI, 64, .inl (fun _ => 0))), (q48, .inl (cI, 64, .inl (fun _ => 0))), (q56, .inl (cI, 64, .inl (fun _ => 0))), (q63, .inl (cI, 4, .inl (fun _ => 0))), (q72, .inl (cZ, 1024, .inl (fun _ => 0)))] H := hP
  have hD : va_D A [(h0, .inr (6, [.int 0, .ref q7, .ref q16, .ref q24, .ref q32, .ref q40, .ref q48, .ref q56, .ref q63, .ref q72, .int 0])), (q7, .inl (cI, 64, .inl (fun _ => 0))), (q16, .inl (cI, 1024, .inl (fun _ => 0))), (q24, .inl (cI, 64, .inl (fun _ => 0))), (q32, .inl (cI, 64, .inl (fun _ => 0))), (q40, .inl (cI, 64, .inl (fun _ => 0))), (q48, .inl (cI, 64, .inl (fun _ => 0))), (q56, .inl (cI, 64, .inl (fun _ => 0))), (q63, .inl (cI, 4, .inl (fun _ => 0))), (q72, .inl (cZ, 1024, .inl (fun _ => 0)))] := hD
  have hP9 : va_P (dC, dI) vwCl (wd_M (qs_ [h0, q7, q16, q24, q32, q40, q48, q56, q63, q72]) cI cZ MS0) H := hP.sub [0, 1, 2, 3, 4, 5, 6, 7, 8, 9] rfl
  have hD9 : va_D A (wd_M (qs_ [h0, q7, q16, q24, q32, q40, q48, q56, q63, q72]) cI cZ MS0) := hD.sub [0, 1, 2, 3, 4, 5, 6, 7, 8, 9] (by decide) rfl
  exact W.vret hx hb hr (fun t ht hW => ⟨⟨qs_ [h0, q7, q16, q24, q32, q40, q48, q56, q63, q72], rfl, rfl, by rw [ht]; exact hP9, va_K.moved hW.alike hK, hD9⟩, hS.F ht⟩) hS.2.2 nd_M_init_77 hlocks
