abbrev rm_Ranges_frameOf : Room := { frames := 0, cells := 0, slots := 0, locals := 0 }
set_option maxHeartbeats 4000000 in
set_option maxRecDepth 100000 in
theorem kw_Ranges_frameOf (l : Launch) (dC : Nat → ClassId) (dI : Nat → Nat → Nat) (q : Nat → Nat) (cI cZ : ClassId) (sz : Nat) (σ : CS) (z1 : Int32) (v : Int32) (hf : mc_Ranges_frameOf σ z1 = some v) : Met l ny_Ranges_frameOf nw_Ranges_frameOf rm_Ranges_frameOf (va_Pc [.ref (q 3), .int z1] (pr_ (dC, dI) (wd_C q cI cZ) [(cI, .int), (cZ, .boolean)] sz σ)) (qi_ (dC, dI) (wd_C q cI cZ) [(cI, .int), (cZ, .boolean)] (va_A (wd_C q cI cZ σ) sz) v σ) 0 0 (va_A (wd_C q cI cZ σ) sz) := by
  refine Met.ofW (cc := nb_Ranges_frameOf) (maxL := 2) (ret := (some .int)) (by decide) rfl ?_
  intro p e s m args below meth c s₁ B hml hv
  obtain ⟨rfl, hsz, hP, hK, hD0, hN⟩ := hv
  have hx := B.exec
  have hb := B.bytes
  have hr := B.returns
  have hts := atoms_spec (ws := nw_Ranges_frameOf) B.pre
  have hB : ∀ w ∈ BG, w.before ([.ref (q 3), .int z1] : List Value).toArray s = true := fun w h => hts w (List.mem_cons_of_mem _ h)
  have hown : s.vm.findClass "MovedFrames$Ranges" = some m.cls := findClass_of_methodNamed B.named
  have hlocks := B.notSynchronized
  subst hsz
  have hD := hD0.self (sz := s.heap.size)
  generalize hAe : va_A (wd_C q cI cZ σ) s.heap.size = A at hD ⊢
  have hA : ∀ q : Nat, s.heap.size ≤ q → A q := fun q h => by rw [← hAe]; exact Or.inr h
  have hS : va_S A s.heap s.heap [] := va_S.rf
  have hl := lv_entry ([.ref (q 3), .int z1]) (n := 2) (Nat.le_of_ble_eq_true rfl)
  rw [lg_entry_eq]
  generalize (lg_sl ([.ref (q 3), .int z1]) ++ List.replicate (2 - (lg_sl ([.ref (q 3), .int z1])).length) Slot.unset).toArray = ls at hl ⊢
  have hl : lv_has ls 2 [(0, .ref (q 3)), (1, .int z1)] := hl
  have hH : s.heap = s.heap := rfl
  unfold mc_Ranges_frameOf at hf
  refine lv_iload_n hx hb nd_Ranges_frameOf_0 rfl (lv_at hl 1 rfl) ?_
  refine lv_if_lt (tgt := 21) hx hb nd_Ranges_frameOf_1 (by decide) (fun hc => ?_) (fun hc => ?_)
  · have hf := mi_if_t hc hf
    refine lv_iconst (v := (-1)) hx hb nd_Ranges_frameOf_21 (by decide) ?_
    exact re_i hx hb hr hlocks (mi_eq hf) (rfl) hP hK hD hS nd_Ranges_frameOf_22
  · have hf := mi_if_f hc hf
    refine lv_iload_n hx hb nd_Ranges_frameOf_4 rfl (lv_at hl 1 rfl) ?_
    refine lv_bipush (v := 64) hx hb nd_Ranges_frameOf_5 (by decide) ?_
    refine lv_icmp_ge (tgt := 21) hx hb nd_Ranges_frameOf_7 (by decide) (fun hc => ?_) (fun hc => ?_)
    · have hf := mi_if_t hc hf
      refine lv_iconst (v := (-1)) hx hb nd_Ranges_frameOf_21 (by decide) ?_
      exact re_i hx hb hr hlocks (mi_eq hf) (rfl) hP hK hD hS nd_Ranges_frameOf_22
    · have hf := mi_if_f hc hf
      refine lv_aload_n hx hb nd_Ranges_frameOf_10 rfl (lv_at hl 0 rfl) ?_
      refine va_get (D := (dC, dI)) (ci := 1) (v := .ref (q 10)) (C := RX1) (T := TX1) (N := 3) hx hb hB inB1 hown hK hP 3 rfl rfl 1 (by decide) (hB _ lk_65) (fun _ h9 => h9) rfl nd_Ranges_frameOf_11 ?_
      refine lv_iload_n hx hb nd_Ranges_frameOf_14 rfl (lv_at hl 1 rfl) ?_
      obtain ⟨hg, hf⟩ := mi_gd_el hf
      refine va_iald hx hb hK hP 10 0 rfl rfl hg nd_Ranges_frameOf_15 ?_
      refine lv_iconst (v := 1) hx hb nd_Ranges_frameOf_16 (by decide) ?_
      refine lv_isub hx hb nd_Ranges_frameOf_17 ?_
      refine lv_goto (tgt := 22) hx hb nd_Ranges_frameOf_18 (by decide) ?_
      exact re_i hx hb hr hlocks (mi_eq hf) (rfl) hP hK hD hS nd_Ranges_frameOf_22
abbrev rm_JM_floorMod : Room := { frames := 0, cells := 0, slots := 0, locals := 0 }
set_option maxHeartbeats 4000000 in
set_option maxRecDepth 100000 in
theorem kw_JM_floorMod (l : Launch) (dC : Nat → ClassId) (dI : Nat → Nat → Nat) (q : Nat → Nat) (cI cZ : ClassId) (sz : Nat) (σ : CS) (z0 : Int32) (z1 : Int32) (v : Int32) (hf : mc_floorMod z0 z1 = some v) : Met l ny_JM_floorMod nw_JM_floorMod rm_JM_floorMod (va_Pc [.int z0, .int z1] (pr_ (dC, dI) (wd_C q cI cZ) [(cI, .int), (cZ, .boolean)] sz σ)) (qi_ (dC, dI) (wd_C q cI cZ) [(cI, .int), (cZ, .boolean)] (va_A (wd_C q cI cZ σ) sz) v σ) 0 0 (va_A (wd_C q cI cZ σ) sz) := by
  refine ofWF_ (cc := nb_JM_floorMod) (maxL := 3) (ret := (some .int)) (by decide +kernel) rfl ?_
  intro p e s m args below meth c s₁ B hml hv
  obtain ⟨rfl, hsz, hP, hK, hD0, hN⟩ := hv
  have hx := B.exec
  have hb := B.bytes
  have hr := B.returns
  have hts := atoms_spec (ws := nw_JM_floorMod) B.pre
  have hB : ∀ w ∈ BG, w.before ([.int z0, .int z1] : List Value).toArray s = true := fun w h => hts w (List.mem_cons_of_mem _ h)
  have hown : s.vm.findClass "java/lang/Math" = some m.cls := findClass_of_methodNamed B.named
  have hlocks := B.notSynchronized
  subst hsz
  have hD := hD0.self (sz := s.heap.size)
  generalize hAe : va_A (wd_C q cI cZ σ) s.heap.size = A at hD ⊢
  have hA : ∀ q : Nat, s.heap.size ≤ q → A q := fun q h => by rw [← hAe]; exact Or.inr h
  have hS : va_S A s.heap s.heap [] := va_S.rf
  have hl := lv_entry ([.int z0, .int z1]) (n := 3) (Nat.le_of_ble_eq_true rfl)
  rw [lg_entry_eq]
  generalize (lg_sl ([.int z0, .int z1]) ++ List.replicate (3 - (lg_sl ([.int z0, .int z1])).length) Slot.unset).toArray = ls at hl ⊢
  have hl : lv_has ls 3 [(0, .int z0), (1, .int z1)] := hl
  have hH : s.heap = s.heap := rfl
  unfold mc_floorMod at hf
  refine lv_iload_n hx hb nd_JM_floorMod_0 rfl (lv_at hl 0 rfl) ?_
  refine lv_iload_n hx hb nd_JM_floorMod_1 rfl (lv_at hl 1 rfl) ?_
  obtain ⟨hg, hf⟩ := mi_gd_el hf
  refine lv_irem hx hb nd_JM_floorMod_2 hg ?_
  refine lv_istore_n (lv' := [(2, .int (z0 - z0 / z1 * z1)), (0, .int z0), (1, .int z1)]) hx hb nd_JM_floorMod_3 rfl hl (by decide) rfl (fun ls hl => ?_)
  refine lv_iload_n hx hb nd_JM_floorMod_4 rfl (lv_at hl 1 rfl) ?_
  refine lv_iload_n hx hb nd_JM_floorMod_5 rfl (lv_at hl 2 rfl) ?_
  refine lv_ixor hx hb nd_JM_floorMod_6 ?_
  refine lv_if_ge (tgt := 18) hx hb nd_JM_floorMod_7 (by decide) (fun hc => ?_) (fun hc => ?_)
  · have hf := mi_if_t hc hf
    refine lv_iload_n hx hb nd_JM_floorMod_18 rfl (lv_at hl 0 rfl) ?_
    exact re_i hx hb hr hlocks (mi_eq hf) (rfl) hP hK hD hS nd_JM_floorMod_19
  · have hf := mi_if_f hc hf
    refine lv_iload_n hx hb nd_JM_floorMod_10 rfl (lv_at hl 0 rfl) ?_
    refine lv_if_eq (tgt := 18) hx hb nd_JM_floorMod_11 (by decide) (fun hc => ?_) (fun hc => ?_)
    · have hf := mi_if_t hc hf
      refine lv_iload_n hx hb nd_JM_floorMod_18 rfl (lv_at hl 0 rfl) ?_
      exact re_i hx hb hr hlocks (mi_eq hf) (rfl) hP hK hD hS nd_JM_floorMod_19
    · have hf := mi_if_f hc hf
      refine lv_iload_n hx hb nd_JM_floorMod_14 rfl (lv_at hl 0 rfl) ?_
      refine lv_iload_n hx hb nd_JM_floorMod_15 rfl (lv_at hl 2 rfl) ?_
      refine lv_iadd hx hb nd_JM_floorMod_16 ?_
      exact re_i hx hb hr hlocks (mi_eq hf) (rfl) hP hK hD hS nd_JM_floorMod_17
abbrev rm_Ranges_placeAt : Room := { frames := 1, cells := 0, slots := 0, locals := 22 }
set_option maxHeartbeats 4000000 in
set_option maxRecDepth 100000 in
theorem kw_Ranges_placeAt (l : Launch) (dC : Nat → ClassId) (dI : Nat → Nat → Nat) (q : Nat → Nat) (cI cZ : ClassId) (sz : Nat) (σ : CS) (z1 : Int32) (v : Int32) (hf : mc_Ranges_placeAt σ z1 = some v) : Met l ny_Ranges_placeAt nw_Ranges_placeAt rm_Ranges_placeAt (va_Pc [.ref (q 3), .int z1] (pr_ (dC, dI) (wd_C q cI cZ) [(cI, .int), (cZ, .boolean)] sz σ)) (qi_ (dC, dI) (wd_C q cI cZ) [(cI, .int), (cZ, .boolean)] (va_A (wd_C q cI cZ σ) sz) v σ) 0 0 (va_A (wd_C q cI cZ σ) sz) := by
  refine Met.ofW (cc := nb_Ranges_placeAt) (maxL := 3) (ret := (some .int)) (by decide) rfl ?_
  intro p e s m args below meth c s₁ B hml hv
  obtain ⟨rfl, hsz, hP, hK, hD0, hN⟩ := hv
  have hx := B.exec
  have hb := B.bytes
  have hr := B.returns
  have hts := atoms_spec (ws := nw_Ranges_placeAt) B.pre
  have hB : ∀ w ∈ BG, w.before ([.ref (q 3), .int z1] : List Value).toArray s = true := fun w h => hts w (List.mem_cons_of_mem _ h)
  have hown : s.vm.findClass "MovedFrames$Ranges" = some m.cls := findClass_of_methodNamed B.named
  have hlocks := B.notSynchronized
  subst hsz
  have hD := hD0.self (sz := s.heap.size)
  generalize hAe : va_A (wd_C q cI cZ σ) s.heap.size = A at hD ⊢
  have hA : ∀ q : Nat, s.heap.size ≤ q → A q := fun q h => by rw [← hAe]; exact Or.inr h
  have hS : va_S A s.heap s.heap [] := va_S.rf
  have hl := lv_entry ([.ref (q 3), .int z1]) (n := 3) (Nat.le_of_ble_eq_true rfl)
  rw [lg_entry_eq]
  generalize (lg_sl ([.ref (q 3), .int z1]) ++ List.replicate (3 - (lg_sl ([.ref (q 3), .int z1])).length) Slot.unset).toArray = ls at hl ⊢
  have hl : lv_has ls 3 [(0, .ref (q 3)), (1, .int z1)] := hl
  have hH : s.heap = s.heap := rfl
  unfold mc_Ranges_placeAt at hf
  refine lv_aload_n hx hb nd_Ranges_placeAt_0 rfl (lv_at hl 0 rfl) ?_
  refine lv_iload_n hx hb nd_Ranges_placeAt_1 rfl (lv_at hl 1 rfl) ?_
  refine lv_bipush (v := 16) hx hb nd_Ranges_placeAt_2 (by decide) ?_
  obtain ⟨r1, hc, hf⟩ := mi_cp_el hf
  refine ca_i (va_runS (As := [.int z1, .int (16 : Int32)]) (rest := [.ref (q 3)]) ⟨hx, hb, hml, hown, hB⟩ (kw_JM_floorDiv l dC dI q cI cZ _ σ z1 (16 : Int32) r1 hc) ⟨callB_of 2 hB (gi_ lk_533) rfl rfl rfl (hB _ lk_15) (hB _ lk_531) (by decide +kernel) ⟨Nat.le_of_ble_eq_true rfl, Nat.le_of_ble_eq_true rfl⟩, hB _ lk_532⟩ ⟨bl_, pre_ hP hK hD hN⟩ rfl rfl hl.1 rfl (lv_room (Nat.le_of_ble_eq_true rfl)) nd_Ranges_placeAt_4 ⟨Nat.zero_le _, Nat.zero_le _⟩) hD hS hA (fun H locs hP hD hS => ?_)
  obtain ⟨r2, hc, hf⟩ := mi_cp_el hf
  refine ca_i (va_runV (C := "MovedFrames$Ranges") (As := [.int r1]) (rest := []) ⟨hx, hb, hml, hown, hB⟩ (kw_Ranges_frameOf l dC dI q cI cZ _ σ r1 r2 hc) ⟨callB_of 1 hB (gi_ lk_147) rfl rfl rfl (hB _ lk_4) (hB _ lk_534) (by decide +kernel) ⟨Nat.le_of_ble_eq_true rfl, Nat.le_of_ble_eq_true rfl⟩, hB _ lk_145, hB _ lk_146⟩ ⟨bl_, va_recv (ci := 1) (q0 := 3) hK hP rfl rfl, pre_ hP hK hD hN⟩ rfl rfl hl.1 rfl (lv_room (Nat.le_of_ble_eq_true rfl)) nd_Ranges_placeAt_7 ⟨Nat.zero_le _, Nat.zero_le _⟩) hD hS hA (fun H locs hP hD hS => ?_)
  refine lv_istore_n (lv' := [(2, .int r2), (0, .ref (q 3)), (1, .int z1)]) hx hb nd_Ranges_placeAt_10 rfl hl (by decide) rfl (fun ls hl => ?_)
  refine lv_iload_n hx hb nd_Ranges_placeAt_11 rfl (lv_at hl 0 rfl) ?_
  refine lv_iconst (v := (-1)) hx hb nd_Ranges_placeAt_12 (by decide) ?_
  refine lv_icmp_ne (tgt := 20) hx hb nd_Ranges_placeAt_13 (by decide) (fun hc => ?_) (fun hc => ?_)
  · have hf := mi_if_f hc hf
    refine lv_iload_n hx hb nd_Ranges_placeAt_20 rfl (lv_at hl 0 rfl) ?_
    refine lv_bipush (v := 16) hx hb nd_Ranges_placeAt_21 (by decide) ?_
    refine lv_imul hx hb nd_Ranges_placeAt_23 ?_
    refine lv_iload_n hx hb nd_Ranges_placeAt_24 rfl (lv_at hl 2 rfl) ?_
    refine lv_bipush (v := 16) hx hb nd_Ranges_placeAt_25 (by decide) ?_
    obtain ⟨r3, hc, hf⟩ := mi_cp_el hf
    refine ca_i (va_runS (As := [.int z1, .int (16 : Int32)]) (rest := [.int (r2 * (16 : Int32))]) ⟨hx, hb, hml, hown, hB⟩ (kw_JM_floorMod l dC dI q cI cZ _ σ z1 (16 : Int32) r3 hc) ⟨callB_of 2 hB (gi_ lk_537) rfl rfl rfl (hB _ lk_15) (hB _ lk_535) (by decide +kernel) ⟨Nat.le_of_ble_eq_true rfl, Nat.le_of_ble_eq_true rfl⟩, hB _ lk_536⟩ ⟨bl_, pre_ hP hK hD hN⟩ rfl rfl hl.1 rfl (lv_room (Nat.le_of_ble_eq_true rfl)) nd_Ranges_placeAt_27 ⟨Nat.zero_le _, Nat.zero_le _⟩) hD hS hA (fun H locs hP hD hS => ?_)
    refine lv_iadd hx hb nd_Ranges_placeAt_30 ?_
    exact re_i hx hb hr hlocks (mi_eq hf) (rfl) hP hK hD hS nd_Ranges_placeAt_31
  · have hf := mi_if_t hc hf
    refine lv_iconst (v := (-1)) hx hb nd_Ranges_placeAt_16 (by decide) ?_
    refine lv_goto (tgt := 31) hx hb nd_Ranges_placeAt_17 (by decide) ?_
    exact re_i hx hb hr hlocks (mi_eq hf) (rfl) hP hK hD hS nd_Ranges_placeAt_31
abbrev rm_Spaces_link : Room := { frames := 1, cells := 0, slots := 0, locals := 22 }
set_option maxHeartbeats 4000000 in
set_option maxRecDepth 100000 in
theorem kw_Spaces_link (l : Launch) (dC : Nat → ClassId) (dI : Nat → Nat → Nat) (q : Nat → Nat) (cI cZ : ClassId) (sz : Nat) (σ : CS) (z1 : Int32) (z2 : Int32) (σ' : CS) (hf : mc_Spaces_link σ z1 z2 = some σ') : Met l ny_Spaces_link nw_Spaces_link rm_Spaces_link (va_Pc [.ref (q 4), .int z1, .int z2] (pr_ (dC, dI) (wd_C q cI cZ) [(cI, .int), (cZ, .boolean)] sz σ)) (qv_ (dC, dI) (wd_C q cI cZ) [(cI, .int), (cZ, .boolean)] (va_A (wd_C q cI cZ σ) sz) σ') 0 0 (va_A (wd_C q cI cZ σ) sz) := by
  refine Met.ofW (cc := nb_Spaces_link) (maxL := 3) (ret := none) (by decide) rfl ?_
  intro p e s m args below meth c s₁ B hml hv
  obtain ⟨rfl, hsz, hP, hK, hD0, hN⟩ := hv
  have hx := B.exec
  have hb := B.bytes
  have hr := B.returns
  have hts := atoms_spec (ws := nw_Spaces_link) B.pre
  have hB : ∀ w ∈ BG, w.before ([.ref (q 4), .int z1, .int z2] : List Value).toArray s = true := fun w h => hts w (List.mem_cons_of_mem _ h)
  have hown : s.vm.findClass "MovedFrames$Spaces" = some m.cls := findClass_of_methodNamed B.named
  have hlocks := B.notSynchronized
  subst hsz
  have hD := hD0.self (sz := s.heap.size)
  generalize hAe : va_A (wd_C q cI cZ σ) s.heap.size = A at hD ⊢
  have hA : ∀ q : Nat, s.heap.size ≤ q → A q := fun q h => by rw [← hAe]; exact Or.inr h
  have hS : va_S A s.heap s.heap [] := va_S.rf
  have hl := lv_entry ([.ref (q 4), .int z1, .int z2]) (n := 3) (Nat.le_of_ble_eq_true rfl)
  rw [lg_entry_eq]
  generalize (lg_sl ([.ref (q 4), .int z1, .int z2]) ++ List.replicate (3 - (lg_sl ([.ref (q 4), .int z1, .int z2])).length) Slot.unset).toArray = ls at hl ⊢
  have hl : lv_has ls 3 [(0, .ref (q 4)), (1, .int z1), (2, .int z2)] := hl
  have hH : s.heap = s.heap := rfl
  unfold mc_Spaces_link at hf
  refine lv_iload_n hx hb nd_Spaces_link_0 rfl (lv_at hl 2 rfl) ?_
  obtain ⟨r1, hc, hf⟩ := mi_cp_el hf
  refine ca_i (va_runSN (As := [.int z2]) (rest := []) ⟨hx, hb, hml, hown, hB⟩ (kw_F_isFrame l dC dI q cI cZ _ σ z2 r1 hc) ⟨va_cnB 1 hB (gi_ lk_139) rfl rfl rfl hN.2.2.1 (hB _ lk_1) (by decide +kernel) ⟨Nat.le_of_ble_eq_true rfl, Nat.le_of_ble_eq_true rfl⟩, hB _ lk_138, trivial⟩ ⟨bl_, pre_ hP hK hD hN⟩ rfl rfl hl.1 rfl (lv_room (Nat.le_of_ble_eq_true rfl)) nd_Spaces_link_1 ⟨Nat.zero_le _, Nat.zero_le _⟩) hD hS hA (fun H locs hP hD hS => ?_)
  refine lv_if_eq (tgt := 25) hx hb nd_Spaces_link_4 (by decide) (fun hc => ?_) (fun hc => ?_)
  · have hf := mi_if_t hc hf
    exact re_v hx hb hr hlocks (mi_eq hf) hP hK hD hS nd_Spaces_link_25
  · have hf := mi_if_f hc hf
    refine lv_aload_n hx hb nd_Spaces_link_7 rfl (lv_at hl 0 rfl) ?_
    refine va_get (D := (dC, dI)) (ci := 4) (v := .ref (q 1)) (C := RX4) (T := TX4) (N := 4) hx hb hB inB4 hown hK hP 4 rfl rfl 0 (by decide) (hB _ lk_80) (fun _ h9 => h9) rfl nd_Spaces_link_8 ?_
    refine lv_iload_n hx hb nd_Spaces_link_11 rfl (lv_at hl 1 rfl) ?_
    refine lv_iconst (v := 1) hx hb nd_Spaces_link_12 (by decide) ?_
    refine lv_iload_n hx hb nd_Spaces_link_13 rfl (lv_at hl 2 rfl) ?_
    refine lv_iadd hx hb nd_Spaces_link_14 ?_
    obtain ⟨σ2, hc, hf⟩ := mi_cv_el hf
    refine ca_v (va_runV (C := "MovedFrames$Frames") (As := [.int z1, .int ((1 : Int32) + z2)]) (rest := []) ⟨hx, hb, hml, hown, hB⟩ (kw_Frames_write l dC dI q cI cZ _ σ z1 ((1 : Int32) + z2) σ2 hc) ⟨callB_of 2 hB (gi_ lk_338) rfl rfl rfl (hB _ lk_2) (hB _ lk_490) (by decide +kernel) ⟨Nat.le_of_ble_eq_true rfl, Nat.le_of_ble_eq_true rfl⟩, hB _ lk_336, hB _ lk_337⟩ ⟨bl_, va_recv (ci := 0) (q0 := 1) hK hP rfl rfl, pre_ hP hK hD hN⟩ rfl rfl hl.1 rfl (lv_room (Nat.le_of_ble_eq_true rfl)) nd_Spaces_link_15 ⟨Nat.zero_le _, Nat.zero_le _⟩) hD hS hA (fun H locs hP hD hS => ?_)
    refine lv_aload_n hx hb nd_Spaces_link_18 rfl (lv_at hl 0 rfl) ?_
    refine va_get (D := (dC, dI)) (ci := 4) (v := .ref (q 14)) (C := RX4) (T := TX4) (N := 4) hx hb hB inB4 hown hK hP 4 rfl rfl 3 (by decide) (hB _ lk_83) (fun _ h9 => h9) rfl nd_Spaces_link_19 ?_
    refine lv_iload_n hx hb nd_Spaces_link_22 rfl (lv_at hl 2 rfl) ?_
    refine lv_iload_n hx hb nd_Spaces_link_23 rfl (lv_at hl 1 rfl) ?_
    obtain ⟨hg, hf⟩ := mi_gd_el hf
    refine va_iast hx hb hK hP hD hS 14 0 rfl rfl hg nd_Spaces_link_24 (fun H locs hP hD hS => ?_)
    obtain ⟨σ3, e9, hf⟩ := mi_wr_ex hf
    have hP : va_P (dC, dI) vwCl (wd_C q cI cZ σ3) H := by rw [e9]; exact hP
    have hD : va_D A (wd_C q cI cZ σ3) := by rw [e9]; exact hD
    exact re_v hx hb hr hlocks (mi_eq hf) hP hK hD hS nd_Spaces_link_25
abbrev rm_Spaces_touch : Room := { frames := 3, cells := 0, slots := 0, locals := 71 }
set_option maxHeartbeats 4000000 in
set_option maxRecDepth 100000 in
theorem kw_Spaces_touch (l : Launch) (dC : Nat → ClassId) (dI : Nat → Nat → Nat) (q : Nat → Nat) (cI cZ : ClassId) (sz : Nat) (σ : CS) (z1 : Int32) (z2 : Int32) (v : Int32) (σ' : CS) (hf : mc_Spaces_touch σ z1 z2 = some (v, σ')) : Met l ny_Spaces_touch nw_Spaces_touch rm_Spaces_touch (va_Pc [.ref (q 4), .int z1, .int z2] (pr_ (dC, dI) (wd_C q cI cZ) [(cI, .int), (cZ, .boolean)] sz σ)) (qi_ (dC, dI) (wd_C q cI cZ) [(cI, .int), (cZ, .boolean)] (va_A (wd_C q cI cZ σ) sz) v σ') 0 0 (va_A (wd_C q cI cZ σ) sz) := by
  refine Met.ofW (cc := nb_Spaces_touch) (maxL := 5) (ret := (some .int)) (by decide) rfl ?_
  intro p e s m args below meth c s₁ B hml hv
  obtain ⟨rfl, hsz, hP, hK, hD0, hN⟩ := hv
  have hx := B.exec
  have hb := B.bytes
  have hr := B.returns
  have hts := atoms_spec (ws := nw_Spaces_touch) B.pre
  have hB : ∀ w ∈ BG, w.before ([.ref (q 4), .int z1, .int z2] : List Value).toArray s = true := fun w h => hts w (List.mem_cons_of_mem _ h)
  have hown : s.vm.findClass "MovedFrames$Spaces" = some m.cls := findClass_of_methodNamed B.named
  have hlocks := B.notSynchronized
  subst hsz
  have hD := hD0.self (sz := s.heap.size)
  generalize hAe : va_A (wd_C q cI cZ σ) s.heap.size = A at hD ⊢
  have hA : ∀ q : Nat, s.heap.size ≤ q → A q := fun q h => by rw [← hAe]; exact Or.inr h
  have hS : va_S A s.heap s.heap [] := va_S.rf
  have hl := lv_entry ([.ref (q 4), .int z1, .int z2]) (n := 5) (Nat.le_of_ble_eq_true rfl)
  rw [lg_entry_eq]
  generalize (lg_sl ([.ref (q 4), .int z1, .int z2]) ++ List.replicate (5 - (lg_sl ([.ref (q 4), .int z1, .int z2])).length) Slot.unset).toArray = ls at hl ⊢
  have hl : lv_has ls 5 [(0, .ref (q 4)), (1, .int z1), (2, .int z2)] := hl
  have B87 : ∀ (x2 : Int32) (x4 : Int32) (σ : CS), mc_Spaces_touch_b87 x2 x4 σ = some (v, σ') → bk_ p l e rm_Spaces_touch s m ([.ref (q 4), .int z1, .int z2] : List Value).toArray below meth c (MQ below (qi_ (dC, dI) (wd_C q cI cZ) [(cI, .int), (cZ, .boolean)] A v σ') ([.ref (q 4), .int z1, .int z2] : List Value).toArray s 0 0 A) A (dC, dI) (wd_C q cI cZ) 5 87 [(0, .ref (q 4)), (2, .int x2), (4, .int x4)] [] σ := by
    intro x2 x4 σ hf ls H locs hl hP hD hS
    unfold mc_Spaces_touch_b87 at hf
    refine lv_aload_n hx hb nd_Spaces_touch_87 rfl (lv_at hl 0 rfl) ?_
    refine va_get (D := (dC, dI)) (ci := 4) (v := .ref (q 1)) (C := RX4) (T := TX4) (N := 4) hx hb hB inB4 hown hK hP 4 rfl rfl 0 (by decide) (hB _ lk_80) (fun _ h9 => h9) rfl nd_Spaces_touch_88 ?_
    refine lv_iconst (v := 4) hx hb nd_Spaces_touch_91 (by decide) ?_
    obtain ⟨r6, σ5, hc, hf⟩ := mi_cw_el hf
    refine ca_i (va_runV (C := "MovedFrames$Frames") (As := [.int (4 : Int32)]) (rest := []) ⟨hx, hb, hml, hown, hB⟩ (kw_Frames_giveOne l dC dI q cI cZ _ σ (4 : Int32) r6 σ5 hc) ⟨callB_of 1 hB (gi_ lk_322) rfl rfl rfl (hB _ lk_2) (hB _ lk_418) (by decide +kernel) ⟨Nat.le_of_ble_eq_true rfl, Nat.le_of_ble_eq_true rfl⟩, hB _ lk_320, hB _ lk_321⟩ ⟨bl_, va_recv (ci := 0) (q0 := 1) hK hP rfl rfl, pre_ hP hK hD hN⟩ rfl rfl hl.1 rfl (lv_room (Nat.le_of_ble_eq_true rfl)) nd_Spaces_touch_92 ⟨Nat.zero_le _, Nat.zero_le _⟩) hD hS hA (fun H locs hP hD hS => ?_)
    refine lv_istore_n (lv' := [(3, .int r6), (0, .ref (q 4)), (2, .int x2), (4, .int x4)]) hx hb nd_Spaces_touch_95 rfl hl (by decide) rfl (fun ls hl => ?_)
    refine lv_aload_n hx hb nd_Spaces_touch_96 rfl (lv_at hl 1 rfl) ?_
    refine lv_iload hx hb nd_Spaces_touch_97 (lv_at hl 3 rfl) ?_
    refine lv_bipush (v := 16) hx hb nd_Spaces_touch_99 (by decide) ?_
    refine lv_imul hx hb nd_Spaces_touch_101 ?_
    refine lv_iload_n hx hb nd_Spaces_touch_102 rfl (lv_at hl 2 rfl) ?_
    refine lv_bipush (v := 16) hx hb nd_Spaces_touch_103 (by decide) ?_
    refine lv_irem hx hb nd_Spaces_touch_105 (by decide) ?_
    refine lv_iadd hx hb nd_Spaces_touch_106 ?_
    refine lv_iload_n hx hb nd_Spaces_touch_107 rfl (lv_at hl 0 rfl) ?_
    obtain ⟨σ7, hc, hf⟩ := mi_cv_el hf
    refine ca_v (va_runV (C := "MovedFrames$Spaces") (As := [.int ((x4 * (16 : Int32)) + (x2 - x2 / (16 : Int32) * (16 : Int32))), .int r6]) (rest := []) ⟨hx, hb, hml, hown, hB⟩ (kw_Spaces_link l dC dI q cI cZ _ σ5 ((x4 * (16 : Int32)) + (x2 - x2 / (16 : Int32) * (16 : Int32))) r6 σ7 hc) ⟨callB_of 2 hB (gi_ lk_553) rfl rfl rfl (hB _ lk_5) (hB _ lk_550) (by decide +kernel) ⟨Nat.le_of_ble_eq_true rfl, Nat.le_of_ble_eq_true rfl⟩, hB _ lk_552, hB _ ls_20⟩ ⟨bl_, va_recv (ci := 4) (q0 := 4) hK hP rfl rfl, pre_ hP hK hD hN⟩ rfl rfl hl.1 rfl (lv_room (Nat.le_of_ble_eq_true rfl)) nd_Spaces_touch_108 ⟨Nat.zero_le _, Nat.zero_le _⟩) hD hS hA (fun H locs hP hD hS => ?_)
    refine lv_iload_n hx hb nd_Spaces_touch_111 rfl (lv_at hl 0 rfl) ?_
    exact re_i hx hb hr hlocks ((mi_pr hf).1) ((mi_pr hf).2) hP hK hD hS nd_Spaces_touch_112
  have B49 : ∀ (x1 : Int32) (x2 : Int32) (x4 : Int32) (y0 : Int32) (y1 : Int32) (σ : CS), mc_Spaces_touch_b49 x1 x2 x4 y0 y1 σ = some (v, σ') → bk_ p l e rm_Spaces_touch s m ([.ref (q 4), .int z1, .int z2] : List Value).toArray below meth c (MQ below (qi_ (dC, dI) (wd_C q cI cZ) [(cI, .int), (cZ, .boolean)] A v σ') ([.ref (q 4), .int z1, .int z2] : List Value).toArray s 0 0 A) A (dC, dI) (wd_C q cI cZ) 5 49 [(0, .ref (q 4)), (1, .int x1), (2, .int x2), (4, .int x4)] [.int y1, .int y0] σ := by
    intro x1 x2 x4 y0 y1 σ hf ls H locs hl hP hD hS
    unfold mc_Spaces_touch_b49 at hf
    refine lv_icmp_ge (tgt := 54) hx hb nd_Spaces_touch_49 (by decide) (fun hc => ?_) (fun hc => ?_)
    · have hf := mi_if_t hc hf
      refine lv_iload hx hb nd_Spaces_touch_54 (lv_at hl 3 rfl) ?_
      refine lv_iconst (v := (-1)) hx hb nd_Spaces_touch_56 (by decide) ?_
      refine lv_icmp_ne (tgt := 87) hx hb nd_Spaces_touch_57 (by decide) (fun hc => ?_) (fun hc => ?_)
      · have hf := mi_if_f hc hf
        exact B87 x2 x4 σ hf _ _ _ (lv_sub hl [0, 2, 3] rfl) hP hD hS
      · have hf := mi_if_t hc hf
        refine lv_aload_n hx hb nd_Spaces_touch_60 rfl (lv_at hl 0 rfl) ?_
        refine va_get (D := (dC, dI)) (ci := 4) (v := .ref (q 1)) (C := RX4) (T := TX4) (N := 4) hx hb hB inB4 hown hK hP 4 rfl rfl 0 (by decide) (hB _ lk_80) (fun _ h9 => h9) rfl nd_Spaces_touch_61 ?_
        refine lv_iconst (v := 1) hx hb nd_Spaces_touch_64 (by decide) ?_
        obtain ⟨r9, σ8, hc, hf⟩ := mi_cw_el hf
        refine ca_i (va_runV (C := "MovedFrames$Frames") (As := [.int (1 : Int32)]) (rest := []) ⟨hx, hb, hml, hown, hB⟩ (kw_Frames_giveOne l dC dI q cI cZ _ σ (1 : Int32) r9 σ8 hc) ⟨callB_of 1 hB (gi_ lk_322) rfl rfl rfl (hB _ lk_2) (hB _ lk_418) (by decide +kernel) ⟨Nat.le_of_ble_eq_true rfl, Nat.le_of_ble_eq_true rfl⟩, hB _ lk_320, hB _ lk_321⟩ ⟨bl_, va_recv (ci := 0) (q0 := 1) hK hP rfl rfl, pre_ hP hK hD hN⟩ rfl rfl hl.1 rfl (lv_room (Nat.le_of_ble_eq_true rfl)) nd_Spaces_touch_65 ⟨Nat.zero_le _, Nat.zero_le _⟩) hD hS hA (fun H locs hP hD hS => ?_)
        refine lv_istore (lv' := [(4, .int r9), (0, .ref (q 4)), (1, .int x1), (2, .int x2)]) hx hb nd_Spaces_touch_68 hl (by decide) rfl (fun ls hl => ?_)
        refine lv_aload_n hx hb nd_Spaces_touch_70 rfl (lv_at hl 1 rfl) ?_
        refine va_get (D := (dC, dI)) (ci := 4) (v := .ref (q 1)) (C := RX4) (T := TX4) (N := 4) hx hb hB inB4 hown hK hP 4 rfl rfl 0 (by decide) (hB _ lk_80) (fun _ h9 => h9) rfl nd_Spaces_touch_71 ?_
        refine lv_aload_n hx hb nd_Spaces_touch_74 rfl (lv_at hl 1 rfl) ?_
        refine lv_iload_n hx hb nd_Spaces_touch_75 rfl (lv_at hl 2 rfl) ?_
        refine lv_iload_n hx hb nd_Spaces_touch_76 rfl (lv_at hl 3 rfl) ?_
        obtain ⟨r10, hc, hf⟩ := mi_cp_el hf
        refine ca_i (va_runV (C := "MovedFrames$Spaces") (As := [.int x1, .int x2]) (rest := [.ref (q 1)]) ⟨hx, hb, hml, hown, hB⟩ (kw_Spaces_rootEntry l dC dI q cI cZ _ σ8 x1 x2 r10 hc) ⟨callB_of 2 hB (gi_ lk_166) rfl rfl rfl (hB _ lk_5) (hB _ lk_163) (by decide +kernel) ⟨Nat.le_of_ble_eq_true rfl, Nat.le_of_ble_eq_true rfl⟩, hB _ lk_165, hB _ ls_1⟩ ⟨bl_, va_recv (ci := 4) (q0 := 4) hK hP rfl rfl, pre_ hP hK hD hN⟩ rfl rfl hl.1 rfl (lv_room (Nat.le_of_ble_eq_true rfl)) nd_Spaces_touch_77 ⟨Nat.zero_le _, Nat.zero_le _⟩) hD hS hA (fun H locs hP hD hS => ?_)
        refine lv_iconst (v := 1) hx hb nd_Spaces_touch_80 (by decide) ?_
        refine lv_iload hx hb nd_Spaces_touch_81 (lv_at hl 0 rfl) ?_
        refine lv_iadd hx hb nd_Spaces_touch_83 ?_
        obtain ⟨σ11, hc, hf⟩ := mi_cv_el hf
        refine ca_v (va_runV (C := "MovedFrames$Frames") (As := [.int r10, .int ((1 : Int32) + r9)]) (rest := []) ⟨hx, hb, hml, hown, hB⟩ (kw_Frames_write l dC dI q cI cZ _ σ8 r10 ((1 : Int32) + r9) σ11 hc) ⟨callB_of 2 hB (gi_ lk_338) rfl rfl rfl (hB _ lk_2) (hB _ lk_490) (by decide +kernel) ⟨Nat.le_of_ble_eq_true rfl, Nat.le_of_ble_eq_true rfl⟩, hB _ lk_336, hB _ lk_337⟩ ⟨bl_, va_recv (ci := 0) (q0 := 1) hK hP rfl rfl, pre_ hP hK hD hN⟩ rfl rfl hl.1 rfl (lv_room (Nat.le_of_ble_eq_true rfl)) nd_Spaces_touch_84 ⟨Nat.zero_le _, Nat.zero_le _⟩) hD hS hA (fun H locs hP hD hS => ?_)
        refine lv_aload_n hx hb nd_Spaces_touch_87 rfl (lv_at hl 1 rfl) ?_
        refine va_get (D := (dC, dI)) (ci := 4) (v := .ref (q 1)) (C := RX4) (T := TX4) (N := 4) hx hb hB inB4 hown hK hP 4 rfl rfl 0 (by decide) (hB _ lk_80) (fun _ h9 => h9) rfl nd_Spaces_touch_88 ?_
        refine lv_iconst (v := 4) hx hb nd_Spaces_touch_91 (by decide) ?_
        obtain ⟨r13, σ12, hc, hf⟩ := mi_cw_el hf
        refine ca_i (va_runV (C := "MovedFrames$Frames") (As := [.int (4 : Int32)]) (rest := []) ⟨hx, hb, hml, hown, hB⟩ (kw_Frames_giveOne l dC dI q cI cZ _ σ11 (4 : Int32) r13 σ12 hc) ⟨callB_of 1 hB (gi_ lk_322) rfl rfl rfl (hB _ lk_2) (hB _ lk_418) (by decide +kernel) ⟨Nat.le_of_ble_eq_true rfl, Nat.le_of_ble_eq_true rfl⟩, hB _ lk_320, hB _ lk_321⟩ ⟨bl_, va_recv (ci := 0) (q0 := 1) hK hP rfl rfl, pre_ hP hK hD hN⟩ rfl rfl hl.1 rfl (lv_room (Nat.le_of_ble_eq_true rfl)) nd_Spaces_touch_92 ⟨Nat.zero_le _, Nat.zero_le _⟩) hD hS hA (fun H locs hP hD hS => ?_)
        refine lv_istore_n (lv' := [(3, .int r13), (4, .int r9), (0, .ref (q 4)), (1, .int x1), (2, .int x2)]) hx hb nd_Spaces_touch_95 rfl hl (by decide) rfl (fun ls hl => ?_)
        refine lv_aload_n hx hb nd_Spaces_touch_96 rfl (lv_at hl 2 rfl) ?_
        refine lv_iload hx hb nd_Spaces_touch_97 (lv_at hl 1 rfl) ?_
        refine lv_bipush (v := 16) hx hb nd_Spaces_touch_99 (by decide) ?_
        refine lv_imul hx hb nd_Spaces_touch_101 ?_
        refine lv_iload_n hx hb nd_Spaces_touch_102 rfl (lv_at hl 4 rfl) ?_
        refine lv_bipush (v := 16) hx hb nd_Spaces_touch_103 (by decide) ?_
        refine lv_irem hx hb nd_Spaces_touch_105 (by decide) ?_
        refine lv_iadd hx hb nd_Spaces_touch_106 ?_
        refine lv_iload_n hx hb nd_Spaces_touch_107 rfl (lv_at hl 0 rfl) ?_
        obtain ⟨σ14, hc, hf⟩ := mi_cv_el hf
        refine ca_v (va_runV (C := "MovedFrames$Spaces") (As := [.int ((r9 * (16 : Int32)) + (x2 - x2 / (16 : Int32) * (16 : Int32))), .int r13]) (rest := []) ⟨hx, hb, hml, hown, hB⟩ (kw_Spaces_link l dC dI q cI cZ _ σ12 ((r9 * (16 : Int32)) + (x2 - x2 / (16 : Int32) * (16 : Int32))) r13 σ14 hc) ⟨callB_of 2 hB (gi_ lk_553) rfl rfl rfl (hB _ lk_5) (hB _ lk_550) (by decide +kernel) ⟨Nat.le_of_ble_eq_true rfl, Nat.le_of_ble_eq_true rfl⟩, hB _ lk_552, hB _ ls_20⟩ ⟨bl_, va_recv (ci := 4) (q0 := 4) hK hP rfl rfl, pre_ hP hK hD hN⟩ rfl rfl hl.1 rfl (lv_room (Nat.le_of_ble_eq_true rfl)) nd_Spaces_touch_108 ⟨Nat.zero_le _, Nat.zero_le _⟩) hD hS hA (fun H locs hP hD hS => ?_)
        refine lv_iload_n hx hb nd_Spaces_touch_111 rfl (lv_at hl 0 rfl) ?_
        exact re_i hx hb hr hlocks ((mi_pr hf).1) ((mi_pr hf).2) hP hK hD hS nd_Spaces_touch_112
    · have hf := mi_if_f hc hf
      refine lv_iconst (v := (-1)) hx hb nd_Spaces_touch_52 (by decide) ?_
      exact re_i hx hb hr hlocks ((mi_pr hf).1) ((mi_pr hf).2) hP hK hD hS nd_Spaces_touch_53
  have hH : s.heap = s.heap := rfl
  unfold mc_Spaces_touch at hf
  refine lv_aload_n hx hb nd_Spaces_touch_0 rfl (lv_at hl 0 rfl) ?_
  refine lv_iload_n hx hb nd_Spaces_touch_1 rfl (lv_at hl 1 rfl) ?_
  refine lv_iload_n hx hb nd_Spaces_touch_2 rfl (lv_at hl 2 rfl) ?_
  obtain ⟨r1, hc, hf⟩ := mi_cp_el hf
  refine ca_i (va_runV (C := "MovedFrames$Spaces") (As := [.int z1, .int z2]) (rest := []) ⟨hx, hb, hml, hown, hB⟩ (kw_Spaces_frameOf l dC dI q cI cZ _ σ z1 z2 r1 hc) ⟨callB_of 2 hB (gi_ lk_151) rfl rfl rfl (hB _ lk_5) (hB _ lk_485) (by decide +kernel) ⟨Nat.le_of_ble_eq_true rfl, Nat.le_of_ble_eq_true rfl⟩, hB _ lk_149, hB _ lk_150⟩ ⟨bl_, va_recv (ci := 4) (q0 := 4) hK hP rfl rfl, pre_ hP hK hD hN⟩ rfl rfl hl.1 rfl (lv_room (Nat.le_of_ble_eq_true rfl)) nd_Spaces_touch_3 ⟨Nat.zero_le _, Nat.zero_le _⟩) hD hS hA (fun H locs hP hD hS => ?_)
  refine lv_istore_n (lv' := [(3, .int r1), (0, .ref (q 4)), (1, .int z1), (2, .int z2)]) hx hb nd_Spaces_touch_6 rfl hl (by decide) rfl (fun ls hl => ?_)
  refine lv_iload_n hx hb nd_Spaces_touch_7 rfl (lv_at hl 0 rfl) ?_
  refine lv_iconst (v := (-1)) hx hb nd_Spaces_touch_8 (by decide) ?_
  refine lv_icmp_ne (tgt := 21) hx hb nd_Spaces_touch_9 (by decide) (fun hc => ?_) (fun hc => ?_)
  · have hf := mi_if_f hc hf
    refine lv_iload_n hx hb nd_Spaces_touch_21 rfl (lv_at hl 0 rfl) ?_
    exact re_i hx hb hr hlocks ((mi_pr hf).1) ((mi_pr hf).2) hP hK hD hS nd_Spaces_touch_22
  · have hf := mi_if_t hc hf
    refine lv_aload_n hx hb nd_Spaces_touch_12 rfl (lv_at hl 1 rfl) ?_
    refine lv_iload_n hx hb nd_Spaces_touch_13 rfl (lv_at hl 2 rfl) ?_
    refine lv_iload_n hx hb nd_Spaces_touch_14 rfl (lv_at hl 3 rfl) ?_
    obtain ⟨r2, hc, hf⟩ := mi_cp_el hf
    refine ca_i (va_runV (C := "MovedFrames$Spaces") (As := [.int z1, .int z2]) (rest := []) ⟨hx, hb, hml, hown, hB⟩ (kw_Spaces_isInRegion l dC dI q cI cZ _ σ z1 z2 r2 hc) ⟨callB_of 2 hB (gi_ lk_464) rfl rfl rfl (hB _ lk_5) (hB _ lk_461) (by decide +kernel) ⟨Nat.le_of_ble_eq_true rfl, Nat.le_of_ble_eq_true rfl⟩, hB _ lk_462, hB _ lk_463⟩ ⟨bl_, va_recv (ci := 4) (q0 := 4) hK hP rfl rfl, pre_ hP hK hD hN⟩ rfl rfl hl.1 rfl (lv_room (Nat.le_of_ble_eq_true rfl)) nd_Spaces_touch_15 ⟨Nat.zero_le _, Nat.zero_le _⟩) hD hS hA (fun H locs hP hD hS => ?_)
    refine lv_if_ne (tgt := 23) hx hb nd_Spaces_touch_18 (by decide) (fun hc => ?_) (fun hc => ?_)
    · have hf := mi_if_f hc hf
      refine lv_aload_n hx hb nd_Spaces_touch_23 rfl (lv_at hl 1 rfl) ?_
      refine lv_iload_n hx hb nd_Spaces_touch_24 rfl (lv_at hl 2 rfl) ?_
      refine lv_iload_n hx hb nd_Spaces_touch_25 rfl (lv_at hl 3 rfl) ?_
      obtain ⟨r3, hc, hf⟩ := mi_cp_el hf
      refine ca_i (va_runV (C := "MovedFrames$Spaces") (As := [.int z1, .int z2]) (rest := []) ⟨hx, hb, hml, hown, hB⟩ (kw_Spaces_tableOf l dC dI q cI cZ _ σ z1 z2 r3 hc) ⟨callB_of 2 hB (gi_ lk_155) rfl rfl rfl (hB _ lk_5) (hB _ lk_152) (by decide +kernel) ⟨Nat.le_of_ble_eq_true rfl, Nat.le_of_ble_eq_true rfl⟩, hB _ lk_154, hB _ ls_0⟩ ⟨bl_, va_recv (ci := 4) (q0 := 4) hK hP rfl rfl, pre_ hP hK hD hN⟩ rfl rfl hl.1 rfl (lv_room (Nat.le_of_ble_eq_true rfl)) nd_Spaces_touch_26 ⟨Nat.zero_le _, Nat.zero_le _⟩) hD hS hA (fun H locs hP hD hS => ?_)
      refine lv_istore (lv' := [(4, .int r3), (3, .int r1), (0, .ref (q 4)), (1, .int z1), (2, .int z2)]) hx hb nd_Spaces_touch_29 hl (by decide) rfl (fun ls hl => ?_)
      refine lv_aload_n hx hb nd_Spaces_touch_31 rfl (lv_at hl 2 rfl) ?_
      refine va_get (D := (dC, dI)) (ci := 4) (v := .ref (q 1)) (C := RX4) (T := TX4) (N := 4) hx hb hB inB4 hown hK hP 4 rfl rfl 0 (by decide) (hB _ lk_80) (fun _ h9 => h9) rfl nd_Spaces_touch_32 ?_
      obtain ⟨r4, hc, hf⟩ := mi_cp_el hf
      refine ca_i (va_runV (C := "MovedFrames$Frames") (As := []) (rest := []) ⟨hx, hb, hml, hown, hB⟩ (kw_Frames_countFree l dC dI q cI cZ _ σ r4 hc) ⟨callB_of 0 hB (gi_ lk_200) rfl rfl rfl (hB _ lk_2) (hB _ lk_549) (by decide +kernel) ⟨Nat.le_of_ble_eq_true rfl, Nat.le_of_ble_eq_true rfl⟩, hB _ lk_198, hB _ lk_199⟩ ⟨bl_, va_recv (ci := 0) (q0 := 1) hK hP rfl rfl, pre_ hP hK hD hN⟩ rfl rfl hl.1 rfl (lv_room (Nat.le_of_ble_eq_true rfl)) nd_Spaces_touch_35 ⟨Nat.zero_le _, Nat.zero_le _⟩) hD hS hA (fun H locs hP hD hS => ?_)
      refine lv_iload hx hb nd_Spaces_touch_38 (lv_at hl 0 rfl) ?_
      refine lv_iconst (v := (-1)) hx hb nd_Spaces_touch_40 (by decide) ?_
      refine lv_icmp_ne (tgt := 48) hx hb nd_Spaces_touch_41 (by decide) (fun hc => ?_) (fun hc => ?_)
      · have hf := mi_if_f hc hf
        refine lv_iconst (v := 1) hx hb nd_Spaces_touch_48 (by decide) ?_
        exact B49 z1 z2 r3 r4 (1 : Int32) σ hf _ _ _ (lv_sub hl [2, 3, 4, 0] rfl) hP hD hS
      · have hf := mi_if_t hc hf
        refine lv_iconst (v := 2) hx hb nd_Spaces_touch_44 (by decide) ?_
        refine lv_goto (tgt := 49) hx hb nd_Spaces_touch_45 (by decide) ?_
        exact B49 z1 z2 r3 r4 (2 : Int32) σ hf _ _ _ (lv_sub hl [2, 3, 4, 0] rfl) hP hD hS
    · have hf := mi_if_t hc hf
      refine lv_iload_n hx hb nd_Spaces_touch_21 rfl (lv_at hl 0 rfl) ?_
      exact re_i hx hb hr hlocks ((mi_pr hf).1) ((mi_pr hf).2) hP hK hD hS nd_Spaces_touch_22
abbrev rm_F_placeInSpace : Room := { frames := 7, cells := 0, slots := 0, locals := 110 }
set_option maxHeartbeats 4000000 in
set_option maxRecDepth 100000 in
theorem kw_F_placeInSpace (l : Launch) (dC : Nat → ClassId) (dI : Nat → Nat → Nat) (q : Nat → Nat) (cI cZ : ClassId) (sz : Nat) (σ : CS) (z1 : Int32) (z2 : Int32) (v : Int32) (σ' : CS) (hf : mc_placeInSpace σ z1 z2 = some (v, 0, σ')) : Met l ny_F_placeInSpace nw_F_placeInSpace rm_F_placeInSpace (va_Pc [.ref (q 0), .int z1, .int z2] (pr_ (dC, dI) (wd_C q cI cZ) [(cI, .int), (cZ, .boolean)] sz σ)) (qi_ (dC, dI) (wd_C q cI cZ) [(cI, .int), (cZ, .boolean)] (va_A (wd_C q cI cZ σ) sz) v σ') 0 0 (va_A (wd_C q cI cZ σ) sz) := by
  refine Met.ofW (cc := nb_F_placeInSpace) (maxL := 4) (ret := (some .int)) (by decide) rfl ?_
  intro p e s m args below meth c s₁ B hml hv
  obtain ⟨rfl, hsz, hP, hK, hD0, hN⟩ := hv
  have hx := B.exec
  have hb := B.bytes
  have hr := B.returns
  have hts := atoms_spec (ws := nw_F_placeInSpace) B.pre
  have hB : ∀ w ∈ BG, w.before ([.ref (q 0), .int z1, .int z2] : List Value).toArray s = true := fun w h => hts w (List.mem_cons_of_mem _ h)
  have hown : s.vm.findClass "MovedFrames" = some m.cls := findClass_of_methodNamed B.named
  have hlocks := B.notSynchronized
  subst hsz
  have hD := hD0.self (sz := s.heap.size)
  generalize hAe : va_A (wd_C q cI cZ σ) s.heap.size = A at hD ⊢
  have hA : ∀ q : Nat, s.heap.size ≤ q → A q := fun q h => by rw [← hAe]; exact Or.inr h
  have hS : va_S A s.heap s.heap [] := va_S.rf
  have hl := lv_entry ([.ref (q 0), .int z1, .int z2]) (n := 4) (Nat.le_of_ble_eq_true rfl)
  rw [lg_entry_eq]
  generalize (lg_sl ([.ref (q 0), .int z1, .int z2]) ++ List.replicate (4 - (lg_sl ([.ref (q 0), .int z1, .int z2])).length) Slot.unset).toArray = ls at hl ⊢
  have hl : lv_has ls 4 [(0, .ref (q 0)), (1, .int z1), (2, .int z2)] := hl
  have hH : s.heap = s.heap := rfl
  unfold mc_placeInSpace at hf
  refine lv_iload_n hx hb nd_F_placeInSpace_0 rfl (lv_at hl 2 rfl) ?_
  refine lv_bipush (v := 16) hx hb nd_F_placeInSpace_1 (by decide) ?_
  obtain ⟨r1, hc, hf⟩ := mi_cp_el hf
  refine ca_i (va_runS (As := [.int z2, .int (16 : Int32)]) (rest := []) ⟨hx, hb, hml, hown, hB⟩ (kw_JM_floorDiv l dC dI q cI cZ _ σ z2 (16 : Int32) r1 hc) ⟨callB_of 2 hB (gi_ lk_533) rfl rfl rfl (hB _ lk_15) (hB _ lk_542) (by decide +kernel) ⟨Nat.le_of_ble_eq_true rfl, Nat.le_of_ble_eq_true rfl⟩, hB _ lk_532⟩ ⟨bl_, pre_ hP hK hD hN⟩ rfl rfl hl.1 rfl (lv_room (Nat.le_of_ble_eq_true rfl)) nd_F_placeInSpace_3 ⟨Nat.zero_le _, Nat.zero_le _⟩) hD hS hA (fun H locs hP hD hS => ?_)
  refine lv_istore_n (lv' := [(3, .int r1), (0, .ref (q 0)), (1, .int z1), (2, .int z2)]) hx hb nd_F_placeInSpace_6 rfl hl (by decide) rfl (fun ls hl => ?_)
  refine lv_aload_n hx hb nd_F_placeInSpace_7 rfl (lv_at hl 1 rfl) ?_
  refine va_get (D := (dC, dI)) (ci := 5) (v := .ref (q 4)) (C := RX5) (T := TX5) (N := 5) hx hb hB inB5 hown hK hP 0 rfl rfl 3 (by decide) (hB _ lk_116) (fun _ h9 => h9) rfl nd_F_placeInSpace_8 ?_
  refine lv_iload_n hx hb nd_F_placeInSpace_11 rfl (lv_at hl 2 rfl) ?_
  refine lv_iload_n hx hb nd_F_placeInSpace_12 rfl (lv_at hl 0 rfl) ?_
  obtain ⟨r2, hc, hf⟩ := mi_cp_el hf
  refine ca_i (va_runV (C := "MovedFrames$Spaces") (As := [.int z1, .int r1]) (rest := []) ⟨hx, hb, hml, hown, hB⟩ (kw_Spaces_isInRegion l dC dI q cI cZ _ σ z1 r1 r2 hc) ⟨callB_of 2 hB (gi_ lk_464) rfl rfl rfl (hB _ lk_5) (hB _ lk_543) (by decide +kernel) ⟨Nat.le_of_ble_eq_true rfl, Nat.le_of_ble_eq_true rfl⟩, hB _ lk_462, hB _ lk_463⟩ ⟨bl_, va_recv (ci := 4) (q0 := 4) hK hP rfl rfl, pre_ hP hK hD hN⟩ rfl rfl hl.1 rfl (lv_room (Nat.le_of_ble_eq_true rfl)) nd_F_placeInSpace_13 ⟨Nat.zero_le _, Nat.zero_le _⟩) hD hS hA (fun H locs hP hD hS => ?_)
  refine lv_if_ne (tgt := 29) hx hb nd_F_placeInSpace_16 (by decide) (fun hc => ?_) (fun hc => ?_)
  · have hf := mi_if_f hc hf
    refine lv_aload_n hx hb nd_F_placeInSpace_29 rfl (lv_at hl 1 rfl) ?_
    refine va_get (D := (dC, dI)) (ci := 5) (v := .ref (q 4)) (C := RX5) (T := TX5) (N := 5) hx hb hB inB5 hown hK hP 0 rfl rfl 3 (by decide) (hB _ lk_116) (fun _ h9 => h9) rfl nd_F_placeInSpace_30 ?_
    refine lv_iload_n hx hb nd_F_placeInSpace_33 rfl (lv_at hl 2 rfl) ?_
    refine lv_iload_n hx hb nd_F_placeInSpace_34 rfl (lv_at hl 0 rfl) ?_
    obtain ⟨r4, σ3, hc, hf⟩ := mi_cw_el hf
    refine ca_i (va_runV (C := "MovedFrames$Spaces") (As := [.int z1, .int r1]) (rest := []) ⟨hx, hb, hml, hown, hB⟩ (kw_Spaces_touch l dC dI q cI cZ _ σ z1 r1 r4 σ3 hc) ⟨callB_of 2 hB (gi_ lk_548) rfl rfl rfl (hB _ lk_5) (hB _ lk_545) (by decide +kernel) ⟨Nat.le_of_ble_eq_true rfl, Nat.le_of_ble_eq_true rfl⟩, hB _ lk_546, hB _ lk_547⟩ ⟨bl_, va_recv (ci := 4) (q0 := 4) hK hP rfl rfl, pre_ hP hK hD hN⟩ rfl rfl hl.1 rfl (lv_room (Nat.le_of_ble_eq_true rfl)) nd_F_placeInSpace_35 ⟨Nat.zero_le _, Nat.zero_le _⟩) hD hS hA (fun H locs hP hD hS => ?_)
    obtain ⟨r5, n9, hc, hq⟩ := mi_tq_el hf
    rcases hq with ⟨h9, hf⟩ | ⟨h9, hf⟩
    · subst h9
      refine ca_i (va_runS (As := [.int r4]) (rest := []) ⟨hx, hb, hml, hown, hB⟩ (kw_F_orNotEnough l dC dI q cI cZ _ σ3 r4 r5 hc) ⟨callB_of 1 hB (gi_ lk_341) rfl rfl rfl (hB _ lk_1) (hB _ lk_339) (by decide +kernel) ⟨Nat.le_of_ble_eq_true rfl, Nat.le_of_ble_eq_true rfl⟩, hB _ lk_340⟩ ⟨bl_, pre_ hP hK hD hN⟩ rfl rfl hl.1 rfl (lv_room (Nat.le_of_ble_eq_true rfl)) nd_F_placeInSpace_38 ⟨Nat.zero_le _, Nat.zero_le _⟩) hD hS hA (fun H locs hP hD hS => ?_)
      refine lv_bipush (v := 16) hx hb nd_F_placeInSpace_41 (by decide) ?_
      refine lv_imul hx hb nd_F_placeInSpace_43 ?_
      refine lv_iload_n hx hb nd_F_placeInSpace_44 rfl (lv_at hl 3 rfl) ?_
      refine lv_bipush (v := 16) hx hb nd_F_placeInSpace_45 (by decide) ?_
      obtain ⟨r6, hc, hf⟩ := mi_cp_el hf
      refine ca_i (va_runS (As := [.int z2, .int (16 : Int32)]) (rest := [.int (r5 * (16 : Int32))]) ⟨hx, hb, hml, hown, hB⟩ (kw_JM_floorMod l dC dI q cI cZ _ σ3 z2 (16 : Int32) r6 hc) ⟨callB_of 2 hB (gi_ lk_537) rfl rfl rfl (hB _ lk_15) (hB _ lk_555) (by decide +kernel) ⟨Nat.le_of_ble_eq_true rfl, Nat.le_of_ble_eq_true rfl⟩, hB _ lk_536⟩ ⟨bl_, pre_ hP hK hD hN⟩ rfl rfl hl.1 rfl (lv_room (Nat.le_of_ble_eq_true rfl)) nd_F_placeInSpace_47 ⟨Nat.zero_le _, Nat.zero_le _⟩) hD hS hA (fun H locs hP hD hS => ?_)
      refine lv_iadd hx hb nd_F_placeInSpace_50 ?_
      exact re_i hx hb hr hlocks ((mi_t3 hf).1) ((mi_t3 hf).2.2) hP hK hD hS nd_F_placeInSpace_51
    · exact absurd (congrArg (fun z => z.2.1) hf).symm h9
  · have hf := mi_if_t hc hf
    exact absurd (mi_t3 hf).2.1 (by decide)
abbrev rt_F_placeInSpace : Room := { frames := 7, cells := 1, slots := 6, locals := 110 }
set_option maxHeartbeats 4000000 in
set_option maxRecDepth 100000 in
theorem kt_F_placeInSpace (l : Launch) (dC : Nat → ClassId) (dI : Nat → Nat → Nat) (q : Nat → Nat) (cI cZ : ClassId) (sz : Nat) (σ : CS) (z1 : Int32) (z2 : Int32) (v : Int32) (n : Nat) (σ' : CS) (htr : l.stackTraces = false) (hn : ¬ n = 0) (hf : mc_placeInSpace σ z1 z2 = some (v, n, σ')) : vx_Met l ny_F_placeInSpace nw_F_placeInSpace rt_F_placeInSpace (va_Pc [.ref (q 0), .int z1, .int z2] (prx_ (dC, dI) (wd_C q cI cZ) [(cI, .int), (cZ, .boolean)] sz σ)) (fi_ (dC, dI) (wd_C q cI cZ) [(cI, .int), (cZ, .boolean)] (va_A (wd_C q cI cZ σ) sz)) (xx_ (dC, dI) (wd_C q cI cZ) [(cI, .int), (cZ, .boolean)] (va_A (wd_C q cI cZ σ) sz) n σ') 1 6 (va_A (wd_C q cI cZ σ) sz) := by
  refine vx_ofW (cc := nb_F_placeInSpace) (maxL := 4) (ret := (some .int)) (by decide) rfl ?_
  intro p e s m args below meth c s₁ B hml hno hv
  obtain ⟨rfl, ⟨hsz, hP, hK, hD0, hN⟩, hT, hZ⟩ := hv
  have hx := B.exec
  have hb := B.bytes
  have hr := B.returns
  have hts := atoms_spec (ws := nw_F_placeInSpace) B.pre
  have hB : ∀ w ∈ BG, w.before ([.ref (q 0), .int z1, .int z2] : List Value).toArray s = true := fun w h => hts w (List.mem_cons_of_mem _ h)
  have hown : s.vm.findClass "MovedFrames" = some m.cls := findClass_of_methodNamed B.named
  have hlocks := B.notSynchronized
  subst hsz
  have hD := hD0.self (sz := s.heap.size)
  generalize hAe : va_A (wd_C q cI cZ σ) s.heap.size = A at hD hZ ⊢
  have hA : ∀ q : Nat, s.heap.size ≤ q → A q := fun q h => by rw [← hAe]; exact Or.inr h
  have hS : va_S A s.heap s.heap [] := va_S.rf
  have hl := lv_entry ([.ref (q 0), .int z1, .int z2]) (n := 4) (Nat.le_of_ble_eq_true rfl)
  rw [lg_entry_eq]
  generalize (lg_sl ([.ref (q 0), .int z1, .int z2]) ++ List.replicate (4 - (lg_sl ([.ref (q 0), .int z1, .int z2])).length) Slot.unset).toArray = ls at hl ⊢
  have hl : lv_has ls 4 [(0, .ref (q 0)), (1, .int z1), (2, .int z2)] := hl
  have hH : s.heap = s.heap := rfl
  unfold mc_placeInSpace at hf
  refine lv_iload_n hx hb nd_F_placeInSpace_0 rfl (lv_at hl 2 rfl) ?_
  refine lv_bipush (v := 16) hx hb nd_F_placeInSpace_1 (by decide) ?_
  obtain ⟨r1, hc, hf⟩ := mi_cp_el hf
  refine ca_i (va_runS (As := [.int z2, .int (16 : Int32)]) (rest := []) ⟨hx, hb, hml, hown, hB⟩ (kw_JM_floorDiv l dC dI q cI cZ _ σ z2 (16 : Int32) r1 hc) ⟨callB_of 2 hB (gi_ lk_533) rfl rfl rfl (hB _ lk_15) (hB _ lk_542) (by decide +kernel) ⟨Nat.le_of_ble_eq_true rfl, Nat.le_of_ble_eq_true rfl⟩, hB _ lk_532⟩ ⟨bl_, pre_ hP hK hD hN⟩ rfl rfl hl.1 rfl (lv_room (Nat.le_of_ble_eq_true rfl)) nd_F_placeInSpace_3 ⟨Nat.zero_le _, Nat.zero_le _⟩) hD hS hA (fun H locs hP hD hS => ?_)
  refine lv_istore_n (lv' := [(3, .int r1), (0, .ref (q 0)), (1, .int z1), (2, .int z2)]) hx hb nd_F_placeInSpace_6 rfl hl (by decide) rfl (fun ls hl => ?_)
  refine lv_aload_n hx hb nd_F_placeInSpace_7 rfl (lv_at hl 1 rfl) ?_
  refine va_get (D := (dC, dI)) (ci := 5) (v := .ref (q 4)) (C := RX5) (T := TX5) (N := 5) hx hb hB inB5 hown hK hP 0 rfl rfl 3 (by decide) (hB _ lk_116) (fun _ h9 => h9) rfl nd_F_placeInSpace_8 ?_
  refine lv_iload_n hx hb nd_F_placeInSpace_11 rfl (lv_at hl 2 rfl) ?_
  refine lv_iload_n hx hb nd_F_placeInSpace_12 rfl (lv_at hl 0 rfl) ?_
  obtain ⟨r2, hc, hf⟩ := mi_cp_el hf
  refine ca_i (va_runV (C := "MovedFrames$Spaces") (As := [.int z1, .int r1]) (rest := []) ⟨hx, hb, hml, hown, hB⟩ (kw_Spaces_isInRegion l dC dI q cI cZ _ σ z1 r1 r2 hc) ⟨callB_of 2 hB (gi_ lk_464) rfl rfl rfl (hB _ lk_5) (hB _ lk_543) (by decide +kernel) ⟨Nat.le_of_ble_eq_true rfl, Nat.le_of_ble_eq_true rfl⟩, hB _ lk_462, hB _ lk_463⟩ ⟨bl_, va_recv (ci := 4) (q0 := 4) hK hP rfl rfl, pre_ hP hK hD hN⟩ rfl rfl hl.1 rfl (lv_room (Nat.le_of_ble_eq_true rfl)) nd_F_placeInSpace_13 ⟨Nat.zero_le _, Nat.zero_le _⟩) hD hS hA (fun H locs hP hD hS => ?_)
  refine lv_if_ne (tgt := 29) hx hb nd_F_placeInSpace_16 (by decide) (fun hc => ?_) (fun hc => ?_)
  · have hf := mi_if_f hc hf
    refine lv_aload_n hx hb nd_F_placeInSpace_29 rfl (lv_at hl 1 rfl) ?_
    refine va_get (D := (dC, dI)) (ci := 5) (v := .ref (q 4)) (C := RX5) (T := TX5) (N := 5) hx hb hB inB5 hown hK hP 0 rfl rfl 3 (by decide) (hB _ lk_116) (fun _ h9 => h9) rfl nd_F_placeInSpace_30 ?_
    refine lv_iload_n hx hb nd_F_placeInSpace_33 rfl (lv_at hl 2 rfl) ?_
    refine lv_iload_n hx hb nd_F_placeInSpace_34 rfl (lv_at hl 0 rfl) ?_
    obtain ⟨r4, σ3, hc, hf⟩ := mi_cw_el hf
    refine ca_i (va_runV (C := "MovedFrames$Spaces") (As := [.int z1, .int r1]) (rest := []) ⟨hx, hb, hml, hown, hB⟩ (kw_Spaces_touch l dC dI q cI cZ _ σ z1 r1 r4 σ3 hc) ⟨callB_of 2 hB (gi_ lk_548) rfl rfl rfl (hB _ lk_5) (hB _ lk_545) (by decide +kernel) ⟨Nat.le_of_ble_eq_true rfl, Nat.le_of_ble_eq_true rfl⟩, hB _ lk_546, hB _ lk_547⟩ ⟨bl_, va_recv (ci := 4) (q0 := 4) hK hP rfl rfl, pre_ hP hK hD hN⟩ rfl rfl hl.1 rfl (lv_room (Nat.le_of_ble_eq_true rfl)) nd_F_placeInSpace_35 ⟨Nat.zero_le _, Nat.zero_le _⟩) hD hS hA (fun H locs hP hD hS => ?_)
    obtain ⟨r5, n9, hc, hq⟩ := mi_tq_el hf
    rcases hq with ⟨h9, hf⟩ | ⟨h9, hf⟩
    · subst h9
      refine ca_i (va_runS (As := [.int r4]) (rest := []) ⟨hx, hb, hml, hown, hB⟩ (kw_F_orNotEnough l dC dI q cI cZ _ σ3 r4 r5 hc) ⟨callB_of 1 hB (gi_ lk_341) rfl rfl rfl (hB _ lk_1) (hB _ lk_339) (by decide +kernel) ⟨Nat.le_of_ble_eq_true rfl, Nat.le_of_ble_eq_true rfl⟩, hB _ lk_340⟩ ⟨bl_, pre_ hP hK hD hN⟩ rfl rfl hl.1 rfl (lv_room (Nat.le_of_ble_eq_true rfl)) nd_F_placeInSpace_38 ⟨Nat.zero_le _, Nat.zero_le _⟩) hD hS hA (fun H locs hP hD hS => ?_)
      refine lv_bipush (v := 16) hx hb nd_F_placeInSpace_41 (by decide) ?_
      refine lv_imul hx hb nd_F_placeInSpace_43 ?_
      refine lv_iload_n hx hb nd_F_placeInSpace_44 rfl (lv_at hl 3 rfl) ?_
      refine lv_bipush (v := 16) hx hb nd_F_placeInSpace_45 (by decide) ?_
      obtain ⟨r6, hc, hf⟩ := mi_cp_el hf
      refine ca_i (va_runS (As := [.int z2, .int (16 : Int32)]) (rest := [.int (r5 * (16 : Int32))]) ⟨hx, hb, hml, hown, hB⟩ (kw_JM_floorMod l dC dI q cI cZ _ σ3 z2 (16 : Int32) r6 hc) ⟨callB_of 2 hB (gi_ lk_537) rfl rfl rfl (hB _ lk_15) (hB _ lk_555) (by decide +kernel) ⟨Nat.le_of_ble_eq_true rfl, Nat.le_of_ble_eq_true rfl⟩, hB _ lk_536⟩ ⟨bl_, pre_ hP hK hD hN⟩ rfl rfl hl.1 rfl (lv_room (Nat.le_of_ble_eq_true rfl)) nd_F_placeInSpace_47 ⟨Nat.zero_le _, Nat.zero_le _⟩) hD hS hA (fun H locs hP hD hS => ?_)
      refine lv_iadd hx hb nd_F_placeInSpace_50 ?_
      exact absurd (mi_t3 hf).2.1.symm hn
    · obtain ⟨-, hm, hs9⟩ := mi_t3 (congrArg some hf)
      have hm := hm.symm
      subst hm
      have hs9 := hs9.symm
      subst hs9
      exact cx_i (vx_runS (As := [.int r4]) (rest := []) ⟨hx, hb, hml, hown, hB⟩ (kt_F_orNotEnough l dC dI q cI cZ _ σ3 r4 r5 n9 htr h9 hc) ⟨callB_of 1 hB (gi_ lk_341) rfl rfl rfl (hB _ lk_1) (hB _ lk_339) (by decide +kernel) ⟨Nat.le_of_ble_eq_true rfl, Nat.le_of_ble_eq_true rfl⟩, hB _ lk_340⟩ ⟨blx_, prex_ hP hK hD hN hT hZ hS hA⟩ rfl rfl hl.1 rfl (lv_room (Nat.le_of_ble_eq_true rfl)) nd_F_placeInSpace_38 ⟨Nat.le_of_ble_eq_true rfl, Nat.le_of_ble_eq_true rfl⟩) hno hlocks hK hD hS hA
  · have hf := mi_if_t hc hf
    have hm := mi_t3 hf
    exact th_ (text := "the page is in no region") hx hb htr hown (by decide) (by decide) (hB _ lk_511) (hB _ lk_14) hT.2.2.2.2.2.2.2.2.2.1 (sa_MovedFrames_173 hB hT) sg_MovedFrames_173 hZ hP hK hD hS (hl.1.trans hml.symm) nd_F_placeInSpace_19 nd_F_placeInSpace_22 nd_F_placeInSpace_23 nd_F_placeInSpace_25 nd_F_placeInSpace_28 hno (Nat.le_of_ble_eq_true rfl) (Nat.le_of_ble_eq_true rfl) (Nat.le_of_ble_eq_true rfl) (Nat.le_of_ble_eq_true rfl) hlocks hn (by rw [← hm.2.1]; rfl) hm.2.2
abbrev rm_F_placeOf : Room := { frames := 8, cells := 0, slots := 0, locals := 133 }
set_option maxHeartbeats 4000000 in
set_option maxRecDepth 100000 in
theorem kw_F_placeOf (l : Launch) (dC : Nat → ClassId) (dI : Nat → Nat → Nat) (q : Nat → Nat) (cI cZ : ClassId) (sz : Nat) (σ : CS) (z1 : Int32) (z2 : Int32) (v : Int32) (σ' : CS) (hf : mc_placeOf σ z1 z2 = some (v, 0, σ')) : Met l ny_F_placeOf nw_F_placeOf rm_F_placeOf (va_Pc [.ref (q 0), .int z1, .int z2] (pr_ (dC, dI) (wd_C q cI cZ) [(cI, .int), (cZ, .boolean)] sz σ)) (qi_ (dC, dI) (wd_C q cI cZ) [(cI, .int), (cZ, .boolean)] (va_A (wd_C q cI cZ σ) sz) v σ') 0 0 (va_A (wd_C q cI cZ σ) sz) := by
  refine Met.ofW (cc := nb_F_placeOf) (maxL := 3) (ret := (some .int)) (by decide) rfl ?_
  intro p e s m args below meth c s₁ B hml hv
  obtain ⟨rfl, hsz, hP, hK, hD0, hN⟩ := hv
  have hx := B.exec
  have hb := B.bytes
  have hr := B.returns
  have hts := atoms_spec (ws := nw_F_placeOf) B.pre
  have hB : ∀ w ∈ BG, w.before ([.ref (q 0), .int z1, .int z2] : List Value).toArray s = true := fun w h => hts w (List.mem_cons_of_mem _ h)
  have hown : s.vm.findClass "MovedFrames" = some m.cls := findClass_of_methodNamed B.named
  have hlocks := B.notSynchronized
  subst hsz
  have hD := hD0.self (sz := s.heap.size)
  generalize hAe : va_A (wd_C q cI cZ σ) s.heap.size = A at hD ⊢
  have hA : ∀ q : Nat, s.heap.size ≤ q → A q := fun q h => by rw [← hAe]; exact Or.inr h
  have hS : va_S A s.heap s.heap [] := va_S.rf
  have hl := lv_entry ([.ref (q 0), .int z1, .int z2]) (n := 3) (Nat.le_of_ble_eq_true rfl)
  rw [lg_entry_eq]
  generalize (lg_sl ([.ref (q 0), .int z1, .int z2]) ++ List.replicate (3 - (lg_sl ([.ref (q 0), .int z1, .int z2])).length) Slot.unset).toArray = ls at hl ⊢
  have hl : lv_has ls 3 [(0, .ref (q 0)), (1, .int z1), (2, .int z2)] := hl
  have hH : s.heap = s.heap := rfl
  unfold mc_placeOf at hf
  refine lv_iload_n hx hb nd_F_placeOf_0 rfl (lv_at hl 1 rfl) ?_
  refine lv_iconst (v := (-1)) hx hb nd_F_placeOf_1 (by decide) ?_
  refine lv_icmp_ne (tgt := 17) hx hb nd_F_placeOf_2 (by decide) (fun hc => ?_) (fun hc => ?_)
  · have hf := mi_if_f hc hf
    refine lv_iload_n hx hb nd_F_placeOf_17 rfl (lv_at hl 1 rfl) ?_
    refine lv_bipush (v := (-2)) hx hb nd_F_placeOf_18 (by decide) ?_
    refine lv_icmp_ne (tgt := 35) hx hb nd_F_placeOf_20 (by decide) (fun hc => ?_) (fun hc => ?_)
    · have hf := mi_if_f hc hf
      refine lv_aload_n hx hb nd_F_placeOf_35 rfl (lv_at hl 0 rfl) ?_
      refine lv_iload_n hx hb nd_F_placeOf_36 rfl (lv_at hl 1 rfl) ?_
      obtain ⟨r7, n9, hc, hq⟩ := mi_tq_el hf
      rcases hq with ⟨h9, hf⟩ | ⟨h9, hf⟩
      · subst h9
        refine ca_v (va_runV (C := "MovedFrames") (As := [.int z1]) (rest := []) ⟨hx, hb, hml, hown, hB⟩ (kw_F_checkSpace l dC dI q cI cZ _ σ z1 r7 hc) ⟨callB_of 1 hB (gi_ lk_453) rfl rfl rfl (hB _ lk_1) (hB _ lk_450) (by decide +kernel) ⟨Nat.le_of_ble_eq_true rfl, Nat.le_of_ble_eq_true rfl⟩, hB _ lk_452, hB _ ls_14⟩ ⟨bl_, va_recv (ci := 5) (q0 := 0) hK hP rfl rfl, pre_ hP hK hD hN⟩ rfl rfl hl.1 rfl (lv_room (Nat.le_of_ble_eq_true rfl)) nd_F_placeOf_37 ⟨Nat.zero_le _, Nat.zero_le _⟩) hD hS hA (fun H locs hP hD hS => ?_)
        refine lv_aload_n hx hb nd_F_placeOf_40 rfl (lv_at hl 0 rfl) ?_
        refine lv_iload_n hx hb nd_F_placeOf_41 rfl (lv_at hl 1 rfl) ?_
        refine lv_iload_n hx hb nd_F_placeOf_42 rfl (lv_at hl 2 rfl) ?_
        obtain ⟨r2, n9, σ1, hc, hq⟩ := mi_tw_el hf
        rcases hq with ⟨h9, hf⟩ | ⟨h9, hf⟩
        · subst h9
          refine ca_i (va_runV (C := "MovedFrames") (As := [.int z1, .int z2]) (rest := []) ⟨hx, hb, hml, hown, hB⟩ (kw_F_placeInSpace l dC dI q cI cZ _ σ z1 z2 r2 σ1 hc) ⟨callB_of 2 hB (gi_ lk_541) rfl rfl rfl (hB _ lk_1) (hB _ lk_538) (by decide +kernel) ⟨Nat.le_of_ble_eq_true rfl, Nat.le_of_ble_eq_true rfl⟩, hB _ lk_540, hB _ ls_19⟩ ⟨bl_, va_recv (ci := 5) (q0 := 0) hK hP rfl rfl, pre_ hP hK hD hN⟩ rfl rfl hl.1 rfl (lv_room (Nat.le_of_ble_eq_true rfl)) nd_F_placeOf_43 ⟨Nat.zero_le _, Nat.zero_le _⟩) hD hS hA (fun H locs hP hD hS => ?_)
          exact re_i hx hb hr hlocks ((mi_t3 hf).1) ((mi_t3 hf).2.2) hP hK hD hS nd_F_placeOf_46
        · exact absurd (congrArg (fun z => z.2.1) hf).symm h9
      · exact absurd (congrArg (fun z => z.2.1) hf).symm h9
    · have hf := mi_if_t hc hf
      refine lv_aload_n hx hb nd_F_placeOf_23 rfl (lv_at hl 0 rfl) ?_
      refine va_get (D := (dC, dI)) (ci := 5) (v := .ref (q 3)) (C := RX5) (T := TX5) (N := 5) hx hb hB inB5 hown hK hP 0 rfl rfl 2 (by decide) (hB _ lk_115) (fun _ h9 => h9) rfl nd_F_placeOf_24 ?_
      refine lv_iload_n hx hb nd_F_placeOf_27 rfl (lv_at hl 2 rfl) ?_
      obtain ⟨r3, hc, hf⟩ := mi_cp_el hf
      refine ca_i (va_runV (C := "MovedFrames$Ranges") (As := [.int z2]) (rest := []) ⟨hx, hb, hml, hown, hB⟩ (kw_Ranges_placeAt l dC dI q cI cZ _ σ z2 r3 hc) ⟨callB_of 1 hB (gi_ lk_530) rfl rfl rfl (hB _ lk_4) (hB _ lk_527) (by decide +kernel) ⟨Nat.le_of_ble_eq_true rfl, Nat.le_of_ble_eq_true rfl⟩, hB _ lk_528, hB _ lk_529⟩ ⟨bl_, va_recv (ci := 1) (q0 := 3) hK hP rfl rfl, pre_ hP hK hD hN⟩ rfl rfl hl.1 rfl (lv_room (Nat.le_of_ble_eq_true rfl)) nd_F_placeOf_28 ⟨Nat.zero_le _, Nat.zero_le _⟩) hD hS hA (fun H locs hP hD hS => ?_)
      obtain ⟨r4, n9, hc, hq⟩ := mi_tq_el hf
      rcases hq with ⟨h9, hf⟩ | ⟨h9, hf⟩
      · subst h9
        refine ca_i (va_runS (As := [.int r3]) (rest := []) ⟨hx, hb, hml, hown, hB⟩ (kw_F_orFault l dC dI q cI cZ _ σ r3 r4 hc) ⟨callB_of 1 hB (gi_ lk_510) rfl rfl rfl (hB _ lk_1) (hB _ lk_508) (by decide +kernel) ⟨Nat.le_of_ble_eq_true rfl, Nat.le_of_ble_eq_true rfl⟩, hB _ lk_509⟩ ⟨bl_, pre_ hP hK hD hN⟩ rfl rfl hl.1 rfl (lv_room (Nat.le_of_ble_eq_true rfl)) nd_F_placeOf_31 ⟨Nat.zero_le _, Nat.zero_le _⟩) hD hS hA (fun H locs hP hD hS => ?_)
        exact re_i hx hb hr hlocks ((mi_t3 hf).1) ((mi_t3 hf).2.2) hP hK hD hS nd_F_placeOf_34
      · exact absurd (congrArg (fun z => z.2.1) hf).symm h9
  · have hf := mi_if_t hc hf
    refine lv_aload_n hx hb nd_F_placeOf_5 rfl (lv_at hl 0 rfl) ?_
    refine va_get (D := (dC, dI)) (ci := 5) (v := .ref (q 2)) (C := RX5) (T := TX5) (N := 5) hx hb hB inB5 hown hK hP 0 rfl rfl 1 (by decide) (hB _ lk_114) (fun _ h9 => h9) rfl nd_F_placeOf_6 ?_
    refine lv_iload_n hx hb nd_F_placeOf_9 rfl (lv_at hl 2 rfl) ?_
    obtain ⟨r5, hc, hf⟩ := mi_cp_el hf
    refine ca_i (va_runV (C := "MovedFrames$Slabs") (As := [.int z2]) (rest := []) ⟨hx, hb, hml, hown, hB⟩ (kw_Slabs_placeAt l dC dI q cI cZ _ σ z2 r5 hc) ⟨callB_of 1 hB (gi_ lk_310) rfl rfl rfl (hB _ lk_3) (hB _ lk_507) (by decide +kernel) ⟨Nat.le_of_ble_eq_true rfl, Nat.le_of_ble_eq_true rfl⟩, hB _ lk_308, hB _ lk_309⟩ ⟨bl_, va_recv (ci := 3) (q0 := 2) hK hP rfl rfl, pre_ hP hK hD hN⟩ rfl rfl hl.1 rfl (lv_room (Nat.le_of_ble_eq_true rfl)) nd_F_placeOf_10 ⟨Nat.zero_le _, Nat.zero_le _⟩) hD hS hA (fun H locs hP hD hS => ?_)
    obtain ⟨r6, n9, hc, hq⟩ := mi_tq_el hf
    rcases hq with ⟨h9, hf⟩ | ⟨h9, hf⟩
    · subst h9
      refine ca_i (va_runS (As := [.int r5]) (rest := []) ⟨hx, hb, hml, hown, hB⟩ (kw_F_orFault l dC dI q cI cZ _ σ r5 r6 hc) ⟨callB_of 1 hB (gi_ lk_510) rfl rfl rfl (hB _ lk_1) (hB _ lk_508) (by decide +kernel) ⟨Nat.le_of_ble_eq_true rfl, Nat.le_of_ble_eq_true rfl⟩, hB _ lk_509⟩ ⟨bl_, pre_ hP hK hD hN⟩ rfl rfl hl.1 rfl (lv_room (Nat.le_of_ble_eq_true rfl)) nd_F_placeOf_13 ⟨Nat.zero_le _, Nat.zero_le _⟩) hD hS hA (fun H locs hP hD hS => ?_)
      exact re_i hx hb hr hlocks ((mi_t3 hf).1) ((mi_t3 hf).2.2) hP hK hD hS nd_F_placeOf_16
    · exact absurd (congrArg (fun z => z.2.1) hf).symm h9
abbrev rt_F_placeOf : Room := { frames := 8, cells := 1, slots := 6, locals := 133 }
set_option maxHeartbeats 4000000 in
set_option maxRecDepth 100000 in
theorem kt_F_placeOf (l : Launch) (dC : Nat → ClassId) (dI : Nat → Nat → Nat) (q : Nat → Nat) (cI cZ : ClassId) (sz : Nat) (σ : CS) (z1 : Int32) (z2 : Int32) (v : Int32) (n : Nat) (σ' : CS) (htr : l.stackTraces = false) (hn : ¬ n = 0) (hf : mc_placeOf σ z1 z2 = some (v, n, σ')) : vx_Met l ny_F_placeOf nw_F_placeOf rt_F_placeOf (va_Pc [.ref (q 0), .int z1, .int z2] (prx_ (dC, dI) (wd_C q cI cZ) [(cI, .int), (cZ, .boolean)] sz σ)) (fi_ (dC, dI) (wd_C q cI cZ) [(cI, .int), (cZ, .boolean)] (va_A (wd_C q cI cZ σ) sz)) (xx_ (dC, dI) (wd_C q cI cZ) [(cI, .int), (cZ, .boolean)] (va_A (wd_C q cI cZ σ) sz) n σ') 1 6 (va_A (wd_C q cI cZ σ) sz) := by
  refine vx_ofW (cc := nb_F_placeOf) (maxL := 3) (ret := (some .int)) (by decide) rfl ?_
  intro p e s m args below meth c s₁ B hml hno hv
  obtain ⟨rfl, ⟨hsz, hP, hK, hD0, hN⟩, hT, hZ⟩ := hv
  have hx := B.exec
  have hb := B.bytes
  have hr := B.returns
  have hts := atoms_spec (ws := nw_F_placeOf) B.pre
  have hB : ∀ w ∈ BG, w.before ([.ref (q 0), .int z1, .int z2] : List Value).toArray s = true := fun w h => hts w (List.mem_cons_of_mem _ h)
  have hown : s.vm.findClass "MovedFrames" = some m.cls := findClass_of_methodNamed B.named
  have hlocks := B.notSynchronized
  subst hsz
  have hD := hD0.self (sz := s.heap.size)
  generalize hAe : va_A (wd_C q cI cZ σ) s.heap.size = A at hD hZ ⊢
  have hA : ∀ q : Nat, s.heap.size ≤ q → A q := fun q h => by rw [← hAe]; exact Or.inr h
  have hS : va_S A s.heap s.heap [] := va_S.rf
  have hl := lv_entry ([.ref (q 0), .int z1, .int z2]) (n := 3) (Nat.le_of_ble_eq_true rfl)
  rw [lg_entry_eq]
  generalize (lg_sl ([.ref (q 0), .int z1, .int z2]) ++ List.replicate (3 - (lg_sl ([.ref (q 0), .int z1, .int z2])).length) Slot.unset).toArray = ls at hl ⊢
  have hl : lv_has ls 3 [(0, .ref (q 0)), (1, .int z1), (2, .int z2)] := hl
  have hH : s.heap = s.heap := rfl
  unfold mc_placeOf at hf
  refine lv_iload_n hx hb nd_F_placeOf_0 rfl (lv_at hl 1 rfl) ?_
  refine lv_iconst (v := (-1)) hx hb nd_F_placeOf_1 (by decide) ?_
  refine lv_icmp_ne (tgt := 17) hx hb nd_F_placeOf_2 (by decide) (fun hc => ?_) (fun hc => ?_)
  · have hf := mi_if_f hc hf
    refine lv_iload_n hx hb nd_F_placeOf_17 rfl (lv_at hl 1 rfl) ?_
    refine lv_bipush (v := (-2)) hx hb nd_F_placeOf_18 (by decide) ?_
    refine lv_icmp_ne (tgt := 35) hx hb nd_F_placeOf_20 (by decide) (fun hc => ?_) (fun hc => ?_)
    · have hf := mi_if_f hc hf
      refine lv_aload_n hx hb nd_F_placeOf_35 rfl (lv_at hl 0 rfl) ?_
      refine lv_iload_n hx hb nd_F_placeOf_36 rfl (lv_at hl 1 rfl) ?_
      obtain ⟨r7, n9, hc, hq⟩ := mi_tq_el hf
      rcases hq with ⟨h9, hf⟩ | ⟨h9, hf⟩
      · subst h9
        refine ca_v (va_runV (C := "MovedFrames") (As := [.int z1]) (rest := []) ⟨hx, hb, hml, hown, hB⟩ (kw_F_checkSpace l dC dI q cI cZ _ σ z1 r7 hc) ⟨callB_of 1 hB (gi_ lk_453) rfl rfl rfl (hB _ lk_1) (hB _ lk_450) (by decide +kernel) ⟨Nat.le_of_ble_eq_true rfl, Nat.le_of_ble_eq_true rfl⟩, hB _ lk_452, hB _ ls_14⟩ ⟨bl_, va_recv (ci := 5) (q0 := 0) hK hP rfl rfl, pre_ hP hK hD hN⟩ rfl rfl hl.1 rfl (lv_room (Nat.le_of_ble_eq_true rfl)) nd_F_placeOf_37 ⟨Nat.zero_le _, Nat.zero_le _⟩) hD hS hA (fun H locs hP hD hS => ?_)
        refine lv_aload_n hx hb nd_F_placeOf_40 rfl (lv_at hl 0 rfl) ?_
        refine lv_iload_n hx hb nd_F_placeOf_41 rfl (lv_at hl 1 rfl) ?_
        refine lv_iload_n hx hb nd_F_placeOf_42 rfl (lv_at hl 2 rfl) ?_
        obtain ⟨r2, n9, σ1, hc, hq⟩ := mi_tw_el hf
        rcases hq with ⟨h9, hf⟩ | ⟨h9, hf⟩
        · subst h9
          refine ca_i (va_runV (C := "MovedFrames") (As := [.int z1, .int z2]) (rest := []) ⟨hx, hb, hml, hown, hB⟩ (kw_F_placeInSpace l dC dI q cI cZ _ σ z1 z2 r2 σ1 hc) ⟨callB_of 2 hB (gi_ lk_541) rfl rfl rfl (hB _ lk_1) (hB _ lk_538) (by decide +kernel) ⟨Nat.le_of_ble_eq_true rfl, Nat.le_of_ble_eq_true rfl⟩, hB _ lk_540, hB _ ls_19⟩ ⟨bl_, va_recv (ci := 5) (q0 := 0) hK hP rfl rfl, pre_ hP hK hD hN⟩ rfl rfl hl.1 rfl (lv_room (Nat.le_of_ble_eq_true rfl)) nd_F_placeOf_43 ⟨Nat.zero_le _, Nat.zero_le _⟩) hD hS hA (fun H locs hP hD hS => ?_)
          exact absurd (mi_t3 hf).2.1.symm hn
        · obtain ⟨-, hm, hs9⟩ := mi_t3 (congrArg some hf)
          have hm := hm.symm
          subst hm
          have hs9 := hs9.symm
          subst hs9
          exact cx_i (vx_runV (C := "MovedFrames") (As := [.int z1, .int z2]) (rest := []) ⟨hx, hb, hml, hown, hB⟩ (kt_F_placeInSpace l dC dI q cI cZ _ σ z1 z2 r2 n9 σ1 htr h9 hc) ⟨callB_of 2 hB (gi_ lk_541) rfl rfl rfl (hB _ lk_1) (hB _ lk_538) (by decide +kernel) ⟨Nat.le_of_ble_eq_true rfl, Nat.le_of_ble_eq_true rfl⟩, hB _ lk_540, hB _ ls_19⟩ ⟨blx_, va_recv (ci := 5) (q0 := 0) hK hP rfl rfl, prex_ hP hK hD hN hT hZ hS hA⟩ rfl rfl hl.1 rfl (lv_room (Nat.le_of_ble_eq_true rfl)) nd_F_placeOf_43 ⟨Nat.le_of_ble_eq_true rfl, Nat.le_of_ble_eq_true rfl⟩) hno hlocks hK hD hS hA
      · obtain ⟨-, hm, hs9⟩ := mi_t3 (congrArg some hf)
        have hm := hm.symm
        subst hm
        have hs9 := hs9.symm
        subst hs9
        exact cx_v (vx_runV (C := "MovedFrames") (As := [.int z1]) (rest := []) ⟨hx, hb, hml, hown, hB⟩ (kt_F_checkSpace l dC dI q cI cZ _ σ z1 r7 n9 htr h9 hc) ⟨callB_of 1 hB (gi_ lk_453) rfl rfl rfl (hB _ lk_1) (hB _ lk_450) (by decide +kernel) ⟨Nat.le_of_ble_eq_true rfl, Nat.le_of_ble_eq_true rfl⟩, hB _ lk_452, hB _ ls_14⟩ ⟨blx_, va_recv (ci := 5) (q0 := 0) hK hP rfl rfl, prex_ hP hK hD hN hT hZ hS hA⟩ rfl rfl hl.1 rfl (lv_room (Nat.le_of_ble_eq_true rfl)) nd_F_placeOf_37 ⟨Nat.le_of_ble_eq_true rfl, Nat.le_of_ble_eq_true rfl⟩) hno hlocks hK hD hS hA
    · have hf := mi_if_t hc hf
      refine lv_aload_n hx hb nd_F_placeOf_23 rfl (lv_at hl 0 rfl) ?_
      refine va_get (D := (dC, dI)) (ci := 5) (v := .ref (q 3)) (C := RX5) (T := TX5) (N := 5) hx hb hB inB5 hown hK hP 0 rfl rfl 2 (by decide) (hB _ lk_115) (fun _ h9 => h9) rfl nd_F_placeOf_24 ?_
      refine lv_iload_n hx hb nd_F_placeOf_27 rfl (lv_at hl 2 rfl) ?_
      obtain ⟨r3, hc, hf⟩ := mi_cp_el hf
      refine ca_i (va_runV (C := "MovedFrames$Ranges") (As := [.int z2]) (rest := []) ⟨hx, hb, hml, hown, hB⟩ (kw_Ranges_placeAt l dC dI q cI cZ _ σ z2 r3 hc) ⟨callB_of 1 hB (gi_ lk_530) rfl rfl rfl (hB _ lk_4) (hB _ lk_527) (by decide +kernel) ⟨Nat.le_of_ble_eq_true rfl, Nat.le_of_ble_eq_true rfl⟩, hB _ lk_528, hB _ lk_529⟩ ⟨bl_, va_recv (ci := 1) (q0 := 3) hK hP rfl rfl, pre_ hP hK hD hN⟩ rfl rfl hl.1 rfl (lv_room (Nat.le_of_ble_eq_true rfl)) nd_F_placeOf_28 ⟨Nat.zero_le _, Nat.zero_le _⟩) hD hS hA (fun H locs hP hD hS => ?_)
      obtain ⟨r4, n9, hc, hq⟩ := mi_tq_el hf
      rcases hq with ⟨h9, hf⟩ | ⟨h9, hf⟩
      · subst h9
        refine ca_i (va_runS (As := [.int r3]) (rest := []) ⟨hx, hb, hml, hown, hB⟩ (kw_F_orFault l dC dI q cI cZ _ σ r3 r4 hc) ⟨callB_of 1 hB (gi_ lk_510) rfl rfl rfl (hB _ lk_1) (hB _ lk_508) (by decide +kernel) ⟨Nat.le_of_ble_eq_true rfl, Nat.le_of_ble_eq_true rfl⟩, hB _ lk_509⟩ ⟨bl_, pre_ hP hK hD hN⟩ rfl rfl hl.1 rfl (lv_room (Nat.le_of_ble_eq_true rfl)) nd_F_placeOf_31 ⟨Nat.zero_le _, Nat.zero_le _⟩) hD hS hA (fun H locs hP hD hS => ?_)
        exact absurd (mi_t3 hf).2.1.symm hn
      · obtain ⟨-, hm, hs9⟩ := mi_t3 (congrArg some hf)
        have hm := hm.symm
        subst hm
        have hs9 := hs9.symm
        subst hs9
        exact cx_i (vx_runS (As := [.int r3]) (rest := []) ⟨hx, hb, hml, hown, hB⟩ (kt_F_orFault l dC dI q cI cZ _ σ r3 r4 n9 htr h9 hc) ⟨callB_of 1 hB (gi_ lk_510) rfl rfl rfl (hB _ lk_1) (hB _ lk_508) (by decide +kernel) ⟨Nat.le_of_ble_eq_true rfl, Nat.le_of_ble_eq_true rfl⟩, hB _ lk_509⟩ ⟨blx_, prex_ hP hK hD hN hT hZ hS hA⟩ rfl rfl hl.1 rfl (lv_room (Nat.le_of_ble_eq_true rfl)) nd_F_placeOf_31 ⟨Nat.le_of_ble_eq_true rfl, Nat.le_of_ble_eq_true rfl⟩) hno hlocks hK hD hS hA
  · have hf := mi_if_t hc hf
    refine lv_aload_n hx hb nd_F_placeOf_5 rfl (lv_at hl 0 rfl) ?_
    refine va_get (D := (dC, dI)) (ci := 5) (v := .ref (q 2)) (C := RX5) (T := TX5) (N := 5) hx hb hB inB5 hown hK hP 0 rfl rfl 1 (by decide) (hB _ lk_114) (fun _ h9 => h9) rfl nd_F_placeOf_6 ?_
    refine lv_iload_n hx hb nd_F_placeOf_9 rfl (lv_at hl 2 rfl) ?_
    obtain ⟨r5, hc, hf⟩ := mi_cp_el hf
    refine ca_i (va_runV (C := "MovedFrames$Slabs") (As := [.int z2]) (rest := []) ⟨hx, hb, hml, hown, hB⟩ (kw_Slabs_placeAt l dC dI q cI cZ _ σ z2 r5 hc) ⟨callB_of 1 hB (gi_ lk_310) rfl rfl rfl (hB _ lk_3) (hB _ lk_507) (by decide +kernel) ⟨Nat.le_of_ble_eq_true rfl, Nat.le_of_ble_eq_true rfl⟩, hB _ lk_308, hB _ lk_309⟩ ⟨bl_, va_recv (ci := 3) (q0 := 2) hK hP rfl rfl, pre_ hP hK hD hN⟩ rfl rfl hl.1 rfl (lv_room (Nat.le_of_ble_eq_true rfl)) nd_F_placeOf_10 ⟨Nat.zero_le _, Nat.zero_le _⟩) hD hS hA (fun H locs hP hD hS => ?_)
    obtain ⟨r6, n9, hc, hq⟩ := mi_tq_el hf
    rcases hq with ⟨h9, hf⟩ | ⟨h9, hf⟩
    · subst h9
      refine ca_i (va_runS (As := [.int r5]) (rest := []) ⟨hx, hb, hml, hown, hB⟩ (kw_F_orFault l dC dI q cI cZ _ σ r5 r6 hc) ⟨callB_of 1 hB (gi_ lk_510) rfl rfl rfl (hB _ lk_1) (hB _ lk_508) (by decide +kernel) ⟨Nat.le_of_ble_eq_true rfl, Nat.le_of_ble_eq_true rfl⟩, hB _ lk_509⟩ ⟨bl_, pre_ hP hK hD hN⟩ rfl rfl hl.1 rfl (lv_room (Nat.le_of_ble_eq_true rfl)) nd_F_placeOf_13 ⟨Nat.zero_le _, Nat.zero_le _⟩) hD hS hA (fun H locs hP hD hS => ?_)
      exact absurd (mi_t3 hf).2.1.symm hn
    · obtain ⟨-, hm, hs9⟩ := mi_t3 (congrArg some hf)
      have hm := hm.symm
      subst hm
      have hs9 := hs9.symm
      subst hs9
      exact cx_i (vx_runS (As := [.int r5]) (rest := []) ⟨hx, hb, hml, hown, hB⟩ (kt_F_orFault l dC dI q cI cZ _ σ r5 r6 n9 htr h9 hc) ⟨callB_of 1 hB (gi_ lk_510) rfl rfl rfl (hB _ lk_1) (hB _ lk_508) (by decide +kernel) ⟨Nat.le_of_ble_eq_true rfl, Nat.le_of_ble_eq_true rfl⟩, hB _ lk_509⟩ ⟨blx_, prex_ hP hK hD hN hT hZ hS hA⟩ rfl rfl hl.1 rfl (lv_room (Nat.le_of_ble_eq_true rfl)) nd_F_placeOf_13 ⟨Nat.le_of_ble_eq_true rfl, Nat.le_of_ble_eq_true rfl⟩) hno hlocks hK hD hS hA
abbrev rm_F_load : Room := { frames := 9, cells := 0, slots := 0, locals := 155 }
set_option maxHeartbeats 4000000 in
set_option maxRecDepth 100000 in
theorem kw_F_load (l : Launch) (dC : Nat → ClassId) (dI : Nat → Nat → Nat) (q : Nat → Nat) (cI cZ : ClassId) (sz : Nat) (σ : CS) (z1 : Int32) (z2 : Int32) (v : Int32) (σ' : CS) (hf : mc_load σ z1 z2 = some (v, 0, σ')) : Met l ny_F_load nw_F_load rm_F_load (va_Pc [.ref (q 0), .int z1, .int z2] (pr_ (dC, dI) (wd_C q cI cZ) [(cI, .int), (cZ, .boolean)] sz σ)) (qi_ (dC, dI) (wd_C q cI cZ) [(cI, .int), (cZ, .boolean)] (va_A (wd_C q cI cZ σ) sz) v σ') 0 0 (va_A (wd_C q cI cZ σ) sz) := by
  refine Met.ofW (cc := nb_F_load) (maxL := 3) (ret := (some .int)) (by decide) rfl ?_
  intro p e s m args below meth c s₁ B hml hv
  obtain ⟨rfl, hsz, hP, hK, hD0, hN⟩ := hv
  have hx := B.exec
  have hb := B.bytes
  have hr := B.returns
  have hts := atoms_spec (ws := nw_F_load) B.pre
  have hB : ∀ w ∈ BG, w.before ([.ref (q 0), .int z1, .int z2] : List Value).toArray s = true := fun w h => hts w (List.mem_cons_of_mem _ h)
  have hown : s.vm.findClass "MovedFrames" = some m.cls := findClass_of_methodNamed B.named
  have hlocks := B.notSynchronized
  subst hsz
  have hD := hD0.self (sz := s.heap.size)
  generalize hAe : va_A (wd_C q cI cZ σ) s.heap.size = A at hD ⊢
  have hA : ∀ q : Nat, s.heap.size ≤ q → A q := fun q h => by rw [← hAe]; exact Or.inr h
  have hS : va_S A s.heap s.heap [] := va_S.rf
  have hl := lv_entry ([.ref (q 0), .int z1, .int z2]) (n := 3) (Nat.le_of_ble_eq_true rfl)
  rw [lg_entry_eq]
  generalize (lg_sl ([.ref (q 0), .int z1, .int z2]) ++ List.replicate (3 - (lg_sl ([.ref (q 0), .int z1, .int z2])).length) Slot.unset).toArray = ls at hl ⊢
  have hl : lv_has ls 3 [(0, .ref (q 0)), (1, .int z1), (2, .int z2)] := hl
  have hH : s.heap = s.heap := rfl
  unfold mc_load at hf
  refine lv_aload_n hx hb nd_F_load_0 rfl (lv_at hl 0 rfl) ?_
  refine va_get (D := (dC, dI)) (ci := 5) (v := .ref (q 1)) (C := RX5) (T := TX5) (N := 5) hx hb hB inB5 hown hK hP 0 rfl rfl 0 (by decide) (hB _ lk_113) (fun _ h9 => h9) rfl nd_F_load_1 ?_
  refine lv_aload_n hx hb nd_F_load_4 rfl (lv_at hl 0 rfl) ?_
  refine lv_iload_n hx hb nd_F_load_5 rfl (lv_at hl 1 rfl) ?_
  refine lv_iload_n hx hb nd_F_load_6 rfl (lv_at hl 2 rfl) ?_
  obtain ⟨r2, n9, σ1, hc, hq⟩ := mi_tw_el hf
  rcases hq with ⟨h9, hf⟩ | ⟨h9, hf⟩
  · subst h9
    refine ca_i (va_runV (C := "MovedFrames") (As := [.int z1, .int z2]) (rest := [.ref (q 1)]) ⟨hx, hb, hml, hown, hB⟩ (kw_F_placeOf l dC dI q cI cZ _ σ z1 z2 r2 σ1 hc) ⟨callB_of 2 hB (gi_ lk_506) rfl rfl rfl (hB _ lk_1) (hB _ lk_503) (by decide +kernel) ⟨Nat.le_of_ble_eq_true rfl, Nat.le_of_ble_eq_true rfl⟩, hB _ lk_505, hB _ ls_18⟩ ⟨bl_, va_recv (ci := 5) (q0 := 0) hK hP rfl rfl, pre_ hP hK hD hN⟩ rfl rfl hl.1 rfl (lv_room (Nat.le_of_ble_eq_true rfl)) nd_F_load_7 ⟨Nat.zero_le _, Nat.zero_le _⟩) hD hS hA (fun H locs hP hD hS => ?_)
    obtain ⟨r3, hc, hf⟩ := mi_cp_el hf
    refine ca_i (va_runV (C := "MovedFrames$Frames") (As := [.int r2]) (rest := []) ⟨hx, hb, hml, hown, hB⟩ (kw_Frames_read l dC dI q cI cZ _ σ1 r2 r3 hc) ⟨callB_of 1 hB (gi_ lk_170) rfl rfl rfl (hB _ lk_2) (hB _ lk_176) (by decide +kernel) ⟨Nat.le_of_ble_eq_true rfl, Nat.le_of_ble_eq_true rfl⟩, hB _ lk_168, hB _ lk_169⟩ ⟨bl_, va_recv (ci := 0) (q0 := 1) hK hP rfl rfl, pre_ hP hK hD hN⟩ rfl rfl hl.1 rfl (lv_room (Nat.le_of_ble_eq_true rfl)) nd_F_load_10 ⟨Nat.zero_le _, Nat.zero_le _⟩) hD hS hA (fun H locs hP hD hS => ?_)
    exact re_i hx hb hr hlocks ((mi_t3 hf).1) ((mi_t3 hf).2.2) hP hK hD hS nd_F_load_13
  · exact absurd (congrArg (fun z => z.2.1) hf).symm h9
abbrev rt_F_load : Room := { frames := 9, cells := 1, slots := 6, locals := 155 }
set_option maxHeartbeats 4000000 in
set_option maxRecDepth 100000 in
theorem kt_F_load (l : Launch) (dC : Nat → ClassId) (dI : Nat → Nat → Nat) (q : Nat → Nat) (cI cZ : ClassId) (sz : Nat) (σ : CS) (z1 : Int32) (z2 : Int32) (v : Int32) (n : Nat) (σ' : CS) (htr : l.stackTraces = false) (hn : ¬ n = 0) (hf : mc_load σ z1 z2 = some (v, n, σ')) : vx_Met l ny_F_load nw_F_load rt_F_load (va_Pc [.ref (q 0), .int z1, .int z2] (prx_ (dC, dI) (wd_C q cI cZ) [(cI, .int), (cZ, .boolean)] sz σ)) (fi_ (dC, dI) (wd_C q cI cZ) [(cI, .int), (cZ, .boolean)] (va_A (wd_C q cI cZ σ) sz)) (xx_ (dC, dI) (wd_C q cI cZ) [(cI, .int), (cZ, .boolean)] (va_A (wd_C q cI cZ σ) sz) n σ') 1 6 (va_A (wd_C q cI cZ σ) sz) := by
  refine vx_ofW (cc := nb_F_load) (maxL := 3) (ret := (some .int)) (by decide) rfl ?_
  intro p e s m args below meth c s₁ B hml hno hv
  obtain ⟨rfl, ⟨hsz, hP, hK, hD0, hN⟩, hT, hZ⟩ := hv
  have hx := B.exec
  have hb := B.bytes
  have hr := B.returns
  have hts := atoms_spec (ws := nw_F_load) B.pre
  have hB : ∀ w ∈ BG, w.before ([.ref (q 0), .int z1, .int z2] : List Value).toArray s = true := fun w h => hts w (List.mem_cons_of_mem _ h)
  have hown : s.vm.findClass "MovedFrames" = some m.cls := findClass_of_methodNamed B.named
  have hlocks := B.notSynchronized
  subst hsz
  have hD := hD0.self (sz := s.heap.size)
  generalize hAe : va_A (wd_C q cI cZ σ) s.heap.size = A at hD hZ ⊢
  have hA : ∀ q : Nat, s.heap.size ≤ q → A q := fun q h => by rw [← hAe]; exact Or.inr h
  have hS : va_S A s.heap s.heap [] := va_S.rf
  have hl := lv_entry ([.ref (q 0), .int z1, .int z2]) (n := 3) (Nat.le_of_ble_eq_true rfl)
  rw [lg_entry_eq]
  generalize (lg_sl ([.ref (q 0), .int z1, .int z2]) ++ List.replicate (3 - (lg_sl ([.ref (q 0), .int z1, .int z2])).length) Slot.unset).toArray = ls at hl ⊢
  have hl : lv_has ls 3 [(0, .ref (q 0)), (1, .int z1), (2, .int z2)] := hl
  have hH : s.heap = s.heap := rfl
  unfold mc_load at hf
  refine lv_aload_n hx hb nd_F_load_0 rfl (lv_at hl 0 rfl) ?_
  refine va_get (D := (dC, dI)) (ci := 5) (v := .ref (q 1)) (C := RX5) (T := TX5) (N := 5) hx hb hB inB5 hown hK hP 0 rfl rfl 0 (by decide) (hB _ lk_113) (fun _ h9 => h9) rfl nd_F_load_1 ?_
  refine lv_aload_n hx hb nd_F_load_4 rfl (lv_at hl 0 rfl) ?_
  refine lv_iload_n hx hb nd_F_load_5 rfl (lv_at hl 1 rfl) ?_
  refine lv_iload_n hx hb nd_F_load_6 rfl (lv_at hl 2 rfl) ?_
  obtain ⟨r2, n9, σ1, hc, hq⟩ := mi_tw_el hf
  rcases hq with ⟨h9, hf⟩ | ⟨h9, hf⟩
  · subst h9
    refine ca_i (va_runV (C := "MovedFrames") (As := [.int z1, .int z2]) (rest := [.ref (q 1)]) ⟨hx, hb, hml, hown, hB⟩ (kw_F_placeOf l dC dI q cI cZ _ σ z1 z2 r2 σ1 hc) ⟨callB_of 2 hB (gi_ lk_506) rfl rfl rfl (hB _ lk_1) (hB _ lk_503) (by decide +kernel) ⟨Nat.le_of_ble_eq_true rfl, Nat.le_of_ble_eq_true rfl⟩, hB _ lk_505, hB _ ls_18⟩ ⟨bl_, va_recv (ci := 5) (q0 := 0) hK hP rfl rfl, pre_ hP hK hD hN⟩ rfl rfl hl.1 rfl (lv_room (Nat.le_of_ble_eq_true rfl)) nd_F_load_7 ⟨Nat.zero_le _, Nat.zero_le _⟩) hD hS hA (fun H locs hP hD hS => ?_)
    obtain ⟨r3, hc, hf⟩ := mi_cp_el hf
    refine ca_i (va_runV (C := "MovedFrames$Frames") (As := [.int r2]) (rest := []) ⟨hx, hb, hml, hown, hB⟩ (kw_Frames_read l dC dI q cI cZ _ σ1 r2 r3 hc) ⟨callB_of 1 hB (gi_ lk_170) rfl rfl rfl (hB _ lk_2) (hB _ lk_176) (by decide +kernel) ⟨Nat.le_of_ble_eq_true rfl, Nat.le_of_ble_eq_true rfl⟩, hB _ lk_168, hB _ lk_169⟩ ⟨bl_, va_recv (ci := 0) (q0 := 1) hK hP rfl rfl, pre_ hP hK hD hN⟩ rfl rfl hl.1 rfl (lv_room (Nat.le_of_ble_eq_true rfl)) nd_F_load_10 ⟨Nat.zero_le _, Nat.zero_le _⟩) hD hS hA (fun H locs hP hD hS => ?_)
    exact absurd (mi_t3 hf).2.1.symm hn
  · obtain ⟨-, hm, hs9⟩ := mi_t3 (congrArg some hf)
    have hm := hm.symm
    subst hm
    have hs9 := hs9.symm
    subst hs9
    exact cx_i (vx_runV (C := "MovedFrames") (As := [.int z1, .int z2]) (rest := [.ref (q 1)]) ⟨hx, hb, hml, hown, hB⟩ (kt_F_placeOf l dC dI q cI cZ _ σ z1 z2 r2 n9 σ1 htr h9 hc) ⟨callB_of 2 hB (gi_ lk_506) rfl rfl rfl (hB _ lk_1) (hB _ lk_503) (by decide +kernel) ⟨Nat.le_of_ble_eq_true rfl, Nat.le_of_ble_eq_true rfl⟩, hB _ lk_505, hB _ ls_18⟩ ⟨blx_, va_recv (ci := 5) (q0 := 0) hK hP rfl rfl, prex_ hP hK hD hN hT hZ hS hA⟩ rfl rfl hl.1 rfl (lv_room (Nat.le_of_ble_eq_true rfl)) nd_F_load_7 ⟨Nat.le_of_ble_eq_true rfl, Nat.le_of_ble_eq_true rfl⟩) hno hlocks hK hD hS hA
abbrev rm_F_store : Room := { frames := 9, cells := 0, slots := 0, locals := 155 }
set_option maxHeartbeats 4000000 in
set_option maxRecDepth 100000 in
theorem kw_F_store (l : Launch) (dC : Nat → ClassId) (dI : Nat → Nat → Nat) (q : Nat → Nat) (cI cZ : ClassId) (sz : Nat) (σ : CS) (z1 : Int32) (z2 : Int32) (z3 : Int32) (v : Int32) (σ' : CS) (hf : mc_store σ z1 z2 z3 = some (v, 0, σ')) : Met l ny_F_store nw_F_store rm_F_store (va_Pc [.ref (q 0), .int z1, .int z2, .int z3] (pr_ (dC, dI) (wd_C q cI cZ) [(cI, .int), (cZ, .boolean)] sz σ)) (qv_ (dC, dI) (wd_C q cI cZ) [(cI, .int), (cZ, .boolean)] (va_A (wd_C q cI cZ σ) sz) σ') 0 0 (va_A (wd_C q cI cZ σ) sz) := by
  refine Met.ofW (cc := nb_F_store) (maxL := 4) (ret := none) (by decide) rfl ?_
  intro p e s m args below meth c s₁ B hml hv
  obtain ⟨rfl, hsz, hP, hK, hD0, hN⟩ := hv
  have hx := B.exec
  have hb := B.bytes
  have hr := B.returns
  have hts := atoms_spec (ws := nw_F_store) B.pre
  have hB : ∀ w ∈ BG, w.before ([.ref (q 0), .int z1, .int z2, .int z3] : List Value).toArray s = true := fun w h => hts w (List.mem_cons_of_mem _ h)
  have hown : s.vm.findClass "MovedFrames" = some m.cls := findClass_of_methodNamed B.named
  have hlocks := B.notSynchronized
  subst hsz
  have hD := hD0.self (sz := s.heap.size)
  generalize hAe : va_A (wd_C q cI cZ σ) s.heap.size = A at hD ⊢
  have hA : ∀ q : Nat, s.heap.size ≤ q → A q := fun q h => by rw [← hAe]; exact Or.inr h
  have hS : va_S A s.heap s.heap [] := va_S.rf
  have hl := lv_entry ([.ref (q 0), .int z1, .int z2, .int z3]) (n := 4) (Nat.le_of_ble_eq_true rfl)
  rw [lg_entry_eq]
  generalize (lg_sl ([.ref (q 0), .int z1, .int z2, .int z3]) ++ List.replicate (4 - (lg_sl ([.ref (q 0), .int z1, .int z2, .int z3])).length) Slot.unset).toArray = ls at hl ⊢
  have hl : lv_has ls 4 [(0, .ref (q 0)), (1, .int z1), (2, .int z2), (3, .int z3)] := hl
  have hH : s.heap = s.heap := rfl
  unfold mc_store at hf
  refine lv_aload_n hx hb nd_F_store_0 rfl (lv_at hl 0 rfl) ?_
  refine va_get (D := (dC, dI)) (ci := 5) (v := .ref (q 1)) (C := RX5) (T := TX5) (N := 5) hx hb hB inB5 hown hK hP 0 rfl rfl 0 (by decide) (hB _ lk_113) (fun _ h9 => h9) rfl nd_F_store_1 ?_
  refine lv_aload_n hx hb nd_F_store_4 rfl (lv_at hl 0 rfl) ?_
  refine lv_iload_n hx hb nd_F_store_5 rfl (lv_at hl 1 rfl) ?_
  refine lv_iload_n hx hb nd_F_store_6 rfl (lv_at hl 2 rfl) ?_
  obtain ⟨r2, n9, σ1, hc, hq⟩ := mi_tw_el hf
  rcases hq with ⟨h9, hf⟩ | ⟨h9, hf⟩
  · subst h9
    refine ca_i (va_runV (C := "MovedFrames") (As := [.int z1, .int z2]) (rest := [.ref (q 1)]) ⟨hx, hb, hml, hown, hB⟩ (kw_F_placeOf l dC dI q cI cZ _ σ z1 z2 r2 σ1 hc) ⟨callB_of 2 hB (gi_ lk_506) rfl rfl rfl (hB _ lk_1) (hB _ lk_503) (by decide +kernel) ⟨Nat.le_of_ble_eq_true rfl, Nat.le_of_ble_eq_true rfl⟩, hB _ lk_505, hB _ ls_18⟩ ⟨bl_, va_recv (ci := 5) (q0 := 0) hK hP rfl rfl, pre_ hP hK hD hN⟩ rfl rfl hl.1 rfl (lv_room (Nat.le_of_ble_eq_true rfl)) nd_F_store_7 ⟨Nat.zero_le _, Nat.zero_le _⟩) hD hS hA (fun H locs hP hD hS => ?_)
    refine lv_iload_n hx hb nd_F_store_10 rfl (lv_at hl 3 rfl) ?_
    obtain ⟨σ3, hc, hf⟩ := mi_cv_el hf
    refine ca_v (va_runV (C := "MovedFrames$Frames") (As := [.int r2, .int z3]) (rest := []) ⟨hx, hb, hml, hown, hB⟩ (kw_Frames_write l dC dI q cI cZ _ σ1 r2 z3 σ3 hc) ⟨callB_of 2 hB (gi_ lk_338) rfl rfl rfl (hB _ lk_2) (hB _ lk_563) (by decide +kernel) ⟨Nat.le_of_ble_eq_true rfl, Nat.le_of_ble_eq_true rfl⟩, hB _ lk_336, hB _ lk_337⟩ ⟨bl_, va_recv (ci := 0) (q0 := 1) hK hP rfl rfl, pre_ hP hK hD hN⟩ rfl rfl hl.1 rfl (lv_room (Nat.le_of_ble_eq_true rfl)) nd_F_store_11 ⟨Nat.zero_le _, Nat.zero_le _⟩) hD hS hA (fun H locs hP hD hS => ?_)
    exact re_v hx hb hr hlocks ((mi_t3 hf).2.2) hP hK hD hS nd_F_store_14
  · exact absurd (congrArg (fun z => z.2.1) hf).symm h9
abbrev rt_F_store : Room := { frames := 9, cells := 1, slots := 6, locals := 155 }
set_option maxHeartbeats 4000000 in
set_option maxRecDepth 100000 in
theorem kt_F_store (l : Launch) (dC : Nat → ClassId) (dI : Nat → Nat → Nat) (q : Nat → Nat) (cI cZ : ClassId) (sz : Nat) (σ : CS) (z1 : Int32) (z2 : Int32) (z3 : Int32) (v : Int32) (n : Nat) (σ' : CS) (htr : l.stackTraces = false) (hn : ¬ n = 0) (hf : mc_store σ z1 z2 z3 = some (v, n, σ')) : vx_Met l ny_F_store nw_F_store rt_F_store (va_Pc [.ref (q 0), .int z1, .int z2, .int z3] (prx_ (dC, dI) (wd_C q cI cZ) [(cI, .int), (cZ, .boolean)] sz σ)) (fv_ (dC, dI) (wd_C q cI cZ) [(cI, .int), (cZ, .boolean)] (va_A (wd_C q cI cZ σ) sz)) (xx_ (dC, dI) (wd_C q cI cZ) [(cI, .int), (cZ, .boolean)] (va_A (wd_C q cI cZ σ) sz) n σ') 1 6 (va_A (wd_C q cI cZ σ) sz) := by
  refine vx_ofW (cc := nb_F_store) (maxL := 4) (ret := none) (by decide) rfl ?_
  intro p e s m args below meth c s₁ B hml hno hv
  obtain ⟨rfl, ⟨hsz, hP, hK, hD0, hN⟩, hT, hZ⟩ := hv
  have hx := B.exec
  have hb := B.bytes
  have hr := B.returns
  have hts := atoms_spec (ws := nw_F_store) B.pre
  have hB : ∀ w ∈ BG, w.before ([.ref (q 0), .int z1, .int z2, .int z3] : List Value).toArray s = true := fun w h => hts w (List.mem_cons_of_mem _ h)
  have hown : s.vm.findClass "MovedFrames" = some m.cls := findClass_of_methodNamed B.named
  have hlocks := B.notSynchronized
  subst hsz
  have hD := hD0.self (sz := s.heap.size)
  generalize hAe : va_A (wd_C q cI cZ σ) s.heap.size = A at hD hZ ⊢
  have hA : ∀ q : Nat, s.heap.size ≤ q → A q := fun q h => by rw [← hAe]; exact Or.inr h
  have hS : va_S A s.heap s.heap [] := va_S.rf
  have hl := lv_entry ([.ref (q 0), .int z1, .int z2, .int z3]) (n := 4) (Nat.le_of_ble_eq_true rfl)
  rw [lg_entry_eq]
  generalize (lg_sl ([.ref (q 0), .int z1, .int z2, .int z3]) ++ List.replicate (4 - (lg_sl ([.ref (q 0), .int z1, .int z2, .int z3])).length) Slot.unset).toArray = ls at hl ⊢
  have hl : lv_has ls 4 [(0, .ref (q 0)), (1, .int z1), (2, .int z2), (3, .int z3)] := hl
  have hH : s.heap = s.heap := rfl
  unfold mc_store at hf
  refine lv_aload_n hx hb nd_F_store_0 rfl (lv_at hl 0 rfl) ?_
  refine va_get (D := (dC, dI)) (ci := 5) (v := .ref (q 1)) (C := RX5) (T := TX5) (N := 5) hx hb hB inB5 hown hK hP 0 rfl rfl 0 (by decide) (hB _ lk_113) (fun _ h9 => h9) rfl nd_F_store_1 ?_
  refine lv_aload_n hx hb nd_F_store_4 rfl (lv_at hl 0 rfl) ?_
  refine lv_iload_n hx hb nd_F_store_5 rfl (lv_at hl 1 rfl) ?_
  refine lv_iload_n hx hb nd_F_store_6 rfl (lv_at hl 2 rfl) ?_
  obtain ⟨r2, n9, σ1, hc, hq⟩ := mi_tw_el hf
  rcases hq with ⟨h9, hf⟩ | ⟨h9, hf⟩
  · subst h9
    refine ca_i (va_runV (C := "MovedFrames") (As := [.int z1, .int z2]) (rest := [.ref (q 1)]) ⟨hx, hb, hml, hown, hB⟩ (kw_F_placeOf l dC dI q cI cZ _ σ z1 z2 r2 σ1 hc) ⟨callB_of 2 hB (gi_ lk_506) rfl rfl rfl (hB _ lk_1) (hB _ lk_503) (by decide +kernel) ⟨Nat.le_of_ble_eq_true rfl, Nat.le_of_ble_eq_true rfl⟩, hB _ lk_505, hB _ ls_18⟩ ⟨bl_, va_recv (ci := 5) (q0 := 0) hK hP rfl rfl, pre_ hP hK hD hN⟩ rfl rfl hl.1 rfl (lv_room (Nat.le_of_ble_eq_true rfl)) nd_F_store_7 ⟨Nat.zero_le _, Nat.zero_le _⟩) hD hS hA (fun H locs hP hD hS => ?_)
    refine lv_iload_n hx hb nd_F_store_10 rfl (lv_at hl 3 rfl) ?_
    obtain ⟨σ3, hc, hf⟩ := mi_cv_el hf
    refine ca_v (va_runV (C := "MovedFrames$Frames") (As := [.int r2, .int z3]) (rest := []) ⟨hx, hb, hml, hown, hB⟩ (kw_Frames_write l dC dI q cI cZ _ σ1 r2 z3 σ3 hc) ⟨callB_of 2 hB (gi_ lk_338) rfl rfl rfl (hB _ lk_2) (hB _ lk_563) (by decide +kernel) ⟨Nat.le_of_ble_eq_true rfl, Nat.le_of_ble_eq_true rfl⟩, hB _ lk_336, hB _ lk_337⟩ ⟨bl_, va_recv (ci := 0) (q0 := 1) hK hP rfl rfl, pre_ hP hK hD hN⟩ rfl rfl hl.1 rfl (lv_room (Nat.le_of_ble_eq_true rfl)) nd_F_store_11 ⟨Nat.zero_le _, Nat.zero_le _⟩) hD hS hA (fun H locs hP hD hS => ?_)
    exact absurd (mi_t3 hf).2.1.symm hn
  · obtain ⟨-, hm, hs9⟩ := mi_t3 (congrArg some hf)
    have hm := hm.symm
    subst hm
    have hs9 := hs9.symm
    subst hs9
    exact cx_i (vx_runV (C := "MovedFrames") (As := [.int z1, .int z2]) (rest := [.ref (q 1)]) ⟨hx, hb, hml, hown, hB⟩ (kt_F_placeOf l dC dI q cI cZ _ σ z1 z2 r2 n9 σ1 htr h9 hc) ⟨callB_of 2 hB (gi_ lk_506) rfl rfl rfl (hB _ lk_1) (hB _ lk_503) (by decide +kernel) ⟨Nat.le_of_ble_eq_true rfl, Nat.le_of_ble_eq_true rfl⟩, hB _ lk_505, hB _ ls_18⟩ ⟨blx_, va_recv (ci := 5) (q0 := 0) hK hP rfl rfl, prex_ hP hK hD hN hT hZ hS hA⟩ rfl rfl hl.1 rfl (lv_room (Nat.le_of_ble_eq_true rfl)) nd_F_store_7 ⟨Nat.le_of_ble_eq_true rfl, Nat.le_of_ble_eq_true rfl⟩) hno hlocks hK hD hS hA
abbrev rm_Frames_ownerOf : Room := { frames := 1, cells := 0, slots := 0, locals := 20 }
set_option maxHeartbeats 4000000 in
set_option maxRecDepth 100000 in
theorem kw_Frames_ownerOf (l : Launch) (dC : Nat → ClassId) (dI : Nat → Nat → Nat) (q : Nat → Nat) (cI cZ : ClassId) (sz : Nat) (σ : CS) (z1 : Int32) (v : Int32) (hf : mc_Frames_ownerOf σ z1 = some v) : Met l ny_Frames_ownerOf nw_Frames_ownerOf rm_Frames_ownerOf (va_Pc [.ref (q 1), .int z1] (pr_ (dC, dI) (wd_C q cI cZ) [(cI, .int), (cZ, .boolean)] sz σ)) (qi_ (dC, dI) (wd_C q cI cZ) [(cI, .int), (cZ, .boolean)] (va_A (wd_C q cI cZ σ) sz) v σ) 0 0 (va_A (wd_C q cI cZ σ) sz) := by
  refine Met.ofW (cc := nb_Frames_ownerOf) (maxL := 2) (ret := (some .int)) (by decide) rfl ?_
  intro p e s m args below meth c s₁ B hml hv
  obtain ⟨rfl, hsz, hP, hK, hD0, hN⟩ := hv
  have hx := B.exec
  have hb := B.bytes
  have hr := B.returns
  have hts := atoms_spec (ws := nw_Frames_ownerOf) B.pre
  have hB : ∀ w ∈ BG, w.before ([.ref (q 1), .int z1] : List Value).toArray s = true := fun w h => hts w (List.mem_cons_of_mem _ h)
  have hown : s.vm.findClass "MovedFrames$Frames" = some m.cls := findClass_of_methodNamed B.named
  have hlocks := B.notSynchronized
  subst hsz
  have hD := hD0.self (sz := s.heap.size)
  generalize hAe : va_A (wd_C q cI cZ σ) s.heap.size = A at hD ⊢
  have hA : ∀ q : Nat, s.heap.size ≤ q → A q := fun q h => by rw [← hAe]; exact Or.inr h
  have hS : va_S A s.heap s.heap [] := va_S.rf
  have hl := lv_entry ([.ref (q 1), .int z1]) (n := 2) (Nat.le_of_ble_eq_true rfl)
  rw [lg_entry_eq]
  generalize (lg_sl ([.ref (q 1), .int z1]) ++ List.replicate (2 - (lg_sl ([.ref (q 1), .int z1])).length) Slot.unset).toArray = ls at hl ⊢
  have hl : lv_has ls 2 [(0, .ref (q 1)), (1, .int z1)] := hl
  have hH : s.heap = s.heap := rfl
  unfold mc_Frames_ownerOf at hf
  refine lv_iload_n hx hb nd_Frames_ownerOf_0 rfl (lv_at hl 1 rfl) ?_
  obtain ⟨r1, hc, hf⟩ := mi_cp_el hf
  refine ca_i (va_runSN (As := [.int z1]) (rest := []) ⟨hx, hb, hml, hown, hB⟩ (kw_F_isFrame l dC dI q cI cZ _ σ z1 r1 hc) ⟨va_cnB 1 hB (gi_ lk_139) rfl rfl rfl hN.2.1 (hB _ lk_1) (by decide +kernel) ⟨Nat.le_of_ble_eq_true rfl, Nat.le_of_ble_eq_true rfl⟩, hB _ lk_138, trivial⟩ ⟨bl_, pre_ hP hK hD hN⟩ rfl rfl hl.1 rfl (lv_room (Nat.le_of_ble_eq_true rfl)) nd_Frames_ownerOf_1 ⟨Nat.zero_le _, Nat.zero_le _⟩) hD hS hA (fun H locs hP hD hS => ?_)
  refine lv_if_eq (tgt := 16) hx hb nd_Frames_ownerOf_4 (by decide) (fun hc => ?_) (fun hc => ?_)
  · have hf := mi_if_t hc hf
    refine lv_iconst (v := (-1)) hx hb nd_Frames_ownerOf_16 (by decide) ?_
    exact re_i hx hb hr hlocks (mi_eq hf) (rfl) hP hK hD hS nd_Frames_ownerOf_17
  · have hf := mi_if_f hc hf
    refine lv_aload_n hx hb nd_Frames_ownerOf_7 rfl (lv_at hl 0 rfl) ?_
    refine va_get (D := (dC, dI)) (ci := 0) (v := .ref (q 6)) (C := RX0) (T := TX0) (N := 3) hx hb hB inB0 hown hK hP 1 rfl rfl 0 (by decide) (hB _ lk_31) (fun _ h9 => h9) rfl nd_Frames_ownerOf_8 ?_
    refine lv_iload_n hx hb nd_Frames_ownerOf_11 rfl (lv_at hl 1 rfl) ?_
    obtain ⟨hg, hf⟩ := mi_gd_el hf
    refine va_iald hx hb hK hP 6 0 rfl rfl hg nd_Frames_ownerOf_12 ?_
    refine lv_goto (tgt := 17) hx hb nd_Frames_ownerOf_13 (by decide) ?_
    exact re_i hx hb hr hlocks (mi_eq hf) (rfl) hP hK hD hS nd_Frames_ownerOf_17
abbrev rm_Frames_countOwned : Room := { frames := 2, cells := 0, slots := 0, locals := 41 }
set_option maxHeartbeats 4000000 in
set_option maxRecDepth 100000 in
theorem kw_Frames_countOwned (l : Launch) (dC : Nat → ClassId) (dI : Nat → Nat → Nat) (q : Nat → Nat) (cI cZ : ClassId) (sz : Nat) (σ : CS) (z1 : Int32) (z2 : Int32) (z3 : Int32) (v : Int32) (hf : mc_Frames_countOwned σ z1 z2 z3 = some v) : Met l ny_Frames_countOwned nw_Frames_countOwned rm_Frames_countOwned (va_Pc [.ref (q 1), .int z1, .int z2, .int z3] (pr_ (dC, dI) (wd_C q cI cZ) [(cI, .int), (cZ, .boolean)] sz σ)) (qi_ (dC, dI) (wd_C q cI cZ) [(cI, .int), (cZ, .boolean)] (va_A (wd_C q cI cZ σ) sz) v σ) 0 0 (va_A (wd_C q cI cZ σ) sz) := by
  refine Met.ofW (cc := nb_Frames_countOwned) (maxL := 6) (ret := (some .int)) (by decide) rfl ?_
  intro p e s m args below meth c s₁ B hml hv
  obtain ⟨rfl, hsz, hP, hK, hD0, hN⟩ := hv
  have hx := B.exec
  have hb := B.bytes
  have hr := B.returns
  have hts := atoms_spec (ws := nw_Frames_countOwned) B.pre
  have hB : ∀ w ∈ BG, w.before ([.ref (q 1), .int z1, .int z2, .int z3] : List Value).toArray s = true := fun w h => hts w (List.mem_cons_of_mem _ h)
  have hown : s.vm.findClass "MovedFrames$Frames" = some m.cls := findClass_of_methodNamed B.named
  have hlocks := B.notSynchronized
  subst hsz
  have hD := hD0.self (sz := s.heap.size)
  generalize hAe : va_A (wd_C q cI cZ σ) s.heap.size = A at hD ⊢
  have hA : ∀ q : Nat, s.heap.size ≤ q → A q := fun q h => by rw [← hAe]; exact Or.inr h
  have hS : va_S A s.heap s.heap [] := va_S.rf
  have hl := lv_entry ([.ref (q 1), .int z1, .int z2, .int z3]) (n := 6) (Nat.le_of_ble_eq_true rfl)
  rw [lg_entry_eq]
  generalize (lg_sl ([.ref (q 1), .int z1, .int z2, .int z3]) ++ List.replicate (6 - (lg_sl ([.ref (q 1), .int z1, .int z2, .int z3])).length) Slot.unset).toArray = ls at hl ⊢
  have hl : lv_has ls 6 [(0, .ref (q 1)), (1, .int z1), (2, .int z2), (3, .int z3)] := hl
  have B6 : ∀ (k6 : Int32 → Int32 → Int32 → Int32 → Int32 → CS → Option (Int32)) (hk6 : ∀ (x1 : Int32) (x2 : Int32) (x3 : Int32) (x4 : Int32) (x5 : Int32), k6 x1 x2 x3 x4 x5 σ = some v → bk_ p l e rm_Frames_countOwned s m ([.ref (q 1), .int z1, .int z2, .int z3] : List Value).toArray below meth c (MQ below (qi_ (dC, dI) (wd_C q cI cZ) [(cI, .int), (cZ, .boolean)] A v σ) ([.ref (q 1), .int z1, .int z2, .int z3] : List Value).toArray s 0 0 A) A (dC, dI) (wd_C q cI cZ) 6 6 [(0, .ref (q 1)), (1, .int x1), (2, .int x2), (3, .int x3), (4, .int x4), (5, .int x5)] [] σ) (x1 : Int32) (x2 : Int32) (x3 : Int32) (x4 : Int32) (x5 : Int32), mc_Frames_countOwned_b6 k6 x1 x2 x3 x4 x5 σ = some v → bk_ p l e rm_Frames_countOwned s m ([.ref (q 1), .int z1, .int z2, .int z3] : List Value).toArray below meth c (MQ below (qi_ (dC, dI) (wd_C q cI cZ) [(cI, .int), (cZ, .boolean)] A v σ) ([.ref (q 1), .int z1, .int z2, .int z3] : List Value).toArray s 0 0 A) A (dC, dI) (wd_C q cI cZ) 6 6 [(0, .ref (q 1)), (1, .int x1), (2, .int x2), (3, .int x3), (4, .int x4), (5, .int x5)] [] σ := by
    intro k6 hk6 x1 x2 x3 x4 x5 hf ls H locs hl hP hD hS
    unfold mc_Frames_countOwned_b6 at hf
    refine lv_iload hx hb nd_Frames_countOwned_6 (lv_at hl 5 rfl) ?_
    refine lv_iload_n hx hb nd_Frames_countOwned_8 rfl (lv_at hl 2 rfl) ?_
    refine lv_iload_n hx hb nd_Frames_countOwned_9 rfl (lv_at hl 3 rfl) ?_
    refine lv_iadd hx hb nd_Frames_countOwned_10 ?_
    refine lv_icmp_ge (tgt := 33) hx hb nd_Frames_countOwned_11 (by decide) (fun hc => ?_) (fun hc => ?_)
    · have hf := mi_if_t hc hf
      refine lv_iload hx hb nd_Frames_countOwned_33 (lv_at hl 4 rfl) ?_
      exact re_i hx hb hr hlocks (mi_eq hf) (rfl) hP hK hD hS nd_Frames_countOwned_35
    · have hf := mi_if_f hc hf
      refine lv_aload_n hx hb nd_Frames_countOwned_14 rfl (lv_at hl 0 rfl) ?_
      refine lv_iload hx hb nd_Frames_countOwned_15 (lv_at hl 5 rfl) ?_
      obtain ⟨r1, hc, hf⟩ := mi_cp_el hf
      refine ca_i (va_runV (C := "MovedFrames$Frames") (As := [.int x5]) (rest := []) ⟨hx, hb, hml, hown, hB⟩ (kw_Frames_ownerOf l dC dI q cI cZ _ σ x5 r1 hc) ⟨callB_of 1 hB (gi_ lk_136) rfl rfl rfl (hB _ lk_2) (hB _ lk_588) (by decide +kernel) ⟨Nat.le_of_ble_eq_true rfl, Nat.le_of_ble_eq_true rfl⟩, hB _ lk_134, hB _ lk_135⟩ ⟨bl_, va_recv (ci := 0) (q0 := 1) hK hP rfl rfl, pre_ hP hK hD hN⟩ rfl rfl hl.1 rfl (lv_room (Nat.le_of_ble_eq_true rfl)) nd_Frames_countOwned_17 ⟨Nat.zero_le _, Nat.zero_le _⟩) hD hS hA (fun H locs hP hD hS => ?_)
      refine lv_iload_n hx hb nd_Frames_countOwned_20 rfl (lv_at hl 1 rfl) ?_
      refine lv_icmp_ne (tgt := 27) hx hb nd_Frames_countOwned_21 (by decide) (fun hc => ?_) (fun hc => ?_)
      · have hf := mi_if_f hc hf
        refine lv_iinc (k := 5) (v := x5 + (1 : Int32)) (lv' := [(5, .int (x5 + (1 : Int32))), (0, .ref (q 1)), (1, .int x1), (2, .int x2), (3, .int x3), (4, .int x4)]) hx hb nd_Frames_countOwned_27 hl rfl (congrArg (fun z => x5 + z) (by decide : Int32.ofInt 1 = (1 : Int32))) (by decide) rfl (fun ls hl => ?_)
        refine lv_goto (tgt := 6) hx hb nd_Frames_countOwned_30 (by decide) ?_
        exact hk6 x1 x2 x3 x4 (x5 + (1 : Int32)) hf _ _ _ (lv_sub hl [1, 2, 3, 4, 5, 0] rfl) hP hD hS
      · have hf := mi_if_t hc hf
        refine lv_iinc (k := 4) (v := x4 + (1 : Int32)) (lv' := [(4, .int (x4 + (1 : Int32))), (0, .ref (q 1)), (1, .int x1), (2, .int x2), (3, .int x3), (5, .int x5)]) hx hb nd_Frames_countOwned_24 hl rfl (congrArg (fun z => x4 + z) (by decide : Int32.ofInt 1 = (1 : Int32))) (by decide) rfl (fun ls hl => ?_)
        refine lv_iinc (k := 5) (v := x5 + (1 : Int32)) (lv' := [(5, .int (x5 + (1 : Int32))), (4, .int (x4 + (1 : Int32))), (0, .ref (q 1)), (1, .int x1), (2, .int x2), (3, .int x3)]) hx hb nd_Frames_countOwned_27 hl rfl (congrArg (fun z => x5 + z) (by decide : Int32.ofInt 1 = (1 : Int32))) (by decide) rfl (fun ls hl => ?_)
        refine lv_goto (tgt := 6) hx hb nd_Frames_countOwned_30 (by decide) ?_
        exact hk6 x1 x2 x3 (x4 + (1 : Int32)) (x5 + (1 : Int32)) hf _ _ _ (lv_sub hl [2, 3, 4, 5, 1, 0] rfl) hP hD hS
  have L6 : ∀ (n : Nat) (x1 : Int32) (x2 : Int32) (x3 : Int32) (x4 : Int32) (x5 : Int32), mc_Frames_countOwned_l6 n x1 x2 x3 x4 x5 σ = some v → bk_ p l e rm_Frames_countOwned s m ([.ref (q 1), .int z1, .int z2, .int z3] : List Value).toArray below meth c (MQ below (qi_ (dC, dI) (wd_C q cI cZ) [(cI, .int), (cZ, .boolean)] A v σ) ([.ref (q 1), .int z1, .int z2, .int z3] : List Value).toArray s 0 0 A) A (dC, dI) (wd_C q cI cZ) 6 6 [(0, .ref (q 1)), (1, .int x1), (2, .int x2), (3, .int x3), (4, .int x4), (5, .int x5)] [] σ := by
    intro n
    induction n with
    | zero =>
      intro x1 x2 x3 x4 x5 hf
      exact mi_no hf
    | succ n ih =>
      intro x1 x2 x3 x4 x5 hf
      exact B6 (mc_Frames_countOwned_l6 n) ih x1 x2 x3 x4 x5 hf
  have hH : s.heap = s.heap := rfl
  unfold mc_Frames_countOwned at hf
  refine lv_iconst (v := 0) hx hb nd_Frames_countOwned_0 (by decide) ?_
  refine lv_istore (lv' := [(4, .int (0 : Int32)), (0, .ref (q 1)), (1, .int z1), (2, .int z2), (3, .int z3)]) hx hb nd_Frames_countOwned_1 hl (by decide) rfl (fun ls hl => ?_)
  refine lv_iload_n hx hb nd_Frames_countOwned_3 rfl (lv_at hl 3 rfl) ?_
  refine lv_istore (lv' := [(5, .int z2), (4, .int (0 : Int32)), (0, .ref (q 1)), (1, .int z1), (2, .int z2), (3, .int z3)]) hx hb nd_Frames_countOwned_4 hl (by decide) rfl (fun ls hl => ?_)
  exact L6 FU z1 z2 z3 (0 : Int32) z2 hf _ _ _ (lv_sub hl [2, 3, 4, 5, 1, 0] rfl) hP hD hS
abbrev rm_Runs_isAble : Room := { frames := 3, cells := 0, slots := 0, locals := 66 }
set_option maxHeartbeats 4000000 in
set_option maxRecDepth 100000 in
theorem kw_Runs_isAble (l : Launch) (dC : Nat → ClassId) (dI : Nat → Nat → Nat) (q : Nat → Nat) (cI cZ : ClassId) (sz : Nat) (σ : CS) (z1 : Int32) (z2 : Int32) (v : Int32) (hf : mc_Runs_isAble σ z1 z2 = some v) : Met l ny_Runs_isAble nw_Runs_isAble rm_Runs_isAble (va_Pc [.ref (q 5), .int z1, .int z2] (pr_ (dC, dI) (wd_C q cI cZ) [(cI, .int), (cZ, .boolean)] sz σ)) (qi_ (dC, dI) (wd_C q cI cZ) [(cI, .int), (cZ, .boolean)] (va_A (wd_C q cI cZ σ) sz) v σ) 0 0 (va_A (wd_C q cI cZ σ) sz) := by
  refine Met.ofW (cc := nb_Runs_isAble) (maxL := 5) (ret := (some .boolean)) (by decide) rfl ?_
  intro p e s m args below meth c s₁ B hml hv
  obtain ⟨rfl, hsz, hP, hK, hD0, hN⟩ := hv
  have hx := B.exec
  have hb := B.bytes
  have hr := B.returns
  have hts := atoms_spec (ws := nw_Runs_isAble) B.pre
  have hB : ∀ w ∈ BG, w.before ([.ref (q 5), .int z1, .int z2] : List Value).toArray s = true := fun w h => hts w (List.mem_cons_of_mem _ h)
  have hown : s.vm.findClass "MovedFrames$Runs" = some m.cls := findClass_of_methodNamed B.named
  have hlocks := B.notSynchronized
  subst hsz
  have hD := hD0.self (sz := s.heap.size)
  generalize hAe : va_A (wd_C q cI cZ σ) s.heap.size = A at hD ⊢
  have hA : ∀ q : Nat, s.heap.size ≤ q → A q := fun q h => by rw [← hAe]; exact Or.inr h
  have hS : va_S A s.heap s.heap [] := va_S.rf
  have hl := lv_entry ([.ref (q 5), .int z1, .int z2]) (n := 5) (Nat.le_of_ble_eq_true rfl)
  rw [lg_entry_eq]
  generalize (lg_sl ([.ref (q 5), .int z1, .int z2]) ++ List.replicate (5 - (lg_sl ([.ref (q 5), .int z1, .int z2])).length) Slot.unset).toArray = ls at hl ⊢
  have hl : lv_has ls 5 [(0, .ref (q 5)), (1, .int z1), (2, .int z2)] := hl
  have hH : s.heap = s.heap := rfl
  unfold mc_Runs_isAble at hf
  refine lv_aload_n hx hb nd_Runs_isAble_0 rfl (lv_at hl 0 rfl) ?_
  refine va_get (D := (dC, dI)) (ci := 2) (v := .ref (q 1)) (C := RX2) (T := TX2) (N := 4) hx hb hB inB2 hown hK hP 5 rfl rfl 0 (by decide) (hB _ lk_100) (fun _ h9 => h9) rfl nd_Runs_isAble_1 ?_
  refine lv_iconst (v := 0) hx hb nd_Runs_isAble_4 (by decide) ?_
  refine lv_iload_n hx hb nd_Runs_isAble_5 rfl (lv_at hl 1 rfl) ?_
  refine lv_iload_n hx hb nd_Runs_isAble_6 rfl (lv_at hl 2 rfl) ?_
  obtain ⟨r1, hc, hf⟩ := mi_cp_el hf
  refine ca_i (va_runV (C := "MovedFrames$Frames") (As := [.int (0 : Int32), .int z1, .int z2]) (rest := []) ⟨hx, hb, hml, hown, hB⟩ (kw_Frames_countOwned l dC dI q cI cZ _ σ (0 : Int32) z1 z2 r1 hc) ⟨callB_of 3 hB (gi_ lk_587) rfl rfl rfl (hB _ lk_2) (hB _ lk_584) (by decide +kernel) ⟨Nat.le_of_ble_eq_true rfl, Nat.le_of_ble_eq_true rfl⟩, hB _ lk_585, hB _ lk_586⟩ ⟨bl_, va_recv (ci := 0) (q0 := 1) hK hP rfl rfl, pre_ hP hK hD hN⟩ rfl rfl hl.1 rfl (lv_room (Nat.le_of_ble_eq_true rfl)) nd_Runs_isAble_7 ⟨Nat.zero_le _, Nat.zero_le _⟩) hD hS hA (fun H locs hP hD hS => ?_)
  refine lv_istore_n (lv' := [(3, .int r1), (0, .ref (q 5)), (1, .int z1), (2, .int z2)]) hx hb nd_Runs_isAble_10 rfl hl (by decide) rfl (fun ls hl => ?_)
  refine lv_aload_n hx hb nd_Runs_isAble_11 rfl (lv_at hl 1 rfl) ?_
  refine va_get (D := (dC, dI)) (ci := 2) (v := .ref (q 1)) (C := RX2) (T := TX2) (N := 4) hx hb hB inB2 hown hK hP 5 rfl rfl 0 (by decide) (hB _ lk_100) (fun _ h9 => h9) rfl nd_Runs_isAble_12 ?_
  refine lv_iconst (v := 4) hx hb nd_Runs_isAble_15 (by decide) ?_
  refine lv_iload_n hx hb nd_Runs_isAble_16 rfl (lv_at hl 2 rfl) ?_
  refine lv_iload_n hx hb nd_Runs_isAble_17 rfl (lv_at hl 3 rfl) ?_
  obtain ⟨r2, hc, hf⟩ := mi_cp_el hf
  refine ca_i (va_runV (C := "MovedFrames$Frames") (As := [.int (4 : Int32), .int z1, .int z2]) (rest := []) ⟨hx, hb, hml, hown, hB⟩ (kw_Frames_countOwned l dC dI q cI cZ _ σ (4 : Int32) z1 z2 r2 hc) ⟨callB_of 3 hB (gi_ lk_587) rfl rfl rfl (hB _ lk_2) (hB _ lk_584) (by decide +kernel) ⟨Nat.le_of_ble_eq_true rfl, Nat.le_of_ble_eq_true rfl⟩, hB _ lk_585, hB _ lk_586⟩ ⟨bl_, va_recv (ci := 0) (q0 := 1) hK hP rfl rfl, pre_ hP hK hD hN⟩ rfl rfl hl.1 rfl (lv_room (Nat.le_of_ble_eq_true rfl)) nd_Runs_isAble_18 ⟨Nat.zero_le _, Nat.zero_le _⟩) hD hS hA (fun H locs hP hD hS => ?_)
  refine lv_istore (lv' := [(4, .int r2), (3, .int r1), (0, .ref (q 5)), (1, .int z1), (2, .int z2)]) hx hb nd_Runs_isAble_21 hl (by decide) rfl (fun ls hl => ?_)
  refine lv_iload_n hx hb nd_Runs_isAble_23 rfl (lv_at hl 1 rfl) ?_
  refine lv_iload hx hb nd_Runs_isAble_24 (lv_at hl 0 rfl) ?_
  refine lv_iadd hx hb nd_Runs_isAble_26 ?_
  refine lv_iload_n hx hb nd_Runs_isAble_27 rfl (lv_at hl 4 rfl) ?_
  refine lv_icmp_ne (tgt := 49) hx hb nd_Runs_isAble_28 (by decide) (fun hc => ?_) (fun hc => ?_)
  · have hf := mi_if_f hc hf
    refine lv_iconst (v := 0) hx hb nd_Runs_isAble_49 (by decide) ?_
    exact re_z hx hb hr hlocks (Or.inl rfl) (mi_eq hf) (rfl) hP hK hD hS nd_Runs_isAble_50
  · have hf := mi_if_t hc hf
    refine lv_aload_n hx hb nd_Runs_isAble_31 rfl (lv_at hl 2 rfl) ?_
    refine va_get (D := (dC, dI)) (ci := 2) (v := .ref (q 1)) (C := RX2) (T := TX2) (N := 4) hx hb hB inB2 hown hK hP 5 rfl rfl 0 (by decide) (hB _ lk_100) (fun _ h9 => h9) rfl nd_Runs_isAble_32 ?_
    obtain ⟨r3, hc, hf⟩ := mi_cp_el hf
    refine ca_i (va_runV (C := "MovedFrames$Frames") (As := []) (rest := []) ⟨hx, hb, hml, hown, hB⟩ (kw_Frames_countFree l dC dI q cI cZ _ σ r3 hc) ⟨callB_of 0 hB (gi_ lk_200) rfl rfl rfl (hB _ lk_2) (hB _ lk_589) (by decide +kernel) ⟨Nat.le_of_ble_eq_true rfl, Nat.le_of_ble_eq_true rfl⟩, hB _ lk_198, hB _ lk_199⟩ ⟨bl_, va_recv (ci := 0) (q0 := 1) hK hP rfl rfl, pre_ hP hK hD hN⟩ rfl rfl hl.1 rfl (lv_room (Nat.le_of_ble_eq_true rfl)) nd_Runs_isAble_35 ⟨Nat.zero_le _, Nat.zero_le _⟩) hD hS hA (fun H locs hP hD hS => ?_)
    refine lv_iload_n hx hb nd_Runs_isAble_38 rfl (lv_at hl 1 rfl) ?_
    refine lv_isub hx hb nd_Runs_isAble_39 ?_
    refine lv_iload hx hb nd_Runs_isAble_40 (lv_at hl 0 rfl) ?_
    refine lv_icmp_lt (tgt := 49) hx hb nd_Runs_isAble_42 (by decide) (fun hc => ?_) (fun hc => ?_)
    · have hf := mi_if_t hc hf
      refine lv_iconst (v := 0) hx hb nd_Runs_isAble_49 (by decide) ?_
      exact re_z hx hb hr hlocks (Or.inl rfl) (mi_eq hf) (rfl) hP hK hD hS nd_Runs_isAble_50
    · have hf := mi_if_f hc hf
      refine lv_iconst (v := 1) hx hb nd_Runs_isAble_45 (by decide) ?_
      refine lv_goto (tgt := 50) hx hb nd_Runs_isAble_46 (by decide) ?_
      exact re_z hx hb hr hlocks (Or.inr rfl) (mi_eq hf) (rfl) hP hK hD hS nd_Runs_isAble_50
abbrev rm_Runs_lowestAble : Room := { frames := 4, cells := 0, slots := 0, locals := 90 }
set_option maxHeartbeats 4000000 in
set_option maxRecDepth 100000 in
theorem kw_Runs_lowestAble (l : Launch) (dC : Nat → ClassId) (dI : Nat → Nat → Nat) (q : Nat → Nat) (cI cZ : ClassId) (sz : Nat) (σ : CS) (z1 : Int32) (v : Int32) (hf : mc_Runs_lowestAble σ z1 = some v) : Met l ny_Runs_lowestAble nw_Runs_lowestAble rm_Runs_lowestAble (va_Pc [.ref (q 5), .int z1] (pr_ (dC, dI) (wd_C q cI cZ) [(cI, .int), (cZ, .boolean)] sz σ)) (qi_ (dC, dI) (wd_C q cI cZ) [(cI, .int), (cZ, .boolean)] (va_A (wd_C q cI cZ σ) sz) v σ) 0 0 (va_A (wd_C q cI cZ σ) sz) := by
  refine Met.ofW (cc := nb_Runs_lowestAble) (maxL := 3) (ret := (some .int)) (by decide) rfl ?_
  intro p e s m args below meth c s₁ B hml hv
  obtain ⟨rfl, hsz, hP, hK, hD0, hN⟩ := hv
  have hx := B.exec
  have hb := B.bytes
  have hr := B.returns
  have hts := atoms_spec (ws := nw_Runs_lowestAble) B.pre
  have hB : ∀ w ∈ BG, w.before ([.ref (q 5), .int z1] : List Value).toArray s = true := fun w h => hts w (List.mem_cons_of_mem _ h)
  have hown : s.vm.findClass "MovedFrames$Runs" = some m.cls := findClass_of_methodNamed B.named
  have hlocks := B.notSynchronized
  subst hsz
  have hD := hD0.self (sz := s.heap.size)
  generalize hAe : va_A (wd_C q cI cZ σ) s.heap.size = A at hD ⊢
  have hA : ∀ q : Nat, s.heap.size ≤ q → A q := fun q h => by rw [← hAe]; exact Or.inr h
  have hS : va_S A s.heap s.heap [] := va_S.rf
  have hl := lv_entry ([.ref (q 5), .int z1]) (n := 3) (Nat.le_of_ble_eq_true rfl)
  rw [lg_entry_eq]
  generalize (lg_sl ([.ref (q 5), .int z1]) ++ List.replicate (3 - (lg_sl ([.ref (q 5), .int z1])).length) Slot.unset).toArray = ls at hl ⊢
  have hl : lv_has ls 3 [(0, .ref (q 5)), (1, .int z1)] := hl
  have B2 : ∀ (k2 : Int32 → Int32 → CS → Option (Int32)) (hk2 : ∀ (x1 : Int32) (x2 : Int32), k2 x1 x2 σ = some v → bk_ p l e rm_Runs_lowestAble s m ([.ref (q 5), .int z1] : List Value).toArray below meth c (MQ below (qi_ (dC, dI) (wd_C q cI cZ) [(cI, .int), (cZ, .boolean)] A v σ) ([.ref (q 5), .int z1] : List Value).toArray s 0 0 A) A (dC, dI) (wd_C q cI cZ) 3 2 [(0, .ref (q 5)), (1, .int x1), (2, .int x2)] [] σ) (x1 : Int32) (x2 : Int32), mc_Runs_lowestAble_b2 k2 x1 x2 σ = some v → bk_ p l e rm_Runs_lowestAble s m ([.ref (q 5), .int z1] : List Value).toArray below meth c (MQ below (qi_ (dC, dI) (wd_C q cI cZ) [(cI, .int), (cZ, .boolean)] A v σ) ([.ref (q 5), .int z1] : List Value).toArray s 0 0 A) A (dC, dI) (wd_C q cI cZ) 3 2 [(0, .ref (q 5)), (1, .int x1), (2, .int x2)] [] σ := by
    intro k2 hk2 x1 x2 hf ls H locs hl hP hD hS
    unfold mc_Runs_lowestAble_b2 at hf
    refine lv_iload_n hx hb nd_Runs_lowestAble_2 rfl (lv_at hl 2 rfl) ?_
    refine lv_bipush (v := 64) hx hb nd_Runs_lowestAble_3 (by decide) ?_
    refine lv_iload_n hx hb nd_Runs_lowestAble_5 rfl (lv_at hl 1 rfl) ?_
    refine lv_ishr hx hb nd_Runs_lowestAble_6 ?_
    refine lv_icmp_ge (tgt := 33) hx hb nd_Runs_lowestAble_7 (by decide) (fun hc => ?_) (fun hc => ?_)
    · have hf := mi_if_t hc hf
      refine lv_iconst (v := (-1)) hx hb nd_Runs_lowestAble_33 (by decide) ?_
      exact re_i hx hb hr hlocks (mi_eq hf) (rfl) hP hK hD hS nd_Runs_lowestAble_34
    · have hf := mi_if_f hc hf
      refine lv_aload_n hx hb nd_Runs_lowestAble_10 rfl (lv_at hl 0 rfl) ?_
      refine lv_iload_n hx hb nd_Runs_lowestAble_11 rfl (lv_at hl 2 rfl) ?_
      refine lv_iload_n hx hb nd_Runs_lowestAble_12 rfl (lv_at hl 1 rfl) ?_
      refine lv_ishl hx hb nd_Runs_lowestAble_13 ?_
      refine lv_iconst (v := 1) hx hb nd_Runs_lowestAble_14 (by decide) ?_
      refine lv_iload_n hx hb nd_Runs_lowestAble_15 rfl (lv_at hl 1 rfl) ?_
      refine lv_ishl hx hb nd_Runs_lowestAble_16 ?_
      obtain ⟨r1, hc, hf⟩ := mi_cp_el hf
      refine ca_i (va_runV (C := "MovedFrames$Runs") (As := [.int (x2 <<< (x1 &&& 31)), .int ((1 : Int32) <<< (x1 &&& 31))]) (rest := []) ⟨hx, hb, hml, hown, hB⟩ (kw_Runs_isAble l dC dI q cI cZ _ σ (x2 <<< (x1 &&& 31)) ((1 : Int32) <<< (x1 &&& 31)) r1 hc) ⟨callB_of 2 hB (gi_ lk_583) rfl rfl rfl (hB _ lk_6) (hB _ lk_580) (by decide +kernel) ⟨Nat.le_of_ble_eq_true rfl, Nat.le_of_ble_eq_true rfl⟩, hB _ lk_582, hB _ ls_22⟩ ⟨bl_, va_recv (ci := 2) (q0 := 5) hK hP rfl rfl, pre_ hP hK hD hN⟩ rfl rfl hl.1 rfl (lv_room (Nat.le_of_ble_eq_true rfl)) nd_Runs_lowestAble_17 ⟨Nat.zero_le _, Nat.zero_le _⟩) hD hS hA (fun H locs hP hD hS => ?_)
      refine lv_if_eq (tgt := 27) hx hb nd_Runs_lowestAble_20 (by decide) (fun hc => ?_) (fun hc => ?_)
      · have hf := mi_if_t hc hf
        refine lv_iinc (k := 2) (v := x2 + (1 : Int32)) (lv' := [(2, .int (x2 + (1 : Int32))), (0, .ref (q 5)), (1, .int x1)]) hx hb nd_Runs_lowestAble_27 hl rfl (congrArg (fun z => x2 + z) (by decide : Int32.ofInt 1 = (1 : Int32))) (by decide) rfl (fun ls hl => ?_)
        refine lv_goto (tgt := 2) hx hb nd_Runs_lowestAble_30 (by decide) ?_
        exact hk2 x1 (x2 + (1 : Int32)) hf _ _ _ (lv_sub hl [1, 2, 0] rfl) hP hD hS
      · have hf := mi_if_f hc hf
        refine lv_iload_n hx hb nd_Runs_lowestAble_23 rfl (lv_at hl 2 rfl) ?_
        refine lv_iload_n hx hb nd_Runs_lowestAble_24 rfl (lv_at hl 1 rfl) ?_
        refine lv_ishl hx hb nd_Runs_lowestAble_25 ?_
        exact re_i hx hb hr hlocks (mi_eq hf) (rfl) hP hK hD hS nd_Runs_lowestAble_26
  have L2 : ∀ (n : Nat) (x1 : Int32) (x2 : Int32), mc_Runs_lowestAble_l2 n x1 x2 σ = some v → bk_ p l e rm_Runs_lowestAble s m ([.ref (q 5), .int z1] : List Value).toArray below meth c (MQ below (qi_ (dC, dI) (wd_C q cI cZ) [(cI, .int), (cZ, .boolean)] A v σ) ([.ref (q 5), .int z1] : List Value).toArray s 0 0 A) A (dC, dI) (wd_C q cI cZ) 3 2 [(0, .ref (q 5)), (1, .int x1), (2, .int x2)] [] σ := by
    intro n
    induction n with
    | zero =>
      intro x1 x2 hf
      exact mi_no hf
    | succ n ih =>
      intro x1 x2 hf
      exact B2 (mc_Runs_lowestAble_l2 n) ih x1 x2 hf
  have hH : s.heap = s.heap := rfl
  unfold mc_Runs_lowestAble at hf
  refine lv_iconst (v := 0) hx hb nd_Runs_lowestAble_0 (by decide) ?_
  refine lv_istore_n (lv' := [(2, .int (0 : Int32)), (0, .ref (q 5)), (1, .int z1)]) hx hb nd_Runs_lowestAble_1 rfl hl (by decide) rfl (fun ls hl => ?_)
  exact L2 FU z1 (0 : Int32) hf _ _ _ (lv_sub hl [1, 2, 0] rfl) hP hD hS
abbrev rm_Runs_lowestFreeOutside : Room := { frames := 2, cells := 0, slots := 0, locals := 41 }
set_option maxHeartbeats 4000000 in
set_option maxRecDepth 100000 in
theorem kw_Runs_lowestFreeOutside (l : Launch) (dC : Nat → ClassId) (dI : Nat → Nat → Nat) (q : Nat → Nat) (cI cZ : ClassId) (sz : Nat) (σ : CS) (z1 : Int32) (z2 : Int32) (v : Int32) (hf : mc_Runs_lowestFreeOutside σ z1 z2 = some v) : Met l ny_Runs_lowestFreeOutside nw_Runs_lowestFreeOutside rm_Runs_lowestFreeOutside (va_Pc [.ref (q 5), .int z1, .int z2] (pr_ (dC, dI) (wd_C q cI cZ) [(cI, .int), (cZ, .boolean)] sz σ)) (qi_ (dC, dI) (wd_C q cI cZ) [(cI, .int), (cZ, .boolean)] (va_A (wd_C q cI cZ σ) sz) v σ) 0 0 (va_A (wd_C q cI cZ σ) sz) := by
  refine Met.ofW (cc := nb_Runs_lowestFreeOutside) (maxL := 5) (ret := (some .int)) (by decide) rfl ?_
  intro p e s m args below meth c s₁ B hml hv
  obtain ⟨rfl, hsz, hP, hK, hD0, hN⟩ := hv
  have hx := B.exec
  have hb := B.bytes
  have hr := B.returns
  have hts := atoms_spec (ws := nw_Runs_lowestFreeOutside) B.pre
  have hB : ∀ w ∈ BG, w.before ([.ref (q 5), .int z1, .int z2] : List Value).toArray s = true := fun w h => hts w (List.mem_cons_of_mem _ h)
  have hown : s.vm.findClass "MovedFrames$Runs" = some m.cls := findClass_of_methodNamed B.named
  have hlocks := B.notSynchronized
  subst hsz
  have hD := hD0.self (sz := s.heap.size)
  generalize hAe : va_A (wd_C q cI cZ σ) s.heap.size = A at hD ⊢
  have hA : ∀ q : Nat, s.heap.size ≤ q → A q := fun q h => by rw [← hAe]; exact Or.inr h
  have hS : va_S A s.heap s.heap [] := va_S.rf
  have hl := lv_entry ([.ref (q 5), .int z1, .int z2]) (n := 5) (Nat.le_of_ble_eq_true rfl)
  rw [lg_entry_eq]
  generalize (lg_sl ([.ref (q 5), .int z1, .int z2]) ++ List.replicate (5 - (lg_sl ([.ref (q 5), .int z1, .int z2])).length) Slot.unset).toArray = ls at hl ⊢
  have hl : lv_has ls 5 [(0, .ref (q 5)), (1, .int z1), (2, .int z2)] := hl
  have B25 : ∀ (k2 : Int32 → Int32 → Int32 → CS → Option (Int32)) (hk2 : ∀ (x1 : Int32) (x2 : Int32) (x3 : Int32), k2 x1 x2 x3 σ = some v → bk_ p l e rm_Runs_lowestFreeOutside s m ([.ref (q 5), .int z1, .int z2] : List Value).toArray below meth c (MQ below (qi_ (dC, dI) (wd_C q cI cZ) [(cI, .int), (cZ, .boolean)] A v σ) ([.ref (q 5), .int z1, .int z2] : List Value).toArray s 0 0 A) A (dC, dI) (wd_C q cI cZ) 5 2 [(0, .ref (q 5)), (1, .int x1), (2, .int x2), (3, .int x3)] [] σ) (x1 : Int32) (x2 : Int32) (x3 : Int32) (y0 : Int32), mc_Runs_lowestFreeOutside_b25 k2 x1 x2 x3 y0 σ = some v → bk_ p l e rm_Runs_lowestFreeOutside s m ([.ref (q 5), .int z1, .int z2] : List Value).toArray below meth c (MQ below (qi_ (dC, dI) (wd_C q cI cZ) [(cI, .int), (cZ, .boolean)] A v σ) ([.ref (q 5), .int z1, .int z2] : List Value).toArray s 0 0 A) A (dC, dI) (wd_C q cI cZ) 5 25 [(0, .ref (q 5)), (1, .int x1), (2, .int x2), (3, .int x3)] [.int y0] σ := by
    intro k2 hk2 x1 x2 x3 y0 hf ls H locs hl hP hD hS
    unfold mc_Runs_lowestFreeOutside_b25 at hf
    refine lv_istore (lv' := [(4, .int y0), (0, .ref (q 5)), (1, .int x1), (2, .int x2), (3, .int x3)]) hx hb nd_Runs_lowestFreeOutside_25 hl (by decide) rfl (fun ls hl => ?_)
    refine lv_iload hx hb nd_Runs_lowestFreeOutside_27 (lv_at hl 0 rfl) ?_
    refine lv_if_ne (tgt := 45) hx hb nd_Runs_lowestFreeOutside_29 (by decide) (fun hc => ?_) (fun hc => ?_)
    · have hf := mi_if_f hc hf
      refine lv_iinc (k := 4) (v := x3 + (1 : Int32)) (lv' := [(3, .int (x3 + (1 : Int32))), (4, .int y0), (0, .ref (q 5)), (1, .int x1), (2, .int x2)]) hx hb nd_Runs_lowestFreeOutside_45 hl rfl (congrArg (fun z => x3 + z) (by decide : Int32.ofInt 1 = (1 : Int32))) (by decide) rfl (fun ls hl => ?_)
      refine lv_goto (tgt := 2) hx hb nd_Runs_lowestFreeOutside_48 (by decide) ?_
      exact hk2 x1 x2 (x3 + (1 : Int32)) hf _ _ _ (lv_sub hl [2, 3, 4, 0] rfl) hP hD hS
    · have hf := mi_if_t hc hf
      refine lv_aload_n hx hb nd_Runs_lowestFreeOutside_32 rfl (lv_at hl 1 rfl) ?_
      refine va_get (D := (dC, dI)) (ci := 2) (v := .ref (q 1)) (C := RX2) (T := TX2) (N := 4) hx hb hB inB2 hown hK hP 5 rfl rfl 0 (by decide) (hB _ lk_100) (fun _ h9 => h9) rfl nd_Runs_lowestFreeOutside_33 ?_
      refine lv_iload_n hx hb nd_Runs_lowestFreeOutside_36 rfl (lv_at hl 4 rfl) ?_
      obtain ⟨r1, hc, hf⟩ := mi_cp_el hf
      refine ca_i (va_runV (C := "MovedFrames$Frames") (As := [.int x3]) (rest := []) ⟨hx, hb, hml, hown, hB⟩ (kw_Frames_ownerOf l dC dI q cI cZ _ σ x3 r1 hc) ⟨callB_of 1 hB (gi_ lk_136) rfl rfl rfl (hB _ lk_2) (hB _ lk_594) (by decide +kernel) ⟨Nat.le_of_ble_eq_true rfl, Nat.le_of_ble_eq_true rfl⟩, hB _ lk_134, hB _ lk_135⟩ ⟨bl_, va_recv (ci := 0) (q0 := 1) hK hP rfl rfl, pre_ hP hK hD hN⟩ rfl rfl hl.1 rfl (lv_room (Nat.le_of_ble_eq_true rfl)) nd_Runs_lowestFreeOutside_37 ⟨Nat.zero_le _, Nat.zero_le _⟩) hD hS hA (fun H locs hP hD hS => ?_)
      refine lv_if_ne (tgt := 45) hx hb nd_Runs_lowestFreeOutside_40 (by decide) (fun hc => ?_) (fun hc => ?_)
      · have hf := mi_if_f hc hf
        refine lv_iinc (k := 4) (v := x3 + (1 : Int32)) (lv' := [(3, .int (x3 + (1 : Int32))), (4, .int y0), (0, .ref (q 5)), (1, .int x1), (2, .int x2)]) hx hb nd_Runs_lowestFreeOutside_45 hl rfl (congrArg (fun z => x3 + z) (by decide : Int32.ofInt 1 = (1 : Int32))) (by decide) rfl (fun ls hl => ?_)
        refine lv_goto (tgt := 2) hx hb nd_Runs_lowestFreeOutside_48 (by decide) ?_
        exact hk2 x1 x2 (x3 + (1 : Int32)) hf _ _ _ (lv_sub hl [2, 3, 4, 0] rfl) hP hD hS
      · have hf := mi_if_t hc hf
        refine lv_iload_n hx hb nd_Runs_lowestFreeOutside_43 rfl (lv_at hl 4 rfl) ?_
        exact re_i hx hb hr hlocks (mi_eq hf) (rfl) hP hK hD hS nd_Runs_lowestFreeOutside_44
  have B24 : ∀ (k2 : Int32 → Int32 → Int32 → CS → Option (Int32)) (hk2 : ∀ (x1 : Int32) (x2 : Int32) (x3 : Int32), k2 x1 x2 x3 σ = some v → bk_ p l e rm_Runs_lowestFreeOutside s m ([.ref (q 5), .int z1, .int z2] : List Value).toArray below meth c (MQ below (qi_ (dC, dI) (wd_C q cI cZ) [(cI, .int), (cZ, .boolean)] A v σ) ([.ref (q 5), .int z1, .int z2] : List Value).toArray s 0 0 A) A (dC, dI) (wd_C q cI cZ) 5 2 [(0, .ref (q 5)), (1, .int x1), (2, .int x2), (3, .int x3)] [] σ) (x1 : Int32) (x2 : Int32) (x3 : Int32), mc_Runs_lowestFreeOutside_b24 k2 x1 x2 x3 σ = some v → bk_ p l e rm_Runs_lowestFreeOutside s m ([.ref (q 5), .int z1, .int z2] : List Value).toArray below meth c (MQ below (qi_ (dC, dI) (wd_C q cI cZ) [(cI, .int), (cZ, .boolean)] A v σ) ([.ref (q 5), .int z1, .int z2] : List Value).toArray s 0 0 A) A (dC, dI) (wd_C q cI cZ) 5 24 [(0, .ref (q 5)), (1, .int x1), (2, .int x2), (3, .int x3)] [] σ := by
    intro k2 hk2 x1 x2 x3 hf ls H locs hl hP hD hS
    unfold mc_Runs_lowestFreeOutside_b24 at hf
    refine lv_iconst (v := 0) hx hb nd_Runs_lowestFreeOutside_24 (by decide) ?_
    exact B25 k2 hk2 x1 x2 x3 (0 : Int32) hf _ _ _ (lv_sub hl [0, 1, 2, 3] rfl) hP hD hS
  have B2 : ∀ (k2 : Int32 → Int32 → Int32 → CS → Option (Int32)) (hk2 : ∀ (x1 : Int32) (x2 : Int32) (x3 : Int32), k2 x1 x2 x3 σ = some v → bk_ p l e rm_Runs_lowestFreeOutside s m ([.ref (q 5), .int z1, .int z2] : List Value).toArray below meth c (MQ below (qi_ (dC, dI) (wd_C q cI cZ) [(cI, .int), (cZ, .boolean)] A v σ) ([.ref (q 5), .int z1, .int z2] : List Value).toArray s 0 0 A) A (dC, dI) (wd_C q cI cZ) 5 2 [(0, .ref (q 5)), (1, .int x1), (2, .int x2), (3, .int x3)] [] σ) (x1 : Int32) (x2 : Int32) (x3 : Int32), mc_Runs_lowestFreeOutside_b2 k2 x1 x2 x3 σ = some v → bk_ p l e rm_Runs_lowestFreeOutside s m ([.ref (q 5), .int z1, .int z2] : List Value).toArray below meth c (MQ below (qi_ (dC, dI) (wd_C q cI cZ) [(cI, .int), (cZ, .boolean)] A v σ) ([.ref (q 5), .int z1, .int z2] : List Value).toArray s 0 0 A) A (dC, dI) (wd_C q cI cZ) 5 2 [(0, .ref (q 5)), (1, .int x1), (2, .int x2), (3, .int x3)] [] σ := by
    intro k2 hk2 x1 x2 x3 hf ls H locs hl hP hD hS
    unfold mc_Runs_lowestFreeOutside_b2 at hf
    refine lv_iload_n hx hb nd_Runs_lowestFreeOutside_2 rfl (lv_at hl 3 rfl) ?_
    refine lv_bipush (v := 64) hx hb nd_Runs_lowestFreeOutside_3 (by decide) ?_
    refine lv_icmp_ge (tgt := 51) hx hb nd_Runs_lowestFreeOutside_5 (by decide) (fun hc => ?_) (fun hc => ?_)
    · have hf := mi_if_t hc hf
      refine lv_iconst (v := (-1)) hx hb nd_Runs_lowestFreeOutside_51 (by decide) ?_
      exact re_i hx hb hr hlocks (mi_eq hf) (rfl) hP hK hD hS nd_Runs_lowestFreeOutside_52
    · have hf := mi_if_f hc hf
      refine lv_iload_n hx hb nd_Runs_lowestFreeOutside_8 rfl (lv_at hl 3 rfl) ?_
      refine lv_iload_n hx hb nd_Runs_lowestFreeOutside_9 rfl (lv_at hl 1 rfl) ?_
      refine lv_icmp_lt (tgt := 24) hx hb nd_Runs_lowestFreeOutside_10 (by decide) (fun hc => ?_) (fun hc => ?_)
      · have hf := mi_if_t hc hf
        exact B24 k2 hk2 x1 x2 x3 hf _ _ _ (lv_sub hl [0, 1, 2, 3] rfl) hP hD hS
      · have hf := mi_if_f hc hf
        refine lv_iload_n hx hb nd_Runs_lowestFreeOutside_13 rfl (lv_at hl 3 rfl) ?_
        refine lv_iload_n hx hb nd_Runs_lowestFreeOutside_14 rfl (lv_at hl 1 rfl) ?_
        refine lv_iload_n hx hb nd_Runs_lowestFreeOutside_15 rfl (lv_at hl 2 rfl) ?_
        refine lv_iadd hx hb nd_Runs_lowestFreeOutside_16 ?_
        refine lv_icmp_ge (tgt := 24) hx hb nd_Runs_lowestFreeOutside_17 (by decide) (fun hc => ?_) (fun hc => ?_)
        · have hf := mi_if_t hc hf
          exact B24 k2 hk2 x1 x2 x3 hf _ _ _ (lv_sub hl [0, 1, 2, 3] rfl) hP hD hS
        · have hf := mi_if_f hc hf
          refine lv_iconst (v := 1) hx hb nd_Runs_lowestFreeOutside_20 (by decide) ?_
          refine lv_goto (tgt := 25) hx hb nd_Runs_lowestFreeOutside_21 (by decide) ?_
          exact B25 k2 hk2 x1 x2 x3 (1 : Int32) hf _ _ _ (lv_sub hl [0, 1, 2, 3] rfl) hP hD hS
  have L2 : ∀ (n : Nat) (x1 : Int32) (x2 : Int32) (x3 : Int32), mc_Runs_lowestFreeOutside_l2 n x1 x2 x3 σ = some v → bk_ p l e rm_Runs_lowestFreeOutside s m ([.ref (q 5), .int z1, .int z2] : List Value).toArray below meth c (MQ below (qi_ (dC, dI) (wd_C q cI cZ) [(cI, .int), (cZ, .boolean)] A v σ) ([.ref (q 5), .int z1, .int z2] : List Value).toArray s 0 0 A) A (dC, dI) (wd_C q cI cZ) 5 2 [(0, .ref (q 5)), (1, .int x1), (2, .int x2), (3, .int x3)] [] σ := by
    intro n
    induction n with
    | zero =>
      intro x1 x2 x3 hf
      exact mi_no hf
    | succ n ih =>
      intro x1 x2 x3 hf
      exact B2 (mc_Runs_lowestFreeOutside_l2 n) ih x1 x2 x3 hf
  have hH : s.heap = s.heap := rfl
  unfold mc_Runs_lowestFreeOutside at hf
  refine lv_iconst (v := 0) hx hb nd_Runs_lowestFreeOutside_0 (by decide) ?_
  refine lv_istore_n (lv' := [(3, .int (0 : Int32)), (0, .ref (q 5)), (1, .int z1), (2, .int z2)]) hx hb nd_Runs_lowestFreeOutside_1 rfl hl (by decide) rfl (fun ls hl => ?_)
  exact L2 FU z1 z2 (0 : Int32) hf _ _ _ (lv_sub hl [1, 2, 3, 0] rfl) hP hD hS
abbrev rm_Frames_copyWords : Room := { frames := 1, cells := 0, slots := 0, locals := 22 }
set_option maxHeartbeats 4000000 in
set_option maxRecDepth 100000 in
theorem kw_Frames_copyWords (l : Launch) (dC : Nat → ClassId) (dI : Nat → Nat → Nat) (q : Nat → Nat) (cI cZ : ClassId) (sz : Nat) (σ : CS) (z1 : Int32) (z2 : Int32) (σ' : CS) (hf : mc_Frames_copyWords σ z1 z2 = some σ') : Met l ny_Frames_copyWords nw_Frames_copyWords rm_Frames_copyWords (va_Pc [.ref (q 1), .int z1, .int z2] (pr_ (dC, dI) (wd_C q cI cZ) [(cI, .int), (cZ, .boolean)] sz σ)) (qv_ (dC, dI) (wd_C q cI cZ) [(cI, .int), (cZ, .boolean)] (va_A (wd_C q cI cZ σ) sz) σ') 0 0 (va_A (wd_C q cI cZ σ) sz) := by
  refine Met.ofW (cc := nb_Frames_copyWords) (maxL := 4) (ret := none) (by decide) rfl ?_
  intro p e s m args below meth c s₁ B hml hv
  obtain ⟨rfl, hsz, hP, hK, hD0, hN⟩ := hv
  have hx := B.exec
  have hb := B.bytes
  have hr := B.returns
  have hts := atoms_spec (ws := nw_Frames_copyWords) B.pre
  have hB : ∀ w ∈ BG, w.before ([.ref (q 1), .int z1, .int z2] : List Value).toArray s = true := fun w h => hts w (List.mem_cons_of_mem _ h)
  have hown : s.vm.findClass "MovedFrames$Frames" = some m.cls := findClass_of_methodNamed B.named
  have hlocks := B.notSynchronized
  subst hsz
  have hD := hD0.self (sz := s.heap.size)
  generalize hAe : va_A (wd_C q cI cZ σ) s.heap.size = A at hD ⊢
  have hA : ∀ q : Nat, s.heap.size ≤ q → A q := fun q h => by rw [← hAe]; exact Or.inr h
  have hS : va_S A s.heap s.heap [] := va_S.rf
  have hl := lv_entry ([.ref (q 1), .int z1, .int z2]) (n := 4) (Nat.le_of_ble_eq_true rfl)
  rw [lg_entry_eq]
  generalize (lg_sl ([.ref (q 1), .int z1, .int z2]) ++ List.replicate (4 - (lg_sl ([.ref (q 1), .int z1, .int z2])).length) Slot.unset).toArray = ls at hl ⊢
  have hl : lv_has ls 4 [(0, .ref (q 1)), (1, .int z1), (2, .int z2)] := hl
  have B2 : ∀ (k2 : Int32 → Int32 → Int32 → CS → Option (CS)) (hk2 : ∀ (x1 : Int32) (x2 : Int32) (x3 : Int32) (σ : CS), k2 x1 x2 x3 σ = some σ' → bk_ p l e rm_Frames_copyWords s m ([.ref (q 1), .int z1, .int z2] : List Value).toArray below meth c (MQ below (qv_ (dC, dI) (wd_C q cI cZ) [(cI, .int), (cZ, .boolean)] A σ') ([.ref (q 1), .int z1, .int z2] : List Value).toArray s 0 0 A) A (dC, dI) (wd_C q cI cZ) 4 2 [(0, .ref (q 1)), (1, .int x1), (2, .int x2), (3, .int x3)] [] σ) (x1 : Int32) (x2 : Int32) (x3 : Int32) (σ : CS), mc_Frames_copyWords_b2 k2 x1 x2 x3 σ = some σ' → bk_ p l e rm_Frames_copyWords s m ([.ref (q 1), .int z1, .int z2] : List Value).toArray below meth c (MQ below (qv_ (dC, dI) (wd_C q cI cZ) [(cI, .int), (cZ, .boolean)] A σ') ([.ref (q 1), .int z1, .int z2] : List Value).toArray s 0 0 A) A (dC, dI) (wd_C q cI cZ) 4 2 [(0, .ref (q 1)), (1, .int x1), (2, .int x2), (3, .int x3)] [] σ := by
    intro k2 hk2 x1 x2 x3 σ hf ls H locs hl hP hD hS
    unfold mc_Frames_copyWords_b2 at hf
    refine lv_iload_n hx hb nd_Frames_copyWords_2 rfl (lv_at hl 3 rfl) ?_
    refine lv_bipush (v := 16) hx hb nd_Frames_copyWords_3 (by decide) ?_
    refine lv_icmp_ge (tgt := 34) hx hb nd_Frames_copyWords_5 (by decide) (fun hc => ?_) (fun hc => ?_)
    · have hf := mi_if_t hc hf
      exact re_v hx hb hr hlocks (mi_eq hf) hP hK hD hS nd_Frames_copyWords_34
    · have hf := mi_if_f hc hf
      refine lv_aload_n hx hb nd_Frames_copyWords_8 rfl (lv_at hl 0 rfl) ?_
      refine lv_iload_n hx hb nd_Frames_copyWords_9 rfl (lv_at hl 2 rfl) ?_
      refine lv_bipush (v := 16) hx hb nd_Frames_copyWords_10 (by decide) ?_
      refine lv_imul hx hb nd_Frames_copyWords_12 ?_
      refine lv_iload_n hx hb nd_Frames_copyWords_13 rfl (lv_at hl 3 rfl) ?_
      refine lv_iadd hx hb nd_Frames_copyWords_14 ?_
      refine lv_aload_n hx hb nd_Frames_copyWords_15 rfl (lv_at hl 0 rfl) ?_
      refine lv_iload_n hx hb nd_Frames_copyWords_16 rfl (lv_at hl 1 rfl) ?_
      refine lv_bipush (v := 16) hx hb nd_Frames_copyWords_17 (by decide) ?_
      refine lv_imul hx hb nd_Frames_copyWords_19 ?_
      refine lv_iload_n hx hb nd_Frames_copyWords_20 rfl (lv_at hl 3 rfl) ?_
      refine lv_iadd hx hb nd_Frames_copyWords_21 ?_
      obtain ⟨r1, hc, hf⟩ := mi_cp_el hf
      refine ca_i (va_runV (C := "MovedFrames$Frames") (As := [.int ((x1 * (16 : Int32)) + x3)]) (rest := [.int ((x2 * (16 : Int32)) + x3), .ref (q 1)]) ⟨hx, hb, hml, hown, hB⟩ (kw_Frames_read l dC dI q cI cZ _ σ ((x1 * (16 : Int32)) + x3) r1 hc) ⟨callB_of 1 hB (gi_ lk_170) rfl rfl rfl (hB _ lk_2) (hB _ lk_608) (by decide +kernel) ⟨Nat.le_of_ble_eq_true rfl, Nat.le_of_ble_eq_true rfl⟩, hB _ lk_168, hB _ lk_169⟩ ⟨bl_, va_recv (ci := 0) (q0 := 1) hK hP rfl rfl, pre_ hP hK hD hN⟩ rfl rfl hl.1 rfl (lv_room (Nat.le_of_ble_eq_true rfl)) nd_Frames_copyWords_22 ⟨Nat.zero_le _, Nat.zero_le _⟩) hD hS hA (fun H locs hP hD hS => ?_)
      obtain ⟨σ2, hc, hf⟩ := mi_cv_el hf
      refine ca_v (va_runV (C := "MovedFrames$Frames") (As := [.int ((x2 * (16 : Int32)) + x3), .int r1]) (rest := []) ⟨hx, hb, hml, hown, hB⟩ (kw_Frames_write l dC dI q cI cZ _ σ ((x2 * (16 : Int32)) + x3) r1 σ2 hc) ⟨callB_of 2 hB (gi_ lk_338) rfl rfl rfl (hB _ lk_2) (hB _ lk_335) (by decide +kernel) ⟨Nat.le_of_ble_eq_true rfl, Nat.le_of_ble_eq_true rfl⟩, hB _ lk_336, hB _ lk_337⟩ ⟨bl_, va_recv (ci := 0) (q0 := 1) hK hP rfl rfl, pre_ hP hK hD hN⟩ rfl rfl hl.1 rfl (lv_room (Nat.le_of_ble_eq_true rfl)) nd_Frames_copyWords_25 ⟨Nat.zero_le _, Nat.zero_le _⟩) hD hS hA (fun H locs hP hD hS => ?_)
      refine lv_iinc (k := 3) (v := x3 + (1 : Int32)) (lv' := [(3, .int (x3 + (1 : Int32))), (0, .ref (q 1)), (1, .int x1), (2, .int x2)]) hx hb nd_Frames_copyWords_28 hl rfl (congrArg (fun z => x3 + z) (by decide : Int32.ofInt 1 = (1 : Int32))) (by decide) rfl (fun ls hl => ?_)
      refine lv_goto (tgt := 2) hx hb nd_Frames_copyWords_31 (by decide) ?_
      exact hk2 x1 x2 (x3 + (1 : Int32)) σ2 hf _ _ _ (lv_sub hl [1, 2, 3, 0] rfl) hP hD hS
  have L2 : ∀ (n : Nat) (x1 : Int32) (x2 : Int32) (x3 : Int32) (σ : CS), mc_Frames_copyWords_l2 n x1 x2 x3 σ = some σ' → bk_ p l e rm_Frames_copyWords s m ([.ref (q 1), .int z1, .int z2] : List Value).toArray below meth c (MQ below (qv_ (dC, dI) (wd_C q cI cZ) [(cI, .int), (cZ, .boolean)] A σ') ([.ref (q 1), .int z1, .int z2] : List Value).toArray s 0 0 A) A (dC, dI) (wd_C q cI cZ) 4 2 [(0, .ref (q 1)), (1, .int x1), (2, .int x2), (3, .int x3)] [] σ := by
    intro n
    induction n with
    | zero =>
      intro x1 x2 x3 σ hf
      exact mi_no hf
    | succ n ih =>
      intro x1 x2 x3 σ hf
      exact B2 (mc_Frames_copyWords_l2 n) ih x1 x2 x3 σ hf
  have hH : s.heap = s.heap := rfl
  unfold mc_Frames_copyWords at hf
  refine lv_iconst (v := 0) hx hb nd_Frames_copyWords_0 (by decide) ?_
  refine lv_istore_n (lv' := [(3, .int (0 : Int32)), (0, .ref (q 1)), (1, .int z1), (2, .int z2)]) hx hb nd_Frames_copyWords_1 rfl hl (by decide) rfl (fun ls hl => ?_)
  exact L2 FU z1 z2 (0 : Int32) σ hf _ _ _ (lv_sub hl [1, 2, 3, 0] rfl) hP hD hS
abbrev rm_Spaces_movePage : Room := { frames := 2, cells := 0, slots := 0, locals := 45 }
set_option maxHeartbeats 4000000 in
set_option maxRecDepth 100000 in
theorem kw_Spaces_movePage (l : Launch) (dC : Nat → ClassId) (dI : Nat → Nat → Nat) (q : Nat → Nat) (cI cZ : ClassId) (sz : Nat) (σ : CS) (z1 : Int32) (z2 : Int32) (σ' : CS) (hf : mc_Spaces_movePage σ z1 z2 = some σ') : Met l ny_Spaces_movePage nw_Spaces_movePage rm_Spaces_movePage (va_Pc [.ref (q 4), .int z1, .int z2] (pr_ (dC, dI) (wd_C q cI cZ) [(cI, .int), (cZ, .boolean)] sz σ)) (qv_ (dC, dI) (wd_C q cI cZ) [(cI, .int), (cZ, .boolean)] (va_A (wd_C q cI cZ σ) sz) σ') 0 0 (va_A (wd_C q cI cZ σ) sz) := by
  refine Met.ofW (cc := nb_Spaces_movePage) (maxL := 3) (ret := none) (by decide) rfl ?_
  intro p e s m args below meth c s₁ B hml hv
  obtain ⟨rfl, hsz, hP, hK, hD0, hN⟩ := hv
  have hx := B.exec
  have hb := B.bytes
  have hr := B.returns
  have hts := atoms_spec (ws := nw_Spaces_movePage) B.pre
  have hB : ∀ w ∈ BG, w.before ([.ref (q 4), .int z1, .int z2] : List Value).toArray s = true := fun w h => hts w (List.mem_cons_of_mem _ h)
  have hown : s.vm.findClass "MovedFrames$Spaces" = some m.cls := findClass_of_methodNamed B.named
  have hlocks := B.notSynchronized
  subst hsz
  have hD := hD0.self (sz := s.heap.size)
  generalize hAe : va_A (wd_C q cI cZ σ) s.heap.size = A at hD ⊢
  have hA : ∀ q : Nat, s.heap.size ≤ q → A q := fun q h => by rw [← hAe]; exact Or.inr h
  have hS : va_S A s.heap s.heap [] := va_S.rf
  have hl := lv_entry ([.ref (q 4), .int z1, .int z2]) (n := 3) (Nat.le_of_ble_eq_true rfl)
  rw [lg_entry_eq]
  generalize (lg_sl ([.ref (q 4), .int z1, .int z2]) ++ List.replicate (3 - (lg_sl ([.ref (q 4), .int z1, .int z2])).length) Slot.unset).toArray = ls at hl ⊢
  have hl : lv_has ls 3 [(0, .ref (q 4)), (1, .int z1), (2, .int z2)] := hl
  have hH : s.heap = s.heap := rfl
  unfold mc_Spaces_movePage at hf
  refine lv_iload_n hx hb nd_Spaces_movePage_0 rfl (lv_at hl 1 rfl) ?_
  obtain ⟨r1, hc, hf⟩ := mi_cp_el hf
  refine ca_i (va_runSN (As := [.int z1]) (rest := []) ⟨hx, hb, hml, hown, hB⟩ (kw_F_isFrame l dC dI q cI cZ _ σ z1 r1 hc) ⟨va_cnB 1 hB (gi_ lk_139) rfl rfl rfl hN.2.2.1 (hB _ lk_1) (by decide +kernel) ⟨Nat.le_of_ble_eq_true rfl, Nat.le_of_ble_eq_true rfl⟩, hB _ lk_138, trivial⟩ ⟨bl_, pre_ hP hK hD hN⟩ rfl rfl hl.1 rfl (lv_room (Nat.le_of_ble_eq_true rfl)) nd_Spaces_movePage_1 ⟨Nat.zero_le _, Nat.zero_le _⟩) hD hS hA (fun H locs hP hD hS => ?_)
  refine lv_if_eq (tgt := 14) hx hb nd_Spaces_movePage_4 (by decide) (fun hc => ?_) (fun hc => ?_)
  · have hf := mi_if_t hc hf
    exact re_v hx hb hr hlocks (mi_eq hf) hP hK hD hS nd_Spaces_movePage_14
  · have hf := mi_if_f hc hf
    refine lv_iload_n hx hb nd_Spaces_movePage_7 rfl (lv_at hl 2 rfl) ?_
    obtain ⟨r2, hc, hf⟩ := mi_cp_el hf
    refine ca_i (va_runSN (As := [.int z2]) (rest := []) ⟨hx, hb, hml, hown, hB⟩ (kw_F_isFrame l dC dI q cI cZ _ σ z2 r2 hc) ⟨va_cnB 1 hB (gi_ lk_139) rfl rfl rfl hN.2.2.1 (hB _ lk_1) (by decide +kernel) ⟨Nat.le_of_ble_eq_true rfl, Nat.le_of_ble_eq_true rfl⟩, hB _ lk_138, trivial⟩ ⟨bl_, pre_ hP hK hD hN⟩ rfl rfl hl.1 rfl (lv_room (Nat.le_of_ble_eq_true rfl)) nd_Spaces_movePage_8 ⟨Nat.zero_le _, Nat.zero_le _⟩) hD hS hA (fun H locs hP hD hS => ?_)
    refine lv_if_ne (tgt := 15) hx hb nd_Spaces_movePage_11 (by decide) (fun hc => ?_) (fun hc => ?_)
    · have hf := mi_if_f hc hf
      refine lv_aload_n hx hb nd_Spaces_movePage_15 rfl (lv_at hl 0 rfl) ?_
      refine va_get (D := (dC, dI)) (ci := 4) (v := .ref (q 1)) (C := RX4) (T := TX4) (N := 4) hx hb hB inB4 hown hK hP 4 rfl rfl 0 (by decide) (hB _ lk_80) (fun _ h9 => h9) rfl nd_Spaces_movePage_16 ?_
      refine lv_iload_n hx hb nd_Spaces_movePage_19 rfl (lv_at hl 2 rfl) ?_
      refine lv_iconst (v := 4) hx hb nd_Spaces_movePage_20 (by decide) ?_
      obtain ⟨σ3, hc, hf⟩ := mi_cv_el hf
      refine ca_v (va_runV (C := "MovedFrames$Frames") (As := [.int z2, .int (4 : Int32)]) (rest := []) ⟨hx, hb, hml, hown, hB⟩ (kw_Frames_giveTo l dC dI q cI cZ _ σ z2 (4 : Int32) σ3 hc) ⟨callB_of 2 hB (gi_ lk_326) rfl rfl rfl (hB _ lk_2) (hB _ lk_603) (by decide +kernel) ⟨Nat.le_of_ble_eq_true rfl, Nat.le_of_ble_eq_true rfl⟩, hB _ lk_324, hB _ lk_325⟩ ⟨bl_, va_recv (ci := 0) (q0 := 1) hK hP rfl rfl, pre_ hP hK hD hN⟩ rfl rfl hl.1 rfl (lv_room (Nat.le_of_ble_eq_true rfl)) nd_Spaces_movePage_21 ⟨Nat.zero_le _, Nat.zero_le _⟩) hD hS hA (fun H locs hP hD hS => ?_)
      refine lv_aload_n hx hb nd_Spaces_movePage_24 rfl (lv_at hl 0 rfl) ?_
      refine va_get (D := (dC, dI)) (ci := 4) (v := .ref (q 1)) (C := RX4) (T := TX4) (N := 4) hx hb hB inB4 hown hK hP 4 rfl rfl 0 (by decide) (hB _ lk_80) (fun _ h9 => h9) rfl nd_Spaces_movePage_25 ?_
      refine lv_iload_n hx hb nd_Spaces_movePage_28 rfl (lv_at hl 1 rfl) ?_
      refine lv_iload_n hx hb nd_Spaces_movePage_29 rfl (lv_at hl 2 rfl) ?_
      obtain ⟨σ4, hc, hf⟩ := mi_cv_el hf
      refine ca_v (va_runV (C := "MovedFrames$Frames") (As := [.int z1, .int z2]) (rest := []) ⟨hx, hb, hml, hown, hB⟩ (kw_Frames_copyWords l dC dI q cI cZ _ σ3 z1 z2 σ4 hc) ⟨callB_of 2 hB (gi_ lk_607) rfl rfl rfl (hB _ lk_2) (hB _ lk_604) (by decide +kernel) ⟨Nat.le_of_ble_eq_true rfl, Nat.le_of_ble_eq_true rfl⟩, hB _ lk_605, hB _ lk_606⟩ ⟨bl_, va_recv (ci := 0) (q0 := 1) hK hP rfl rfl, pre_ hP hK hD hN⟩ rfl rfl hl.1 rfl (lv_room (Nat.le_of_ble_eq_true rfl)) nd_Spaces_movePage_30 ⟨Nat.zero_le _, Nat.zero_le _⟩) hD hS hA (fun H locs hP hD hS => ?_)
      refine lv_aload_n hx hb nd_Spaces_movePage_33 rfl (lv_at hl 0 rfl) ?_
      refine va_get (D := (dC, dI)) (ci := 4) (v := .ref (q 1)) (C := RX4) (T := TX4) (N := 4) hx hb hB inB4 hown hK hP 4 rfl rfl 0 (by decide) (hB _ lk_80) (fun _ h9 => h9) rfl nd_Spaces_movePage_34 ?_
      refine lv_iload_n hx hb nd_Spaces_movePage_37 rfl (lv_at hl 1 rfl) ?_
      obtain ⟨σ5, hc, hf⟩ := mi_cv_el hf
      refine ca_v (va_runV (C := "MovedFrames$Frames") (As := [.int z1]) (rest := []) ⟨hx, hb, hml, hown, hB⟩ (kw_Frames_makeFree l dC dI q cI cZ _ σ4 z1 σ5 hc) ⟨callB_of 1 hB (gi_ lk_372) rfl rfl rfl (hB _ lk_2) (hB _ lk_438) (by decide +kernel) ⟨Nat.le_of_ble_eq_true rfl, Nat.le_of_ble_eq_true rfl⟩, hB _ lk_370, hB _ lk_371⟩ ⟨bl_, va_recv (ci := 0) (q0 := 1) hK hP rfl rfl, pre_ hP hK hD hN⟩ rfl rfl hl.1 rfl (lv_room (Nat.le_of_ble_eq_true rfl)) nd_Spaces_movePage_38 ⟨Nat.zero_le _, Nat.zero_le _⟩) hD hS hA (fun H locs hP hD hS => ?_)
      refine lv_aload_n hx hb nd_Spaces_movePage_41 rfl (lv_at hl 0 rfl) ?_
      refine lv_aload_n hx hb nd_Spaces_movePage_42 rfl (lv_at hl 0 rfl) ?_
      refine va_get (D := (dC, dI)) (ci := 4) (v := .ref (q 14)) (C := RX4) (T := TX4) (N := 4) hx hb hB inB4 hown hK hP 4 rfl rfl 3 (by decide) (hB _ lk_83) (fun _ h9 => h9) rfl nd_Spaces_movePage_43 ?_
      refine lv_iload_n hx hb nd_Spaces_movePage_46 rfl (lv_at hl 1 rfl) ?_
      obtain ⟨hg, hf⟩ := mi_gd_el hf
      refine va_iald hx hb hK hP 14 0 rfl rfl hg nd_Spaces_movePage_47 ?_
      refine lv_iload_n hx hb nd_Spaces_movePage_48 rfl (lv_at hl 2 rfl) ?_
      obtain ⟨σ6, hc, hf⟩ := mi_cv_el hf
      refine ca_v (va_runV (C := "MovedFrames$Spaces") (As := [.int ((gc_eo σ5) z1.toNatClampNeg), .int z2]) (rest := []) ⟨hx, hb, hml, hown, hB⟩ (kw_Spaces_link l dC dI q cI cZ _ σ5 ((gc_eo σ5) z1.toNatClampNeg) z2 σ6 hc) ⟨callB_of 2 hB (gi_ lk_553) rfl rfl rfl (hB _ lk_5) (hB _ lk_550) (by decide +kernel) ⟨Nat.le_of_ble_eq_true rfl, Nat.le_of_ble_eq_true rfl⟩, hB _ lk_552, hB _ ls_20⟩ ⟨bl_, va_recv (ci := 4) (q0 := 4) hK hP rfl rfl, pre_ hP hK hD hN⟩ rfl rfl hl.1 rfl (lv_room (Nat.le_of_ble_eq_true rfl)) nd_Spaces_movePage_49 ⟨Nat.zero_le _, Nat.zero_le _⟩) hD hS hA (fun H locs hP hD hS => ?_)
      exact re_v hx hb hr hlocks (mi_eq hf) hP hK hD hS nd_Spaces_movePage_52
    · have hf := mi_if_t hc hf
      exact re_v hx hb hr hlocks (mi_eq hf) hP hK hD hS nd_Spaces_movePage_14
