abbrev rm_F_sizeFor : Room := { frames := 0, cells := 0, slots := 0, locals := 0 }
set_option maxHeartbeats 4000000 in
set_option maxRecDepth 100000 in
theorem kw_F_sizeFor (l : Launch) (dC : Nat → ClassId) (dI : Nat → Nat → Nat) (q : Nat → Nat) (cI cZ : ClassId) (sz : Nat) (σ : CS) (z0 : Int32) (v : Int32) (hf : mc_sizeFor z0 = some v) : Met l ny_F_sizeFor nw_F_sizeFor rm_F_sizeFor (va_Pc [.int z0] (pr_ (dC, dI) (wd_C q cI cZ) [(cI, .int), (cZ, .boolean)] sz σ)) (qi_ (dC, dI) (wd_C q cI cZ) [(cI, .int), (cZ, .boolean)] (va_A (wd_C q cI cZ σ) sz) v σ) 0 0 (va_A (wd_C q cI cZ σ) sz) := by
  refine Met.ofW (cc := nb_F_sizeFor) (maxL := 1) (ret := (some .int)) (by decide) rfl ?_
  intro p e s m args below meth c s₁ B hml hv
  obtain ⟨rfl, hsz, hP, hK, hD0, hN⟩ := hv
  have hx := B.exec
  have hb := B.bytes
  have hr := B.returns
  have hts := atoms_spec (ws := nw_F_sizeFor) B.pre
  have hB : ∀ w ∈ BG, w.before ([.int z0] : List Value).toArray s = true := fun w h => hts w (List.mem_cons_of_mem _ h)
  have hown : s.vm.findClass "MovedFrames" = some m.cls := findClass_of_methodNamed B.named
  have hlocks := B.notSynchronized
  subst hsz
  have hD := hD0.self (sz := s.heap.size)
  generalize hAe : va_A (wd_C q cI cZ σ) s.heap.size = A at hD ⊢
  have hA : ∀ q : Nat, s.heap.size ≤ q → A q := fun q h => by rw [← hAe]; exact Or.inr h
  have hS : va_S A s.heap s.heap [] := va_S.rf
  have hl := lv_entry ([.int z0]) (n := 1) (Nat.le_of_ble_eq_true rfl)
  rw [lg_entry_eq]
  generalize (lg_sl ([.int z0]) ++ List.replicate (1 - (lg_sl ([.int z0])).length) Slot.unset).toArray = ls at hl ⊢
  have hl : lv_has ls 1 [(0, .int z0)] := hl
  have hH : s.heap = s.heap := rfl
  unfold mc_sizeFor at hf
  refine lv_iload_n hx hb nd_F_sizeFor_0 rfl (lv_at hl 0 rfl) ?_
  refine lv_iconst (v := 2) hx hb nd_F_sizeFor_1 (by decide) ?_
  refine lv_icmp_gt (tgt := 7) hx hb nd_F_sizeFor_2 (by decide) (fun hc => ?_) (fun hc => ?_)
  · have hf := mi_if_t hc hf
    refine lv_iload_n hx hb nd_F_sizeFor_7 rfl (lv_at hl 0 rfl) ?_
    refine lv_iconst (v := 4) hx hb nd_F_sizeFor_8 (by decide) ?_
    refine lv_icmp_gt (tgt := 16) hx hb nd_F_sizeFor_9 (by decide) (fun hc => ?_) (fun hc => ?_)
    · have hf := mi_if_t hc hf
      refine lv_bipush (v := 8) hx hb nd_F_sizeFor_16 (by decide) ?_
      exact re_i hx hb hr hlocks (mi_eq hf) (rfl) hP hK hD hS nd_F_sizeFor_18
    · have hf := mi_if_f hc hf
      refine lv_iconst (v := 4) hx hb nd_F_sizeFor_12 (by decide) ?_
      refine lv_goto (tgt := 18) hx hb nd_F_sizeFor_13 (by decide) ?_
      exact re_i hx hb hr hlocks (mi_eq hf) (rfl) hP hK hD hS nd_F_sizeFor_18
  · have hf := mi_if_f hc hf
    refine lv_iconst (v := 2) hx hb nd_F_sizeFor_5 (by decide) ?_
    exact re_i hx hb hr hlocks (mi_eq hf) (rfl) hP hK hD hS nd_F_sizeFor_6
abbrev rm_Slabs_bitOf : Room := { frames := 0, cells := 0, slots := 0, locals := 0 }
set_option maxHeartbeats 4000000 in
set_option maxRecDepth 100000 in
theorem kw_Slabs_bitOf (l : Launch) (dC : Nat → ClassId) (dI : Nat → Nat → Nat) (q : Nat → Nat) (cI cZ : ClassId) (sz : Nat) (σ : CS) (z1 : Int32) (v : Int32) (hf : mc_Slabs_bitOf σ z1 = some v) : Met l ny_Slabs_bitOf nw_Slabs_bitOf rm_Slabs_bitOf (va_Pc [.ref (q 2), .int z1] (pr_ (dC, dI) (wd_C q cI cZ) [(cI, .int), (cZ, .boolean)] sz σ)) (qi_ (dC, dI) (wd_C q cI cZ) [(cI, .int), (cZ, .boolean)] (va_A (wd_C q cI cZ σ) sz) v σ) 0 0 (va_A (wd_C q cI cZ σ) sz) := by
  refine Met.ofW (cc := nb_Slabs_bitOf) (maxL := 3) (ret := (some .int)) (by decide) rfl ?_
  intro p e s m args below meth c s₁ B hml hv
  obtain ⟨rfl, hsz, hP, hK, hD0, hN⟩ := hv
  have hx := B.exec
  have hb := B.bytes
  have hr := B.returns
  have hts := atoms_spec (ws := nw_Slabs_bitOf) B.pre
  have hB : ∀ w ∈ BG, w.before ([.ref (q 2), .int z1] : List Value).toArray s = true := fun w h => hts w (List.mem_cons_of_mem _ h)
  have hown : s.vm.findClass "MovedFrames$Slabs" = some m.cls := findClass_of_methodNamed B.named
  have hlocks := B.notSynchronized
  subst hsz
  have hD := hD0.self (sz := s.heap.size)
  generalize hAe : va_A (wd_C q cI cZ σ) s.heap.size = A at hD ⊢
  have hA : ∀ q : Nat, s.heap.size ≤ q → A q := fun q h => by rw [← hAe]; exact Or.inr h
  have hS : va_S A s.heap s.heap [] := va_S.rf
  have hl := lv_entry ([.ref (q 2), .int z1]) (n := 3) (Nat.le_of_ble_eq_true rfl)
  rw [lg_entry_eq]
  generalize (lg_sl ([.ref (q 2), .int z1]) ++ List.replicate (3 - (lg_sl ([.ref (q 2), .int z1])).length) Slot.unset).toArray = ls at hl ⊢
  have hl : lv_has ls 3 [(0, .ref (q 2)), (1, .int z1)] := hl
  have hH : s.heap = s.heap := rfl
  unfold mc_Slabs_bitOf at hf
  refine lv_aload_n hx hb nd_Slabs_bitOf_0 rfl (lv_at hl 0 rfl) ?_
  refine va_get (D := (dC, dI)) (ci := 3) (v := .ref (q 8)) (C := RX3) (T := TX3) (N := 3) hx hb hB inB3 hown hK hP 2 rfl rfl 1 (by decide) (hB _ lk_49) (fun _ h9 => h9) rfl nd_Slabs_bitOf_1 ?_
  refine lv_iload_n hx hb nd_Slabs_bitOf_4 rfl (lv_at hl 1 rfl) ?_
  refine lv_bipush (v := 16) hx hb nd_Slabs_bitOf_5 (by decide) ?_
  refine lv_idiv hx hb nd_Slabs_bitOf_7 (by decide) ?_
  obtain ⟨hg, hf⟩ := mi_gd_el hf
  refine va_iald hx hb hK hP 8 0 rfl rfl hg nd_Slabs_bitOf_8 ?_
  refine lv_istore_n (lv' := [(2, .int ((gc_sz σ) (z1 / (16 : Int32)).toNatClampNeg)), (0, .ref (q 2)), (1, .int z1)]) hx hb nd_Slabs_bitOf_9 rfl hl (by decide) rfl (fun ls hl => ?_)
  refine lv_iload_n hx hb nd_Slabs_bitOf_10 rfl (lv_at hl 0 rfl) ?_
  refine lv_if_ne (tgt := 18) hx hb nd_Slabs_bitOf_11 (by decide) (fun hc => ?_) (fun hc => ?_)
  · have hf := mi_if_f hc hf
    refine lv_iconst (v := 1) hx hb nd_Slabs_bitOf_18 (by decide) ?_
    refine lv_iload_n hx hb nd_Slabs_bitOf_19 rfl (lv_at hl 2 rfl) ?_
    refine lv_bipush (v := 16) hx hb nd_Slabs_bitOf_20 (by decide) ?_
    refine lv_irem hx hb nd_Slabs_bitOf_22 (by decide) ?_
    refine lv_iload_n hx hb nd_Slabs_bitOf_23 rfl (lv_at hl 0 rfl) ?_
    obtain ⟨hg, hf⟩ := mi_gd_el hf
    refine lv_idiv hx hb nd_Slabs_bitOf_24 hg ?_
    refine lv_ishl hx hb nd_Slabs_bitOf_25 ?_
    exact re_i hx hb hr hlocks (mi_eq hf) (rfl) hP hK hD hS nd_Slabs_bitOf_26
  · have hf := mi_if_t hc hf
    refine lv_iconst (v := 0) hx hb nd_Slabs_bitOf_14 (by decide) ?_
    refine lv_goto (tgt := 26) hx hb nd_Slabs_bitOf_15 (by decide) ?_
    exact re_i hx hb hr hlocks (mi_eq hf) (rfl) hP hK hD hS nd_Slabs_bitOf_26
abbrev rm_Slabs_placeAt : Room := { frames := 1, cells := 0, slots := 0, locals := 22 }
set_option maxHeartbeats 4000000 in
set_option maxRecDepth 100000 in
theorem kw_Slabs_placeAt (l : Launch) (dC : Nat → ClassId) (dI : Nat → Nat → Nat) (q : Nat → Nat) (cI cZ : ClassId) (sz : Nat) (σ : CS) (z1 : Int32) (v : Int32) (hf : mc_Slabs_placeAt σ z1 = some v) : Met l ny_Slabs_placeAt nw_Slabs_placeAt rm_Slabs_placeAt (va_Pc [.ref (q 2), .int z1] (pr_ (dC, dI) (wd_C q cI cZ) [(cI, .int), (cZ, .boolean)] sz σ)) (qi_ (dC, dI) (wd_C q cI cZ) [(cI, .int), (cZ, .boolean)] (va_A (wd_C q cI cZ σ) sz) v σ) 0 0 (va_A (wd_C q cI cZ σ) sz) := by
  refine Met.ofW (cc := nb_Slabs_placeAt) (maxL := 2) (ret := (some .int)) (by decide) rfl ?_
  intro p e s m args below meth c s₁ B hml hv
  obtain ⟨rfl, hsz, hP, hK, hD0, hN⟩ := hv
  have hx := B.exec
  have hb := B.bytes
  have hr := B.returns
  have hts := atoms_spec (ws := nw_Slabs_placeAt) B.pre
  have hB : ∀ w ∈ BG, w.before ([.ref (q 2), .int z1] : List Value).toArray s = true := fun w h => hts w (List.mem_cons_of_mem _ h)
  have hown : s.vm.findClass "MovedFrames$Slabs" = some m.cls := findClass_of_methodNamed B.named
  have hlocks := B.notSynchronized
  subst hsz
  have hD := hD0.self (sz := s.heap.size)
  generalize hAe : va_A (wd_C q cI cZ σ) s.heap.size = A at hD ⊢
  have hA : ∀ q : Nat, s.heap.size ≤ q → A q := fun q h => by rw [← hAe]; exact Or.inr h
  have hS : va_S A s.heap s.heap [] := va_S.rf
  have hl := lv_entry ([.ref (q 2), .int z1]) (n := 2) (Nat.le_of_ble_eq_true rfl)
  rw [lg_entry_eq]
  generalize (lg_sl ([.ref (q 2), .int z1]) ++ List.replicate (2 - (lg_sl ([.ref (q 2), .int z1])).length) Slot.unset).toArray = ls at hl ⊢
  have hl : lv_has ls 2 [(0, .ref (q 2)), (1, .int z1)] := hl
  have hH : s.heap = s.heap := rfl
  unfold mc_Slabs_placeAt at hf
  refine lv_iload_n hx hb nd_Slabs_placeAt_0 rfl (lv_at hl 1 rfl) ?_
  refine lv_if_lt (tgt := 23) hx hb nd_Slabs_placeAt_1 (by decide) (fun hc => ?_) (fun hc => ?_)
  · have hf := mi_if_t hc hf
    refine lv_iconst (v := (-1)) hx hb nd_Slabs_placeAt_23 (by decide) ?_
    exact re_i hx hb hr hlocks (mi_eq hf) (rfl) hP hK hD hS nd_Slabs_placeAt_24
  · have hf := mi_if_f hc hf
    refine lv_iload_n hx hb nd_Slabs_placeAt_4 rfl (lv_at hl 1 rfl) ?_
    refine lv_sipush (v := 1024) hx hb nd_Slabs_placeAt_5 (by decide) ?_
    refine lv_icmp_ge (tgt := 23) hx hb nd_Slabs_placeAt_8 (by decide) (fun hc => ?_) (fun hc => ?_)
    · have hf := mi_if_t hc hf
      refine lv_iconst (v := (-1)) hx hb nd_Slabs_placeAt_23 (by decide) ?_
      exact re_i hx hb hr hlocks (mi_eq hf) (rfl) hP hK hD hS nd_Slabs_placeAt_24
    · have hf := mi_if_f hc hf
      refine lv_aload_n hx hb nd_Slabs_placeAt_11 rfl (lv_at hl 0 rfl) ?_
      refine va_get (D := (dC, dI)) (ci := 3) (v := .ref (q 8)) (C := RX3) (T := TX3) (N := 3) hx hb hB inB3 hown hK hP 2 rfl rfl 1 (by decide) (hB _ lk_49) (fun _ h9 => h9) rfl nd_Slabs_placeAt_12 ?_
      refine lv_iload_n hx hb nd_Slabs_placeAt_15 rfl (lv_at hl 1 rfl) ?_
      refine lv_bipush (v := 16) hx hb nd_Slabs_placeAt_16 (by decide) ?_
      refine lv_idiv hx hb nd_Slabs_placeAt_18 (by decide) ?_
      obtain ⟨hg, hf⟩ := mi_gd_el hf
      refine va_iald hx hb hK hP 8 0 rfl rfl hg nd_Slabs_placeAt_19 ?_
      refine lv_if_ne (tgt := 25) hx hb nd_Slabs_placeAt_20 (by decide) (fun hc => ?_) (fun hc => ?_)
      · have hf := mi_if_f hc hf
        refine lv_aload_n hx hb nd_Slabs_placeAt_25 rfl (lv_at hl 0 rfl) ?_
        refine va_get (D := (dC, dI)) (ci := 3) (v := .ref (q 9)) (C := RX3) (T := TX3) (N := 3) hx hb hB inB3 hown hK hP 2 rfl rfl 2 (by decide) (hB _ lk_50) (fun _ h9 => h9) rfl nd_Slabs_placeAt_26 ?_
        refine lv_iload_n hx hb nd_Slabs_placeAt_29 rfl (lv_at hl 1 rfl) ?_
        refine lv_bipush (v := 16) hx hb nd_Slabs_placeAt_30 (by decide) ?_
        refine lv_idiv hx hb nd_Slabs_placeAt_32 (by decide) ?_
        obtain ⟨hg, hf⟩ := mi_gd_el hf
        refine va_iald hx hb hK hP 9 0 rfl rfl hg nd_Slabs_placeAt_33 ?_
        refine lv_aload_n hx hb nd_Slabs_placeAt_34 rfl (lv_at hl 0 rfl) ?_
        refine lv_iload_n hx hb nd_Slabs_placeAt_35 rfl (lv_at hl 1 rfl) ?_
        obtain ⟨r1, hc, hf⟩ := mi_cp_el hf
        refine ca_i (va_runV (C := "MovedFrames$Slabs") (As := [.int z1]) (rest := [.int ((gc_tk σ) (z1 / (16 : Int32)).toNatClampNeg)]) ⟨hx, hb, hml, hown, hB⟩ (kw_Slabs_bitOf l dC dI q cI cZ _ σ z1 r1 hc) ⟨callB_of 1 hB (gi_ lk_314) rfl rfl rfl (hB _ lk_3) (hB _ lk_311) (by decide +kernel) ⟨Nat.le_of_ble_eq_true rfl, Nat.le_of_ble_eq_true rfl⟩, hB _ lk_313, hB _ ls_7⟩ ⟨bl_, va_recv (ci := 3) (q0 := 2) hK hP rfl rfl, pre_ hP hK hD hN⟩ rfl rfl hl.1 rfl (lv_room (Nat.le_of_ble_eq_true rfl)) nd_Slabs_placeAt_36 ⟨Nat.zero_le _, Nat.zero_le _⟩) hD hS hA (fun H locs hP hD hS => ?_)
        refine lv_iand hx hb nd_Slabs_placeAt_39 ?_
        refine lv_if_eq (tgt := 47) hx hb nd_Slabs_placeAt_40 (by decide) (fun hc => ?_) (fun hc => ?_)
        · have hf := mi_if_t hc hf
          refine lv_iconst (v := (-1)) hx hb nd_Slabs_placeAt_47 (by decide) ?_
          exact re_i hx hb hr hlocks (mi_eq hf) (rfl) hP hK hD hS nd_Slabs_placeAt_48
        · have hf := mi_if_f hc hf
          refine lv_iload_n hx hb nd_Slabs_placeAt_43 rfl (lv_at hl 1 rfl) ?_
          refine lv_goto (tgt := 48) hx hb nd_Slabs_placeAt_44 (by decide) ?_
          exact re_i hx hb hr hlocks (mi_eq hf) (rfl) hP hK hD hS nd_Slabs_placeAt_48
      · have hf := mi_if_t hc hf
        refine lv_iconst (v := (-1)) hx hb nd_Slabs_placeAt_23 (by decide) ?_
        exact re_i hx hb hr hlocks (mi_eq hf) (rfl) hP hK hD hS nd_Slabs_placeAt_24
abbrev rm_Slabs_lowestRoom : Room := { frames := 2, cells := 0, slots := 0, locals := 43 }
set_option maxHeartbeats 4000000 in
set_option maxRecDepth 100000 in
theorem kw_Slabs_lowestRoom (l : Launch) (dC : Nat → ClassId) (dI : Nat → Nat → Nat) (q : Nat → Nat) (cI cZ : ClassId) (sz : Nat) (σ : CS) (z1 : Int32) (v : Int32) (hf : mc_Slabs_lowestRoom σ z1 = some v) : Met l ny_Slabs_lowestRoom nw_Slabs_lowestRoom rm_Slabs_lowestRoom (va_Pc [.ref (q 2), .int z1] (pr_ (dC, dI) (wd_C q cI cZ) [(cI, .int), (cZ, .boolean)] sz σ)) (qi_ (dC, dI) (wd_C q cI cZ) [(cI, .int), (cZ, .boolean)] (va_A (wd_C q cI cZ σ) sz) v σ) 0 0 (va_A (wd_C q cI cZ σ) sz) := by
  refine Met.ofW (cc := nb_Slabs_lowestRoom) (maxL := 3) (ret := (some .int)) (by decide) rfl ?_
  intro p e s m args below meth c s₁ B hml hv
  obtain ⟨rfl, hsz, hP, hK, hD0, hN⟩ := hv
  have hx := B.exec
  have hb := B.bytes
  have hr := B.returns
  have hts := atoms_spec (ws := nw_Slabs_lowestRoom) B.pre
  have hB : ∀ w ∈ BG, w.before ([.ref (q 2), .int z1] : List Value).toArray s = true := fun w h => hts w (List.mem_cons_of_mem _ h)
  have hown : s.vm.findClass "MovedFrames$Slabs" = some m.cls := findClass_of_methodNamed B.named
  have hlocks := B.notSynchronized
  subst hsz
  have hD := hD0.self (sz := s.heap.size)
  generalize hAe : va_A (wd_C q cI cZ σ) s.heap.size = A at hD ⊢
  have hA : ∀ q : Nat, s.heap.size ≤ q → A q := fun q h => by rw [← hAe]; exact Or.inr h
  have hS : va_S A s.heap s.heap [] := va_S.rf
  have hl := lv_entry ([.ref (q 2), .int z1]) (n := 3) (Nat.le_of_ble_eq_true rfl)
  rw [lg_entry_eq]
  generalize (lg_sl ([.ref (q 2), .int z1]) ++ List.replicate (3 - (lg_sl ([.ref (q 2), .int z1])).length) Slot.unset).toArray = ls at hl ⊢
  have hl : lv_has ls 3 [(0, .ref (q 2)), (1, .int z1)] := hl
  have B2 : ∀ (k2 : Int32 → Int32 → CS → Option (Int32)) (hk2 : ∀ (x1 : Int32) (x2 : Int32), k2 x1 x2 σ = some v → bk_ p l e rm_Slabs_lowestRoom s m ([.ref (q 2), .int z1] : List Value).toArray below meth c (MQ below (qi_ (dC, dI) (wd_C q cI cZ) [(cI, .int), (cZ, .boolean)] A v σ) ([.ref (q 2), .int z1] : List Value).toArray s 0 0 A) A (dC, dI) (wd_C q cI cZ) 3 2 [(0, .ref (q 2)), (1, .int x1), (2, .int x2)] [] σ) (x1 : Int32) (x2 : Int32), mc_Slabs_lowestRoom_b2 k2 x1 x2 σ = some v → bk_ p l e rm_Slabs_lowestRoom s m ([.ref (q 2), .int z1] : List Value).toArray below meth c (MQ below (qi_ (dC, dI) (wd_C q cI cZ) [(cI, .int), (cZ, .boolean)] A v σ) ([.ref (q 2), .int z1] : List Value).toArray s 0 0 A) A (dC, dI) (wd_C q cI cZ) 3 2 [(0, .ref (q 2)), (1, .int x1), (2, .int x2)] [] σ := by
    intro k2 hk2 x1 x2 hf ls H locs hl hP hD hS
    unfold mc_Slabs_lowestRoom_b2 at hf
    refine lv_iload_n hx hb nd_Slabs_lowestRoom_2 rfl (lv_at hl 2 rfl) ?_
    refine lv_bipush (v := 16) hx hb nd_Slabs_lowestRoom_3 (by decide) ?_
    refine lv_icmp_ge (tgt := 35) hx hb nd_Slabs_lowestRoom_5 (by decide) (fun hc => ?_) (fun hc => ?_)
    · have hf := mi_if_t hc hf
      refine lv_iconst (v := (-1)) hx hb nd_Slabs_lowestRoom_35 (by decide) ?_
      exact re_i hx hb hr hlocks (mi_eq hf) (rfl) hP hK hD hS nd_Slabs_lowestRoom_36
    · have hf := mi_if_f hc hf
      refine lv_aload_n hx hb nd_Slabs_lowestRoom_8 rfl (lv_at hl 0 rfl) ?_
      refine lv_iload_n hx hb nd_Slabs_lowestRoom_9 rfl (lv_at hl 1 rfl) ?_
      refine lv_bipush (v := 16) hx hb nd_Slabs_lowestRoom_10 (by decide) ?_
      refine lv_imul hx hb nd_Slabs_lowestRoom_12 ?_
      refine lv_iload_n hx hb nd_Slabs_lowestRoom_13 rfl (lv_at hl 2 rfl) ?_
      refine lv_iadd hx hb nd_Slabs_lowestRoom_14 ?_
      obtain ⟨r1, hc, hf⟩ := mi_cp_el hf
      refine ca_i (va_runV (C := "MovedFrames$Slabs") (As := [.int ((x1 * (16 : Int32)) + x2)]) (rest := []) ⟨hx, hb, hml, hown, hB⟩ (kw_Slabs_placeAt l dC dI q cI cZ _ σ ((x1 * (16 : Int32)) + x2) r1 hc) ⟨callB_of 1 hB (gi_ lk_310) rfl rfl rfl (hB _ lk_3) (hB _ lk_307) (by decide +kernel) ⟨Nat.le_of_ble_eq_true rfl, Nat.le_of_ble_eq_true rfl⟩, hB _ lk_308, hB _ lk_309⟩ ⟨bl_, va_recv (ci := 3) (q0 := 2) hK hP rfl rfl, pre_ hP hK hD hN⟩ rfl rfl hl.1 rfl (lv_room (Nat.le_of_ble_eq_true rfl)) nd_Slabs_lowestRoom_15 ⟨Nat.zero_le _, Nat.zero_le _⟩) hD hS hA (fun H locs hP hD hS => ?_)
      refine lv_iconst (v := (-1)) hx hb nd_Slabs_lowestRoom_18 (by decide) ?_
      refine lv_icmp_ne (tgt := 29) hx hb nd_Slabs_lowestRoom_19 (by decide) (fun hc => ?_) (fun hc => ?_)
      · have hf := mi_if_f hc hf
        refine lv_iinc (k := 2) (v := x2 + (1 : Int32)) (lv' := [(2, .int (x2 + (1 : Int32))), (0, .ref (q 2)), (1, .int x1)]) hx hb nd_Slabs_lowestRoom_29 hl rfl (congrArg (fun z => x2 + z) (by decide : Int32.ofInt 1 = (1 : Int32))) (by decide) rfl (fun ls hl => ?_)
        refine lv_goto (tgt := 2) hx hb nd_Slabs_lowestRoom_32 (by decide) ?_
        exact hk2 x1 (x2 + (1 : Int32)) hf _ _ _ (lv_sub hl [1, 2, 0] rfl) hP hD hS
      · have hf := mi_if_t hc hf
        refine lv_iload_n hx hb nd_Slabs_lowestRoom_22 rfl (lv_at hl 1 rfl) ?_
        refine lv_bipush (v := 16) hx hb nd_Slabs_lowestRoom_23 (by decide) ?_
        refine lv_imul hx hb nd_Slabs_lowestRoom_25 ?_
        refine lv_iload_n hx hb nd_Slabs_lowestRoom_26 rfl (lv_at hl 2 rfl) ?_
        refine lv_iadd hx hb nd_Slabs_lowestRoom_27 ?_
        exact re_i hx hb hr hlocks (mi_eq hf) (rfl) hP hK hD hS nd_Slabs_lowestRoom_28
  have L2 : ∀ (n : Nat) (x1 : Int32) (x2 : Int32), mc_Slabs_lowestRoom_l2 n x1 x2 σ = some v → bk_ p l e rm_Slabs_lowestRoom s m ([.ref (q 2), .int z1] : List Value).toArray below meth c (MQ below (qi_ (dC, dI) (wd_C q cI cZ) [(cI, .int), (cZ, .boolean)] A v σ) ([.ref (q 2), .int z1] : List Value).toArray s 0 0 A) A (dC, dI) (wd_C q cI cZ) 3 2 [(0, .ref (q 2)), (1, .int x1), (2, .int x2)] [] σ := by
    intro n
    induction n with
    | zero =>
      intro x1 x2 hf
      exact mi_no hf
    | succ n ih =>
      intro x1 x2 hf
      exact B2 (mc_Slabs_lowestRoom_l2 n) ih x1 x2 hf
  have hH : s.heap = s.heap := rfl
  unfold mc_Slabs_lowestRoom at hf
  refine lv_iconst (v := 0) hx hb nd_Slabs_lowestRoom_0 (by decide) ?_
  refine lv_istore_n (lv' := [(2, .int (0 : Int32)), (0, .ref (q 2)), (1, .int z1)]) hx hb nd_Slabs_lowestRoom_1 rfl hl (by decide) rfl (fun ls hl => ?_)
  exact L2 FU z1 (0 : Int32) hf _ _ _ (lv_sub hl [1, 2, 0] rfl) hP hD hS
abbrev rm_Slabs_lowestSlabWithRoom : Room := { frames := 3, cells := 0, slots := 0, locals := 65 }
set_option maxHeartbeats 4000000 in
set_option maxRecDepth 100000 in
theorem kw_Slabs_lowestSlabWithRoom (l : Launch) (dC : Nat → ClassId) (dI : Nat → Nat → Nat) (q : Nat → Nat) (cI cZ : ClassId) (sz : Nat) (σ : CS) (z1 : Int32) (v : Int32) (hf : mc_Slabs_lowestSlabWithRoom σ z1 = some v) : Met l ny_Slabs_lowestSlabWithRoom nw_Slabs_lowestSlabWithRoom rm_Slabs_lowestSlabWithRoom (va_Pc [.ref (q 2), .int z1] (pr_ (dC, dI) (wd_C q cI cZ) [(cI, .int), (cZ, .boolean)] sz σ)) (qi_ (dC, dI) (wd_C q cI cZ) [(cI, .int), (cZ, .boolean)] (va_A (wd_C q cI cZ σ) sz) v σ) 0 0 (va_A (wd_C q cI cZ σ) sz) := by
  refine Met.ofW (cc := nb_Slabs_lowestSlabWithRoom) (maxL := 3) (ret := (some .int)) (by decide) rfl ?_
  intro p e s m args below meth c s₁ B hml hv
  obtain ⟨rfl, hsz, hP, hK, hD0, hN⟩ := hv
  have hx := B.exec
  have hb := B.bytes
  have hr := B.returns
  have hts := atoms_spec (ws := nw_Slabs_lowestSlabWithRoom) B.pre
  have hB : ∀ w ∈ BG, w.before ([.ref (q 2), .int z1] : List Value).toArray s = true := fun w h => hts w (List.mem_cons_of_mem _ h)
  have hown : s.vm.findClass "MovedFrames$Slabs" = some m.cls := findClass_of_methodNamed B.named
  have hlocks := B.notSynchronized
  subst hsz
  have hD := hD0.self (sz := s.heap.size)
  generalize hAe : va_A (wd_C q cI cZ σ) s.heap.size = A at hD ⊢
  have hA : ∀ q : Nat, s.heap.size ≤ q → A q := fun q h => by rw [← hAe]; exact Or.inr h
  have hS : va_S A s.heap s.heap [] := va_S.rf
  have hl := lv_entry ([.ref (q 2), .int z1]) (n := 3) (Nat.le_of_ble_eq_true rfl)
  rw [lg_entry_eq]
  generalize (lg_sl ([.ref (q 2), .int z1]) ++ List.replicate (3 - (lg_sl ([.ref (q 2), .int z1])).length) Slot.unset).toArray = ls at hl ⊢
  have hl : lv_has ls 3 [(0, .ref (q 2)), (1, .int z1)] := hl
  have B2 : ∀ (k2 : Int32 → Int32 → CS → Option (Int32)) (hk2 : ∀ (x1 : Int32) (x2 : Int32), k2 x1 x2 σ = some v → bk_ p l e rm_Slabs_lowestSlabWithRoom s m ([.ref (q 2), .int z1] : List Value).toArray below meth c (MQ below (qi_ (dC, dI) (wd_C q cI cZ) [(cI, .int), (cZ, .boolean)] A v σ) ([.ref (q 2), .int z1] : List Value).toArray s 0 0 A) A (dC, dI) (wd_C q cI cZ) 3 2 [(0, .ref (q 2)), (1, .int x1), (2, .int x2)] [] σ) (x1 : Int32) (x2 : Int32), mc_Slabs_lowestSlabWithRoom_b2 k2 x1 x2 σ = some v → bk_ p l e rm_Slabs_lowestSlabWithRoom s m ([.ref (q 2), .int z1] : List Value).toArray below meth c (MQ below (qi_ (dC, dI) (wd_C q cI cZ) [(cI, .int), (cZ, .boolean)] A v σ) ([.ref (q 2), .int z1] : List Value).toArray s 0 0 A) A (dC, dI) (wd_C q cI cZ) 3 2 [(0, .ref (q 2)), (1, .int x1), (2, .int x2)] [] σ := by
    intro k2 hk2 x1 x2 hf ls H locs hl hP hD hS
    unfold mc_Slabs_lowestSlabWithRoom_b2 at hf
    refine lv_iload_n hx hb nd_Slabs_lowestSlabWithRoom_2 rfl (lv_at hl 2 rfl) ?_
    refine lv_bipush (v := 64) hx hb nd_Slabs_lowestSlabWithRoom_3 (by decide) ?_
    refine lv_icmp_ge (tgt := 35) hx hb nd_Slabs_lowestSlabWithRoom_5 (by decide) (fun hc => ?_) (fun hc => ?_)
    · have hf := mi_if_t hc hf
      refine lv_iconst (v := (-1)) hx hb nd_Slabs_lowestSlabWithRoom_35 (by decide) ?_
      exact re_i hx hb hr hlocks (mi_eq hf) (rfl) hP hK hD hS nd_Slabs_lowestSlabWithRoom_36
    · have hf := mi_if_f hc hf
      refine lv_aload_n hx hb nd_Slabs_lowestSlabWithRoom_8 rfl (lv_at hl 0 rfl) ?_
      refine va_get (D := (dC, dI)) (ci := 3) (v := .ref (q 8)) (C := RX3) (T := TX3) (N := 3) hx hb hB inB3 hown hK hP 2 rfl rfl 1 (by decide) (hB _ lk_49) (fun _ h9 => h9) rfl nd_Slabs_lowestSlabWithRoom_9 ?_
      refine lv_iload_n hx hb nd_Slabs_lowestSlabWithRoom_12 rfl (lv_at hl 2 rfl) ?_
      obtain ⟨hg, hf⟩ := mi_gd_el hf
      refine va_iald hx hb hK hP 8 0 rfl rfl hg nd_Slabs_lowestSlabWithRoom_13 ?_
      refine lv_iload_n hx hb nd_Slabs_lowestSlabWithRoom_14 rfl (lv_at hl 1 rfl) ?_
      refine lv_icmp_ne (tgt := 29) hx hb nd_Slabs_lowestSlabWithRoom_15 (by decide) (fun hc => ?_) (fun hc => ?_)
      · have hf := mi_if_f hc hf
        refine lv_iinc (k := 2) (v := x2 + (1 : Int32)) (lv' := [(2, .int (x2 + (1 : Int32))), (0, .ref (q 2)), (1, .int x1)]) hx hb nd_Slabs_lowestSlabWithRoom_29 hl rfl (congrArg (fun z => x2 + z) (by decide : Int32.ofInt 1 = (1 : Int32))) (by decide) rfl (fun ls hl => ?_)
        refine lv_goto (tgt := 2) hx hb nd_Slabs_lowestSlabWithRoom_32 (by decide) ?_
        exact hk2 x1 (x2 + (1 : Int32)) hf _ _ _ (lv_sub hl [1, 2, 0] rfl) hP hD hS
      · have hf := mi_if_t hc hf
        refine lv_aload_n hx hb nd_Slabs_lowestSlabWithRoom_18 rfl (lv_at hl 0 rfl) ?_
        refine lv_iload_n hx hb nd_Slabs_lowestSlabWithRoom_19 rfl (lv_at hl 2 rfl) ?_
        obtain ⟨r1, hc, hf⟩ := mi_cp_el hf
        refine ca_i (va_runV (C := "MovedFrames$Slabs") (As := [.int x2]) (rest := []) ⟨hx, hb, hml, hown, hB⟩ (kw_Slabs_lowestRoom l dC dI q cI cZ _ σ x2 r1 hc) ⟨callB_of 1 hB (gi_ lk_306) rfl rfl rfl (hB _ lk_3) (hB _ lk_303) (by decide +kernel) ⟨Nat.le_of_ble_eq_true rfl, Nat.le_of_ble_eq_true rfl⟩, hB _ lk_305, hB _ ls_6⟩ ⟨bl_, va_recv (ci := 3) (q0 := 2) hK hP rfl rfl, pre_ hP hK hD hN⟩ rfl rfl hl.1 rfl (lv_room (Nat.le_of_ble_eq_true rfl)) nd_Slabs_lowestSlabWithRoom_20 ⟨Nat.zero_le _, Nat.zero_le _⟩) hD hS hA (fun H locs hP hD hS => ?_)
        refine lv_iconst (v := (-1)) hx hb nd_Slabs_lowestSlabWithRoom_23 (by decide) ?_
        refine lv_icmp_eq (tgt := 29) hx hb nd_Slabs_lowestSlabWithRoom_24 (by decide) (fun hc => ?_) (fun hc => ?_)
        · have hf := mi_if_t hc hf
          refine lv_iinc (k := 2) (v := x2 + (1 : Int32)) (lv' := [(2, .int (x2 + (1 : Int32))), (0, .ref (q 2)), (1, .int x1)]) hx hb nd_Slabs_lowestSlabWithRoom_29 hl rfl (congrArg (fun z => x2 + z) (by decide : Int32.ofInt 1 = (1 : Int32))) (by decide) rfl (fun ls hl => ?_)
          refine lv_goto (tgt := 2) hx hb nd_Slabs_lowestSlabWithRoom_32 (by decide) ?_
          exact hk2 x1 (x2 + (1 : Int32)) hf _ _ _ (lv_sub hl [1, 2, 0] rfl) hP hD hS
        · have hf := mi_if_f hc hf
          refine lv_iload_n hx hb nd_Slabs_lowestSlabWithRoom_27 rfl (lv_at hl 2 rfl) ?_
          exact re_i hx hb hr hlocks (mi_eq hf) (rfl) hP hK hD hS nd_Slabs_lowestSlabWithRoom_28
  have L2 : ∀ (n : Nat) (x1 : Int32) (x2 : Int32), mc_Slabs_lowestSlabWithRoom_l2 n x1 x2 σ = some v → bk_ p l e rm_Slabs_lowestSlabWithRoom s m ([.ref (q 2), .int z1] : List Value).toArray below meth c (MQ below (qi_ (dC, dI) (wd_C q cI cZ) [(cI, .int), (cZ, .boolean)] A v σ) ([.ref (q 2), .int z1] : List Value).toArray s 0 0 A) A (dC, dI) (wd_C q cI cZ) 3 2 [(0, .ref (q 2)), (1, .int x1), (2, .int x2)] [] σ := by
    intro n
    induction n with
    | zero =>
      intro x1 x2 hf
      exact mi_no hf
    | succ n ih =>
      intro x1 x2 hf
      exact B2 (mc_Slabs_lowestSlabWithRoom_l2 n) ih x1 x2 hf
  have hH : s.heap = s.heap := rfl
  unfold mc_Slabs_lowestSlabWithRoom at hf
  refine lv_iconst (v := 0) hx hb nd_Slabs_lowestSlabWithRoom_0 (by decide) ?_
  refine lv_istore_n (lv' := [(2, .int (0 : Int32)), (0, .ref (q 2)), (1, .int z1)]) hx hb nd_Slabs_lowestSlabWithRoom_1 rfl hl (by decide) rfl (fun ls hl => ?_)
  exact L2 FU z1 (0 : Int32) hf _ _ _ (lv_sub hl [1, 2, 0] rfl) hP hD hS
abbrev rm_Frames_isAllFree : Room := { frames := 0, cells := 0, slots := 0, locals := 0 }
set_option maxHeartbeats 4000000 in
set_option maxRecDepth 100000 in
theorem kw_Frames_isAllFree (l : Launch) (dC : Nat → ClassId) (dI : Nat → Nat → Nat) (q : Nat → Nat) (cI cZ : ClassId) (sz : Nat) (σ : CS) (z1 : Int32) (z2 : Int32) (v : Int32) (hf : mc_Frames_isAllFree σ z1 z2 = some v) : Met l ny_Frames_isAllFree nw_Frames_isAllFree rm_Frames_isAllFree (va_Pc [.ref (q 1), .int z1, .int z2] (pr_ (dC, dI) (wd_C q cI cZ) [(cI, .int), (cZ, .boolean)] sz σ)) (qi_ (dC, dI) (wd_C q cI cZ) [(cI, .int), (cZ, .boolean)] (va_A (wd_C q cI cZ σ) sz) v σ) 0 0 (va_A (wd_C q cI cZ σ) sz) := by
  refine Met.ofW (cc := nb_Frames_isAllFree) (maxL := 5) (ret := (some .boolean)) (by decide) rfl ?_
  intro p e s m args below meth c s₁ B hml hv
  obtain ⟨rfl, hsz, hP, hK, hD0, hN⟩ := hv
  have hx := B.exec
  have hb := B.bytes
  have hr := B.returns
  have hts := atoms_spec (ws := nw_Frames_isAllFree) B.pre
  have hB : ∀ w ∈ BG, w.before ([.ref (q 1), .int z1, .int z2] : List Value).toArray s = true := fun w h => hts w (List.mem_cons_of_mem _ h)
  have hown : s.vm.findClass "MovedFrames$Frames" = some m.cls := findClass_of_methodNamed B.named
  have hlocks := B.notSynchronized
  subst hsz
  have hD := hD0.self (sz := s.heap.size)
  generalize hAe : va_A (wd_C q cI cZ σ) s.heap.size = A at hD ⊢
  have hA : ∀ q : Nat, s.heap.size ≤ q → A q := fun q h => by rw [← hAe]; exact Or.inr h
  have hS : va_S A s.heap s.heap [] := va_S.rf
  have hl := lv_entry ([.ref (q 1), .int z1, .int z2]) (n := 5) (Nat.le_of_ble_eq_true rfl)
  rw [lg_entry_eq]
  generalize (lg_sl ([.ref (q 1), .int z1, .int z2]) ++ List.replicate (5 - (lg_sl ([.ref (q 1), .int z1, .int z2])).length) Slot.unset).toArray = ls at hl ⊢
  have hl : lv_has ls 5 [(0, .ref (q 1)), (1, .int z1), (2, .int z2)] := hl
  have hH : s.heap = s.heap := rfl
  unfold mc_Frames_isAllFree at hf
  refine lv_ldc2 (v := (-1)) hx hb hown (hB _ lk_30) nd_Frames_isAllFree_0 ?_
  refine lv_bipush (v := 64) hx hb nd_Frames_isAllFree_3 (by decide) ?_
  refine lv_iconst (v := 1) hx hb nd_Frames_isAllFree_5 (by decide) ?_
  refine lv_iload_n hx hb nd_Frames_isAllFree_6 rfl (lv_at hl 2 rfl) ?_
  refine lv_ishl hx hb nd_Frames_isAllFree_7 ?_
  refine lv_isub hx hb nd_Frames_isAllFree_8 ?_
  refine lv_lushr (v := ((-1 : Int64).toUInt64 >>> (((64 : Int32) - ((1 : Int32) <<< (z2 &&& 31))).toInt64.toUInt64 &&& Int64.toUInt64 63)).toInt64) hx hb nd_Frames_isAllFree_9 rfl ?_
  refine lv_iload_n hx hb nd_Frames_isAllFree_10 rfl (lv_at hl 1 rfl) ?_
  refine lv_lshl (v := (((-1 : Int64).toUInt64 >>> (((64 : Int32) - ((1 : Int32) <<< (z2 &&& 31))).toInt64.toUInt64 &&& Int64.toUInt64 63)).toInt64) <<< (z1.toInt64 &&& 63)) hx hb nd_Frames_isAllFree_11 rfl ?_
  refine lv_lstore_n (lv' := [(3, .long ((((-1 : Int64).toUInt64 >>> (((64 : Int32) - ((1 : Int32) <<< (z2 &&& 31))).toInt64.toUInt64 &&& Int64.toUInt64 63)).toInt64) <<< (z1.toInt64 &&& 63))), (0, .ref (q 1)), (1, .int z1), (2, .int z2)]) hx hb nd_Frames_isAllFree_12 rfl hl (by decide) rfl (fun ls hl => ?_)
  refine lv_aload_n hx hb nd_Frames_isAllFree_13 rfl (lv_at hl 1 rfl) ?_
  refine va_get (D := (dC, dI)) (ci := 0) (v := .long (gc_fb σ)) (C := RX0) (T := TX0) (N := 3) hx hb hB inB0 hown hK hP 1 rfl rfl 2 (by decide) (hB _ lk_33) (fun _ h9 => h9) rfl nd_Frames_isAllFree_14 ?_
  refine lv_lload_n hx hb nd_Frames_isAllFree_17 rfl (lv_at hl 0 rfl) ?_
  refine lv_land hx hb nd_Frames_isAllFree_18 ?_
  refine lv_lload_n hx hb nd_Frames_isAllFree_19 rfl (lv_at hl 0 rfl) ?_
  refine W.lcmp hx hb nd_Frames_isAllFree_20 ?_
  refine lv_if_ne (tgt := 28) hx hb nd_Frames_isAllFree_21 (by decide) (fun hc => ?_) (fun hc => ?_)
  · have hf := mi_if_f hc hf
    refine lv_iconst (v := 0) hx hb nd_Frames_isAllFree_28 (by decide) ?_
    exact re_z hx hb hr hlocks (Or.inl rfl) (mi_eq hf) (rfl) hP hK hD hS nd_Frames_isAllFree_29
  · have hf := mi_if_t hc hf
    refine lv_iconst (v := 1) hx hb nd_Frames_isAllFree_24 (by decide) ?_
    refine lv_goto (tgt := 29) hx hb nd_Frames_isAllFree_25 (by decide) ?_
    exact re_z hx hb hr hlocks (Or.inr rfl) (mi_eq hf) (rfl) hP hK hD hS nd_Frames_isAllFree_29
abbrev rm_Frames_isFreeBlock : Room := { frames := 1, cells := 0, slots := 0, locals := 24 }
set_option maxHeartbeats 4000000 in
set_option maxRecDepth 100000 in
theorem kw_Frames_isFreeBlock (l : Launch) (dC : Nat → ClassId) (dI : Nat → Nat → Nat) (q : Nat → Nat) (cI cZ : ClassId) (sz : Nat) (σ : CS) (z1 : Int32) (z2 : Int32) (v : Int32) (hf : mc_Frames_isFreeBlock σ z1 z2 = some v) : Met l ny_Frames_isFreeBlock nw_Frames_isFreeBlock rm_Frames_isFreeBlock (va_Pc [.ref (q 1), .int z1, .int z2] (pr_ (dC, dI) (wd_C q cI cZ) [(cI, .int), (cZ, .boolean)] sz σ)) (qi_ (dC, dI) (wd_C q cI cZ) [(cI, .int), (cZ, .boolean)] (va_A (wd_C q cI cZ σ) sz) v σ) 0 0 (va_A (wd_C q cI cZ σ) sz) := by
  refine Met.ofW (cc := nb_Frames_isFreeBlock) (maxL := 4) (ret := (some .boolean)) (by decide) rfl ?_
  intro p e s m args below meth c s₁ B hml hv
  obtain ⟨rfl, hsz, hP, hK, hD0, hN⟩ := hv
  have hx := B.exec
  have hb := B.bytes
  have hr := B.returns
  have hts := atoms_spec (ws := nw_Frames_isFreeBlock) B.pre
  have hB : ∀ w ∈ BG, w.before ([.ref (q 1), .int z1, .int z2] : List Value).toArray s = true := fun w h => hts w (List.mem_cons_of_mem _ h)
  have hown : s.vm.findClass "MovedFrames$Frames" = some m.cls := findClass_of_methodNamed B.named
  have hlocks := B.notSynchronized
  subst hsz
  have hD := hD0.self (sz := s.heap.size)
  generalize hAe : va_A (wd_C q cI cZ σ) s.heap.size = A at hD ⊢
  have hA : ∀ q : Nat, s.heap.size ≤ q → A q := fun q h => by rw [← hAe]; exact Or.inr h
  have hS : va_S A s.heap s.heap [] := va_S.rf
  have hl := lv_entry ([.ref (q 1), .int z1, .int z2]) (n := 4) (Nat.le_of_ble_eq_true rfl)
  rw [lg_entry_eq]
  generalize (lg_sl ([.ref (q 1), .int z1, .int z2]) ++ List.replicate (4 - (lg_sl ([.ref (q 1), .int z1, .int z2])).length) Slot.unset).toArray = ls at hl ⊢
  have hl : lv_has ls 4 [(0, .ref (q 1)), (1, .int z1), (2, .int z2)] := hl
  have hH : s.heap = s.heap := rfl
  unfold mc_Frames_isFreeBlock at hf
  refine lv_aload_n hx hb nd_Frames_isFreeBlock_0 rfl (lv_at hl 0 rfl) ?_
  refine lv_iload_n hx hb nd_Frames_isFreeBlock_1 rfl (lv_at hl 1 rfl) ?_
  refine lv_iload_n hx hb nd_Frames_isFreeBlock_2 rfl (lv_at hl 2 rfl) ?_
  obtain ⟨r1, hc, hf⟩ := mi_cp_el hf
  refine ca_i (va_runV (C := "MovedFrames$Frames") (As := [.int z1, .int z2]) (rest := []) ⟨hx, hb, hml, hown, hB⟩ (kw_Frames_isAllFree l dC dI q cI cZ _ σ z1 z2 r1 hc) ⟨callB_of 2 hB (gi_ lk_192) rfl rfl rfl (hB _ lk_2) (hB _ lk_189) (by decide +kernel) ⟨Nat.le_of_ble_eq_true rfl, Nat.le_of_ble_eq_true rfl⟩, hB _ lk_191, hB _ ls_3⟩ ⟨bl_, va_recv (ci := 0) (q0 := 1) hK hP rfl rfl, pre_ hP hK hD hN⟩ rfl rfl hl.1 rfl (lv_room (Nat.le_of_ble_eq_true rfl)) nd_Frames_isFreeBlock_3 ⟨Nat.zero_le _, Nat.zero_le _⟩) hD hS hA (fun H locs hP hD hS => ?_)
  refine lv_if_ne (tgt := 11) hx hb nd_Frames_isFreeBlock_6 (by decide) (fun hc => ?_) (fun hc => ?_)
  · have hf := mi_if_f hc hf
    refine lv_iload_n hx hb nd_Frames_isFreeBlock_11 rfl (lv_at hl 2 rfl) ?_
    refine lv_iconst (v := 1) hx hb nd_Frames_isFreeBlock_12 (by decide) ?_
    refine lv_iadd hx hb nd_Frames_isFreeBlock_13 ?_
    refine lv_istore_n (lv' := [(3, .int (z2 + (1 : Int32))), (0, .ref (q 1)), (1, .int z1), (2, .int z2)]) hx hb nd_Frames_isFreeBlock_14 rfl hl (by decide) rfl (fun ls hl => ?_)
    refine lv_iload_n hx hb nd_Frames_isFreeBlock_15 rfl (lv_at hl 3 rfl) ?_
    refine lv_bipush (v := 6) hx hb nd_Frames_isFreeBlock_16 (by decide) ?_
    refine lv_icmp_eq (tgt := 34) hx hb nd_Frames_isFreeBlock_18 (by decide) (fun hc => ?_) (fun hc => ?_)
    · have hf := mi_if_t hc hf
      refine lv_iconst (v := 1) hx hb nd_Frames_isFreeBlock_34 (by decide) ?_
      refine lv_goto (tgt := 39) hx hb nd_Frames_isFreeBlock_35 (by decide) ?_
      exact re_z hx hb hr hlocks (Or.inr rfl) (mi_eq hf) (rfl) hP hK hD hS nd_Frames_isFreeBlock_39
    · have hf := mi_if_f hc hf
      refine lv_aload_n hx hb nd_Frames_isFreeBlock_21 rfl (lv_at hl 1 rfl) ?_
      refine lv_iload_n hx hb nd_Frames_isFreeBlock_22 rfl (lv_at hl 2 rfl) ?_
      refine lv_iload_n hx hb nd_Frames_isFreeBlock_23 rfl (lv_at hl 0 rfl) ?_
      refine lv_ishr hx hb nd_Frames_isFreeBlock_24 ?_
      refine lv_iload_n hx hb nd_Frames_isFreeBlock_25 rfl (lv_at hl 0 rfl) ?_
      refine lv_ishl hx hb nd_Frames_isFreeBlock_26 ?_
      refine lv_iload_n hx hb nd_Frames_isFreeBlock_27 rfl (lv_at hl 0 rfl) ?_
      obtain ⟨r2, hc, hf⟩ := mi_cp_el hf
      refine ca_i (va_runV (C := "MovedFrames$Frames") (As := [.int ((z1 >>> ((z2 + (1 : Int32)) &&& 31)) <<< ((z2 + (1 : Int32)) &&& 31)), .int (z2 + (1 : Int32))]) (rest := []) ⟨hx, hb, hml, hown, hB⟩ (kw_Frames_isAllFree l dC dI q cI cZ _ σ ((z1 >>> ((z2 + (1 : Int32)) &&& 31)) <<< ((z2 + (1 : Int32)) &&& 31)) (z2 + (1 : Int32)) r2 hc) ⟨callB_of 2 hB (gi_ lk_192) rfl rfl rfl (hB _ lk_2) (hB _ lk_189) (by decide +kernel) ⟨Nat.le_of_ble_eq_true rfl, Nat.le_of_ble_eq_true rfl⟩, hB _ lk_191, hB _ ls_3⟩ ⟨bl_, va_recv (ci := 0) (q0 := 1) hK hP rfl rfl, pre_ hP hK hD hN⟩ rfl rfl hl.1 rfl (lv_room (Nat.le_of_ble_eq_true rfl)) nd_Frames_isFreeBlock_28 ⟨Nat.zero_le _, Nat.zero_le _⟩) hD hS hA (fun H locs hP hD hS => ?_)
      refine lv_if_ne (tgt := 38) hx hb nd_Frames_isFreeBlock_31 (by decide) (fun hc => ?_) (fun hc => ?_)
      · have hf := mi_if_f hc hf
        refine lv_iconst (v := 0) hx hb nd_Frames_isFreeBlock_38 (by decide) ?_
        exact re_z hx hb hr hlocks (Or.inl rfl) (mi_eq hf) (rfl) hP hK hD hS nd_Frames_isFreeBlock_39
      · have hf := mi_if_t hc hf
        refine lv_iconst (v := 1) hx hb nd_Frames_isFreeBlock_34 (by decide) ?_
        refine lv_goto (tgt := 39) hx hb nd_Frames_isFreeBlock_35 (by decide) ?_
        exact re_z hx hb hr hlocks (Or.inr rfl) (mi_eq hf) (rfl) hP hK hD hS nd_Frames_isFreeBlock_39
  · have hf := mi_if_t hc hf
    refine lv_iconst (v := 0) hx hb nd_Frames_isFreeBlock_9 (by decide) ?_
    exact re_z hx hb hr hlocks (Or.inl rfl) (mi_eq hf) (rfl) hP hK hD hS nd_Frames_isFreeBlock_10
abbrev rm_F_isFrame : Room := { frames := 0, cells := 0, slots := 0, locals := 0 }
set_option maxHeartbeats 4000000 in
set_option maxRecDepth 100000 in
theorem kw_F_isFrame (l : Launch) (dC : Nat → ClassId) (dI : Nat → Nat → Nat) (q : Nat → Nat) (cI cZ : ClassId) (sz : Nat) (σ : CS) (z0 : Int32) (v : Int32) (hf : mc_isFrame z0 = some v) : Met l ny_F_isFrame nw_F_isFrame rm_F_isFrame (va_Pc [.int z0] (pr_ (dC, dI) (wd_C q cI cZ) [(cI, .int), (cZ, .boolean)] sz σ)) (qi_ (dC, dI) (wd_C q cI cZ) [(cI, .int), (cZ, .boolean)] (va_A (wd_C q cI cZ σ) sz) v σ) 0 0 (va_A (wd_C q cI cZ σ) sz) := by
  refine Met.ofW (cc := nb_F_isFrame) (maxL := 1) (ret := (some .boolean)) (by decide) rfl ?_
  intro p e s m args below meth c s₁ B hml hv
  obtain ⟨rfl, hsz, hP, hK, hD0, hN⟩ := hv
  have hx := B.exec
  have hb := B.bytes
  have hr := B.returns
  have hts := atoms_spec (ws := nw_F_isFrame) B.pre
  have hB : ∀ w ∈ BG, w.before ([.int z0] : List Value).toArray s = true := fun w h => hts w (List.mem_cons_of_mem _ h)
  have hown : s.vm.findClass "MovedFrames" = some m.cls := findClass_of_methodNamed B.named
  have hlocks := B.notSynchronized
  subst hsz
  have hD := hD0.self (sz := s.heap.size)
  generalize hAe : va_A (wd_C q cI cZ σ) s.heap.size = A at hD ⊢
  have hA : ∀ q : Nat, s.heap.size ≤ q → A q := fun q h => by rw [← hAe]; exact Or.inr h
  have hS : va_S A s.heap s.heap [] := va_S.rf
  have hl := lv_entry ([.int z0]) (n := 1) (Nat.le_of_ble_eq_true rfl)
  rw [lg_entry_eq]
  generalize (lg_sl ([.int z0]) ++ List.replicate (1 - (lg_sl ([.int z0])).length) Slot.unset).toArray = ls at hl ⊢
  have hl : lv_has ls 1 [(0, .int z0)] := hl
  have hH : s.heap = s.heap := rfl
  unfold mc_isFrame at hf
  refine lv_iload_n hx hb nd_F_isFrame_0 rfl (lv_at hl 0 rfl) ?_
  refine lv_if_lt (tgt := 14) hx hb nd_F_isFrame_1 (by decide) (fun hc => ?_) (fun hc => ?_)
  · have hf := mi_if_t hc hf
    refine lv_iconst (v := 0) hx hb nd_F_isFrame_14 (by decide) ?_
    exact re_z hx hb hr hlocks (Or.inl rfl) (mi_eq hf) (rfl) hP hK hD hS nd_F_isFrame_15
  · have hf := mi_if_f hc hf
    refine lv_iload_n hx hb nd_F_isFrame_4 rfl (lv_at hl 0 rfl) ?_
    refine lv_bipush (v := 64) hx hb nd_F_isFrame_5 (by decide) ?_
    refine lv_icmp_ge (tgt := 14) hx hb nd_F_isFrame_7 (by decide) (fun hc => ?_) (fun hc => ?_)
    · have hf := mi_if_t hc hf
      refine lv_iconst (v := 0) hx hb nd_F_isFrame_14 (by decide) ?_
      exact re_z hx hb hr hlocks (Or.inl rfl) (mi_eq hf) (rfl) hP hK hD hS nd_F_isFrame_15
    · have hf := mi_if_f hc hf
      refine lv_iconst (v := 1) hx hb nd_F_isFrame_10 (by decide) ?_
      refine lv_goto (tgt := 15) hx hb nd_F_isFrame_11 (by decide) ?_
      exact re_z hx hb hr hlocks (Or.inr rfl) (mi_eq hf) (rfl) hP hK hD hS nd_F_isFrame_15
abbrev rm_Frames_giveTo : Room := { frames := 1, cells := 0, slots := 0, locals := 20 }
set_option maxHeartbeats 4000000 in
set_option maxRecDepth 100000 in
theorem kw_Frames_giveTo (l : Launch) (dC : Nat → ClassId) (dI : Nat → Nat → Nat) (q : Nat → Nat) (cI cZ : ClassId) (sz : Nat) (σ : CS) (z1 : Int32) (z2 : Int32) (σ' : CS) (hf : mc_Frames_giveTo σ z1 z2 = some σ') : Met l ny_Frames_giveTo nw_Frames_giveTo rm_Frames_giveTo (va_Pc [.ref (q 1), .int z1, .int z2] (pr_ (dC, dI) (wd_C q cI cZ) [(cI, .int), (cZ, .boolean)] sz σ)) (qv_ (dC, dI) (wd_C q cI cZ) [(cI, .int), (cZ, .boolean)] (va_A (wd_C q cI cZ σ) sz) σ') 0 0 (va_A (wd_C q cI cZ σ) sz) := by
  refine Met.ofW (cc := nb_Frames_giveTo) (maxL := 4) (ret := none) (by decide) rfl ?_
  intro p e s m args below meth c s₁ B hml hv
  obtain ⟨rfl, hsz, hP, hK, hD0, hN⟩ := hv
  have hx := B.exec
  have hb := B.bytes
  have hr := B.returns
  have hts := atoms_spec (ws := nw_Frames_giveTo) B.pre
  have hB : ∀ w ∈ BG, w.before ([.ref (q 1), .int z1, .int z2] : List Value).toArray s = true := fun w h => hts w (List.mem_cons_of_mem _ h)
  have hown : s.vm.findClass "MovedFrames$Frames" = some m.cls := findClass_of_methodNamed B.named
  have hlocks := B.notSynchronized
  subst hsz
  have hD := hD0.self (sz := s.heap.size)
  generalize hAe : va_A (wd_C q cI cZ σ) s.heap.size = A at hD ⊢
  have hA : ∀ q : Nat, s.heap.size ≤ q → A q := fun q h => by rw [← hAe]; exact Or.inr h
  have hS : va_S A s.heap s.heap [] := va_S.rf
  have hl := lv_entry ([.ref (q 1), .int z1, .int z2]) (n := 4) (Nat.le_of_ble_eq_true rfl)
  rw [lg_entry_eq]
  generalize (lg_sl ([.ref (q 1), .int z1, .int z2]) ++ List.replicate (4 - (lg_sl ([.ref (q 1), .int z1, .int z2])).length) Slot.unset).toArray = ls at hl ⊢
  have hl : lv_has ls 4 [(0, .ref (q 1)), (1, .int z1), (2, .int z2)] := hl
  have B32 : ∀ (k32 : Int32 → Int32 → CS → Option (CS)) (hk32 : ∀ (x1 : Int32) (x3 : Int32) (σ : CS), k32 x1 x3 σ = some σ' → bk_ p l e rm_Frames_giveTo s m ([.ref (q 1), .int z1, .int z2] : List Value).toArray below meth c (MQ below (qv_ (dC, dI) (wd_C q cI cZ) [(cI, .int), (cZ, .boolean)] A σ') ([.ref (q 1), .int z1, .int z2] : List Value).toArray s 0 0 A) A (dC, dI) (wd_C q cI cZ) 4 32 [(0, .ref (q 1)), (1, .int x1), (3, .int x3)] [] σ) (x1 : Int32) (x3 : Int32) (σ : CS), mc_Frames_giveTo_b32 k32 x1 x3 σ = some σ' → bk_ p l e rm_Frames_giveTo s m ([.ref (q 1), .int z1, .int z2] : List Value).toArray below meth c (MQ below (qv_ (dC, dI) (wd_C q cI cZ) [(cI, .int), (cZ, .boolean)] A σ') ([.ref (q 1), .int z1, .int z2] : List Value).toArray s 0 0 A) A (dC, dI) (wd_C q cI cZ) 4 32 [(0, .ref (q 1)), (1, .int x1), (3, .int x3)] [] σ := by
    intro k32 hk32 x1 x3 σ hf ls H locs hl hP hD hS
    unfold mc_Frames_giveTo_b32 at hf
    refine lv_iload_n hx hb nd_Frames_giveTo_32 rfl (lv_at hl 2 rfl) ?_
    refine lv_bipush (v := 16) hx hb nd_Frames_giveTo_33 (by decide) ?_
    refine lv_icmp_ge (tgt := 56) hx hb nd_Frames_giveTo_35 (by decide) (fun hc => ?_) (fun hc => ?_)
    · have hf := mi_if_t hc hf
      exact re_v hx hb hr hlocks (mi_eq hf) hP hK hD hS nd_Frames_giveTo_56
    · have hf := mi_if_f hc hf
      refine lv_aload_n hx hb nd_Frames_giveTo_38 rfl (lv_at hl 0 rfl) ?_
      refine va_get (D := (dC, dI)) (ci := 0) (v := .ref (q 7)) (C := RX0) (T := TX0) (N := 3) hx hb hB inB0 hown hK hP 1 rfl rfl 1 (by decide) (hB _ lk_32) (fun _ h9 => h9) rfl nd_Frames_giveTo_39 ?_
      refine lv_iload_n hx hb nd_Frames_giveTo_42 rfl (lv_at hl 1 rfl) ?_
      refine lv_bipush (v := 16) hx hb nd_Frames_giveTo_43 (by decide) ?_
      refine lv_imul hx hb nd_Frames_giveTo_45 ?_
      refine lv_iload_n hx hb nd_Frames_giveTo_46 rfl (lv_at hl 2 rfl) ?_
      refine lv_iadd hx hb nd_Frames_giveTo_47 ?_
      refine lv_iconst (v := 0) hx hb nd_Frames_giveTo_48 (by decide) ?_
      obtain ⟨hg, hf⟩ := mi_gd_el hf
      refine va_iast hx hb hK hP hD hS 7 0 rfl rfl hg nd_Frames_giveTo_49 (fun H locs hP hD hS => ?_)
      obtain ⟨σ4, e9, hf⟩ := mi_wr_ex hf
      have hP : va_P (dC, dI) vwCl (wd_C q cI cZ σ4) H := by rw [e9]; exact hP
      have hD : va_D A (wd_C q cI cZ σ4) := by rw [e9]; exact hD
      refine lv_iinc (k := 2) (v := x3 + (1 : Int32)) (lv' := [(3, .int (x3 + (1 : Int32))), (0, .ref (q 1)), (1, .int x1)]) hx hb nd_Frames_giveTo_50 hl rfl (congrArg (fun z => x3 + z) (by decide : Int32.ofInt 1 = (1 : Int32))) (by decide) rfl (fun ls hl => ?_)
      refine lv_goto (tgt := 32) hx hb nd_Frames_giveTo_53 (by decide) ?_
      exact hk32 x1 (x3 + (1 : Int32)) σ4 hf _ _ _ (lv_sub hl [1, 2, 0] rfl) hP hD hS
  have L32 : ∀ (n : Nat) (x1 : Int32) (x3 : Int32) (σ : CS), mc_Frames_giveTo_l32 n x1 x3 σ = some σ' → bk_ p l e rm_Frames_giveTo s m ([.ref (q 1), .int z1, .int z2] : List Value).toArray below meth c (MQ below (qv_ (dC, dI) (wd_C q cI cZ) [(cI, .int), (cZ, .boolean)] A σ') ([.ref (q 1), .int z1, .int z2] : List Value).toArray s 0 0 A) A (dC, dI) (wd_C q cI cZ) 4 32 [(0, .ref (q 1)), (1, .int x1), (3, .int x3)] [] σ := by
    intro n
    induction n with
    | zero =>
      intro x1 x3 σ hf
      exact mi_no hf
    | succ n ih =>
      intro x1 x3 σ hf
      exact B32 (mc_Frames_giveTo_l32 n) ih x1 x3 σ hf
  have hH : s.heap = s.heap := rfl
  unfold mc_Frames_giveTo at hf
  refine lv_iload_n hx hb nd_Frames_giveTo_0 rfl (lv_at hl 1 rfl) ?_
  obtain ⟨r1, hc, hf⟩ := mi_cp_el hf
  refine ca_i (va_runSN (As := [.int z1]) (rest := []) ⟨hx, hb, hml, hown, hB⟩ (kw_F_isFrame l dC dI q cI cZ _ σ z1 r1 hc) ⟨va_cnB 1 hB (gi_ lk_139) rfl rfl rfl hN.2.1 (hB _ lk_1) (by decide +kernel) ⟨Nat.le_of_ble_eq_true rfl, Nat.le_of_ble_eq_true rfl⟩, hB _ lk_138, trivial⟩ ⟨bl_, pre_ hP hK hD hN⟩ rfl rfl hl.1 rfl (lv_room (Nat.le_of_ble_eq_true rfl)) nd_Frames_giveTo_1 ⟨Nat.zero_le _, Nat.zero_le _⟩) hD hS hA (fun H locs hP hD hS => ?_)
  refine lv_if_eq (tgt := 56) hx hb nd_Frames_giveTo_4 (by decide) (fun hc => ?_) (fun hc => ?_)
  · have hf := mi_if_t hc hf
    exact re_v hx hb hr hlocks (mi_eq hf) hP hK hD hS nd_Frames_giveTo_56
  · have hf := mi_if_f hc hf
    refine lv_aload_n hx hb nd_Frames_giveTo_7 rfl (lv_at hl 0 rfl) ?_
    refine va_get (D := (dC, dI)) (ci := 0) (v := .ref (q 6)) (C := RX0) (T := TX0) (N := 3) hx hb hB inB0 hown hK hP 1 rfl rfl 0 (by decide) (hB _ lk_31) (fun _ h9 => h9) rfl nd_Frames_giveTo_8 ?_
    refine lv_iload_n hx hb nd_Frames_giveTo_11 rfl (lv_at hl 1 rfl) ?_
    refine lv_iload_n hx hb nd_Frames_giveTo_12 rfl (lv_at hl 2 rfl) ?_
    obtain ⟨hg, hf⟩ := mi_gd_el hf
    refine va_iast hx hb hK hP hD hS 6 0 rfl rfl hg nd_Frames_giveTo_13 (fun H locs hP hD hS => ?_)
    obtain ⟨σ2, e9, hf⟩ := mi_wr_ex hf
    have hP : va_P (dC, dI) vwCl (wd_C q cI cZ σ2) H := by rw [e9]; exact hP
    have hD : va_D A (wd_C q cI cZ σ2) := by rw [e9]; exact hD
    refine lv_aload_n hx hb nd_Frames_giveTo_14 rfl (lv_at hl 0 rfl) ?_
    refine lv_dup hx hb nd_Frames_giveTo_15 rfl ?_
    refine va_get (D := (dC, dI)) (ci := 0) (v := .long (gc_fb σ2)) (C := RX0) (T := TX0) (N := 3) hx hb hB inB0 hown hK hP 1 rfl rfl 2 (by decide) (hB _ lk_33) (fun _ h9 => h9) rfl nd_Frames_giveTo_16 ?_
    refine lv_lconst (v := 1) hx hb nd_Frames_giveTo_19 (by decide) ?_
    refine lv_iload_n hx hb nd_Frames_giveTo_20 rfl (lv_at hl 1 rfl) ?_
    refine lv_lshl (v := (1 : Int64) <<< (z1.toInt64 &&& 63)) hx hb nd_Frames_giveTo_21 rfl ?_
    refine lv_ldc2 (v := (-1)) hx hb hown (hB _ lk_30) nd_Frames_giveTo_22 ?_
    refine lv_lxor hx hb nd_Frames_giveTo_25 ?_
    refine lv_land hx hb nd_Frames_giveTo_26 ?_
    refine va_put (D := (dC, dI)) (ci := 0) (v := .long ((gc_fb σ2) &&& (((1 : Int64) <<< (z1.toInt64 &&& 63)) ^^^ (-1 : Int64)))) (ty := .long) (C := RX0) (T := TX0) (N := 3) hx hb hB inB0 tyX0 tyX0_ok nX0 hown hK hP hD hS 1 rfl rfl 2 (by decide) (hB _ lk_33) (fun _ h9 => h9) rfl (by decide +kernel) rfl rfl (Nat.le_of_ble_eq_true rfl) nd_Frames_giveTo_27 (fun H locs hP hD hS => ?_)
    obtain ⟨σ3, e9, hf⟩ := mi_wr_ex hf
    have hP : va_P (dC, dI) vwCl (wd_C q cI cZ σ3) H := by rw [e9]; exact hP
    have hD : va_D A (wd_C q cI cZ σ3) := by rw [e9]; exact hD
    refine lv_iconst (v := 0) hx hb nd_Frames_giveTo_30 (by decide) ?_
    refine lv_istore_n (lv' := [(3, .int (0 : Int32)), (0, .ref (q 1)), (1, .int z1), (2, .int z2)]) hx hb nd_Frames_giveTo_31 rfl hl (by decide) rfl (fun ls hl => ?_)
    exact L32 FU z1 (0 : Int32) σ3 hf _ _ _ (lv_sub hl [1, 2, 0] rfl) hP hD hS
abbrev rm_Frames_giveOne : Room := { frames := 2, cells := 0, slots := 0, locals := 47 }
set_option maxHeartbeats 4000000 in
set_option maxRecDepth 100000 in
theorem kw_Frames_giveOne (l : Launch) (dC : Nat → ClassId) (dI : Nat → Nat → Nat) (q : Nat → Nat) (cI cZ : ClassId) (sz : Nat) (σ : CS) (z1 : Int32) (v : Int32) (σ' : CS) (hf : mc_Frames_giveOne σ z1 = some (v, σ')) : Met l ny_Frames_giveOne nw_Frames_giveOne rm_Frames_giveOne (va_Pc [.ref (q 1), .int z1] (pr_ (dC, dI) (wd_C q cI cZ) [(cI, .int), (cZ, .boolean)] sz σ)) (qi_ (dC, dI) (wd_C q cI cZ) [(cI, .int), (cZ, .boolean)] (va_A (wd_C q cI cZ σ) sz) v σ') 0 0 (va_A (wd_C q cI cZ σ) sz) := by
  refine Met.ofW (cc := nb_Frames_giveOne) (maxL := 5) (ret := (some .int)) (by decide) rfl ?_
  intro p e s m args below meth c s₁ B hml hv
  obtain ⟨rfl, hsz, hP, hK, hD0, hN⟩ := hv
  have hx := B.exec
  have hb := B.bytes
  have hr := B.returns
  have hts := atoms_spec (ws := nw_Frames_giveOne) B.pre
  have hB : ∀ w ∈ BG, w.before ([.ref (q 1), .int z1] : List Value).toArray s = true := fun w h => hts w (List.mem_cons_of_mem _ h)
  have hown : s.vm.findClass "MovedFrames$Frames" = some m.cls := findClass_of_methodNamed B.named
  have hlocks := B.notSynchronized
  subst hsz
  have hD := hD0.self (sz := s.heap.size)
  generalize hAe : va_A (wd_C q cI cZ σ) s.heap.size = A at hD ⊢
  have hA : ∀ q : Nat, s.heap.size ≤ q → A q := fun q h => by rw [← hAe]; exact Or.inr h
  have hS : va_S A s.heap s.heap [] := va_S.rf
  have hl := lv_entry ([.ref (q 1), .int z1]) (n := 5) (Nat.le_of_ble_eq_true rfl)
  rw [lg_entry_eq]
  generalize (lg_sl ([.ref (q 1), .int z1]) ++ List.replicate (5 - (lg_sl ([.ref (q 1), .int z1])).length) Slot.unset).toArray = ls at hl ⊢
  have hl : lv_has ls 5 [(0, .ref (q 1)), (1, .int z1)] := hl
  have B10 : ∀ (k2 : Int32 → Int32 → CS → Option (Int32 × CS)) (hk2 : ∀ (x1 : Int32) (x2 : Int32) (σ : CS), k2 x1 x2 σ = some (v, σ') → bk_ p l e rm_Frames_giveOne s m ([.ref (q 1), .int z1] : List Value).toArray below meth c (MQ below (qi_ (dC, dI) (wd_C q cI cZ) [(cI, .int), (cZ, .boolean)] A v σ') ([.ref (q 1), .int z1] : List Value).toArray s 0 0 A) A (dC, dI) (wd_C q cI cZ) 5 2 [(0, .ref (q 1)), (1, .int x1), (2, .int x2)] [] σ) (k10 : Int32 → Int32 → Int32 → CS → Option (Int32 × CS)) (hk10 : ∀ (x1 : Int32) (x2 : Int32) (x3 : Int32) (σ : CS), k10 x1 x2 x3 σ = some (v, σ') → bk_ p l e rm_Frames_giveOne s m ([.ref (q 1), .int z1] : List Value).toArray below meth c (MQ below (qi_ (dC, dI) (wd_C q cI cZ) [(cI, .int), (cZ, .boolean)] A v σ') ([.ref (q 1), .int z1] : List Value).toArray s 0 0 A) A (dC, dI) (wd_C q cI cZ) 5 10 [(0, .ref (q 1)), (1, .int x1), (2, .int x2), (3, .int x3)] [] σ) (x1 : Int32) (x2 : Int32) (x3 : Int32) (σ : CS), mc_Frames_giveOne_b10 k2 k10 x1 x2 x3 σ = some (v, σ') → bk_ p l e rm_Frames_giveOne s m ([.ref (q 1), .int z1] : List Value).toArray below meth c (MQ below (qi_ (dC, dI) (wd_C q cI cZ) [(cI, .int), (cZ, .boolean)] A v σ') ([.ref (q 1), .int z1] : List Value).toArray s 0 0 A) A (dC, dI) (wd_C q cI cZ) 5 10 [(0, .ref (q 1)), (1, .int x1), (2, .int x2), (3, .int x3)] [] σ := by
    intro k2 hk2 k10 hk10 x1 x2 x3 σ hf ls H locs hl hP hD hS
    unfold mc_Frames_giveOne_b10 at hf
    refine lv_iload_n hx hb nd_Frames_giveOne_10 rfl (lv_at hl 3 rfl) ?_
    refine lv_bipush (v := 64) hx hb nd_Frames_giveOne_11 (by decide) ?_
    refine lv_iload_n hx hb nd_Frames_giveOne_13 rfl (lv_at hl 2 rfl) ?_
    refine lv_ishr hx hb nd_Frames_giveOne_14 ?_
    refine lv_icmp_ge (tgt := 49) hx hb nd_Frames_giveOne_15 (by decide) (fun hc => ?_) (fun hc => ?_)
    · have hf := mi_if_t hc hf
      refine lv_iinc (k := 2) (v := x2 + (1 : Int32)) (lv' := [(2, .int (x2 + (1 : Int32))), (0, .ref (q 1)), (1, .int x1), (3, .int x3)]) hx hb nd_Frames_giveOne_49 hl rfl (congrArg (fun z => x2 + z) (by decide : Int32.ofInt 1 = (1 : Int32))) (by decide) rfl (fun ls hl => ?_)
      refine lv_goto (tgt := 2) hx hb nd_Frames_giveOne_52 (by decide) ?_
      exact hk2 x1 (x2 + (1 : Int32)) σ hf _ _ _ (lv_sub hl [1, 2, 0] rfl) hP hD hS
    · have hf := mi_if_f hc hf
      refine lv_iload_n hx hb nd_Frames_giveOne_18 rfl (lv_at hl 3 rfl) ?_
      refine lv_iload_n hx hb nd_Frames_giveOne_19 rfl (lv_at hl 2 rfl) ?_
      refine lv_ishl hx hb nd_Frames_giveOne_20 ?_
      refine lv_istore (lv' := [(4, .int (x3 <<< (x2 &&& 31))), (0, .ref (q 1)), (1, .int x1), (2, .int x2), (3, .int x3)]) hx hb nd_Frames_giveOne_21 hl (by decide) rfl (fun ls hl => ?_)
      refine lv_aload_n hx hb nd_Frames_giveOne_23 rfl (lv_at hl 1 rfl) ?_
      refine lv_iload hx hb nd_Frames_giveOne_24 (lv_at hl 0 rfl) ?_
      refine lv_iload_n hx hb nd_Frames_giveOne_26 rfl (lv_at hl 3 rfl) ?_
      obtain ⟨r1, hc, hf⟩ := mi_cp_el hf
      refine ca_i (va_runV (C := "MovedFrames$Frames") (As := [.int (x3 <<< (x2 &&& 31)), .int x2]) (rest := []) ⟨hx, hb, hml, hown, hB⟩ (kw_Frames_isFreeBlock l dC dI q cI cZ _ σ (x3 <<< (x2 &&& 31)) x2 r1 hc) ⟨callB_of 2 hB (gi_ lk_188) rfl rfl rfl (hB _ lk_2) (hB _ lk_185) (by decide +kernel) ⟨Nat.le_of_ble_eq_true rfl, Nat.le_of_ble_eq_true rfl⟩, hB _ lk_187, hB _ ls_2⟩ ⟨bl_, va_recv (ci := 0) (q0 := 1) hK hP rfl rfl, pre_ hP hK hD hN⟩ rfl rfl hl.1 rfl (lv_room (Nat.le_of_ble_eq_true rfl)) nd_Frames_giveOne_27 ⟨Nat.zero_le _, Nat.zero_le _⟩) hD hS hA (fun H locs hP hD hS => ?_)
      refine lv_if_eq (tgt := 43) hx hb nd_Frames_giveOne_30 (by decide) (fun hc => ?_) (fun hc => ?_)
      · have hf := mi_if_t hc hf
        refine lv_iinc (k := 4) (v := x3 + (1 : Int32)) (lv' := [(3, .int (x3 + (1 : Int32))), (4, .int (x3 <<< (x2 &&& 31))), (0, .ref (q 1)), (1, .int x1), (2, .int x2)]) hx hb nd_Frames_giveOne_43 hl rfl (congrArg (fun z => x3 + z) (by decide : Int32.ofInt 1 = (1 : Int32))) (by decide) rfl (fun ls hl => ?_)
        refine lv_goto (tgt := 10) hx hb nd_Frames_giveOne_46 (by decide) ?_
        exact hk10 x1 x2 (x3 + (1 : Int32)) σ hf _ _ _ (lv_sub hl [2, 3, 4, 0] rfl) hP hD hS
      · have hf := mi_if_f hc hf
        refine lv_aload_n hx hb nd_Frames_giveOne_33 rfl (lv_at hl 1 rfl) ?_
        refine lv_iload hx hb nd_Frames_giveOne_34 (lv_at hl 0 rfl) ?_
        refine lv_iload_n hx hb nd_Frames_giveOne_36 rfl (lv_at hl 2 rfl) ?_
        obtain ⟨σ2, hc, hf⟩ := mi_cv_el hf
        refine ca_v (va_runV (C := "MovedFrames$Frames") (As := [.int (x3 <<< (x2 &&& 31)), .int x1]) (rest := []) ⟨hx, hb, hml, hown, hB⟩ (kw_Frames_giveTo l dC dI q cI cZ _ σ (x3 <<< (x2 &&& 31)) x1 σ2 hc) ⟨callB_of 2 hB (gi_ lk_326) rfl rfl rfl (hB _ lk_2) (hB _ lk_323) (by decide +kernel) ⟨Nat.le_of_ble_eq_true rfl, Nat.le_of_ble_eq_true rfl⟩, hB _ lk_324, hB _ lk_325⟩ ⟨bl_, va_recv (ci := 0) (q0 := 1) hK hP rfl rfl, pre_ hP hK hD hN⟩ rfl rfl hl.1 rfl (lv_room (Nat.le_of_ble_eq_true rfl)) nd_Frames_giveOne_37 ⟨Nat.zero_le _, Nat.zero_le _⟩) hD hS hA (fun H locs hP hD hS => ?_)
        refine lv_iload hx hb nd_Frames_giveOne_40 (lv_at hl 0 rfl) ?_
        exact re_i hx hb hr hlocks ((mi_pr hf).1) ((mi_pr hf).2) hP hK hD hS nd_Frames_giveOne_42
  have L10 : ∀ (k2 : Int32 → Int32 → CS → Option (Int32 × CS)) (hk2 : ∀ (x1 : Int32) (x2 : Int32) (σ : CS), k2 x1 x2 σ = some (v, σ') → bk_ p l e rm_Frames_giveOne s m ([.ref (q 1), .int z1] : List Value).toArray below meth c (MQ below (qi_ (dC, dI) (wd_C q cI cZ) [(cI, .int), (cZ, .boolean)] A v σ') ([.ref (q 1), .int z1] : List Value).toArray s 0 0 A) A (dC, dI) (wd_C q cI cZ) 5 2 [(0, .ref (q 1)), (1, .int x1), (2, .int x2)] [] σ) (n : Nat) (x1 : Int32) (x2 : Int32) (x3 : Int32) (σ : CS), mc_Frames_giveOne_l10 k2 n x1 x2 x3 σ = some (v, σ') → bk_ p l e rm_Frames_giveOne s m ([.ref (q 1), .int z1] : List Value).toArray below meth c (MQ below (qi_ (dC, dI) (wd_C q cI cZ) [(cI, .int), (cZ, .boolean)] A v σ') ([.ref (q 1), .int z1] : List Value).toArray s 0 0 A) A (dC, dI) (wd_C q cI cZ) 5 10 [(0, .ref (q 1)), (1, .int x1), (2, .int x2), (3, .int x3)] [] σ := by
    intro k2 hk2 n
    induction n with
    | zero =>
      intro x1 x2 x3 σ hf
      exact mi_no hf
    | succ n ih =>
      intro x1 x2 x3 σ hf
      exact B10 k2 hk2 (mc_Frames_giveOne_l10 k2 n) ih x1 x2 x3 σ hf
  have B2 : ∀ (k2 : Int32 → Int32 → CS → Option (Int32 × CS)) (hk2 : ∀ (x1 : Int32) (x2 : Int32) (σ : CS), k2 x1 x2 σ = some (v, σ') → bk_ p l e rm_Frames_giveOne s m ([.ref (q 1), .int z1] : List Value).toArray below meth c (MQ below (qi_ (dC, dI) (wd_C q cI cZ) [(cI, .int), (cZ, .boolean)] A v σ') ([.ref (q 1), .int z1] : List Value).toArray s 0 0 A) A (dC, dI) (wd_C q cI cZ) 5 2 [(0, .ref (q 1)), (1, .int x1), (2, .int x2)] [] σ) (x1 : Int32) (x2 : Int32) (σ : CS), mc_Frames_giveOne_b2 k2 x1 x2 σ = some (v, σ') → bk_ p l e rm_Frames_giveOne s m ([.ref (q 1), .int z1] : List Value).toArray below meth c (MQ below (qi_ (dC, dI) (wd_C q cI cZ) [(cI, .int), (cZ, .boolean)] A v σ') ([.ref (q 1), .int z1] : List Value).toArray s 0 0 A) A (dC, dI) (wd_C q cI cZ) 5 2 [(0, .ref (q 1)), (1, .int x1), (2, .int x2)] [] σ := by
    intro k2 hk2 x1 x2 σ hf ls H locs hl hP hD hS
    unfold mc_Frames_giveOne_b2 at hf
    refine lv_iload_n hx hb nd_Frames_giveOne_2 rfl (lv_at hl 2 rfl) ?_
    refine lv_bipush (v := 6) hx hb nd_Frames_giveOne_3 (by decide) ?_
    refine lv_icmp_gt (tgt := 55) hx hb nd_Frames_giveOne_5 (by decide) (fun hc => ?_) (fun hc => ?_)
    · have hf := mi_if_t hc hf
      refine lv_iconst (v := (-1)) hx hb nd_Frames_giveOne_55 (by decide) ?_
      exact re_i hx hb hr hlocks ((mi_pr hf).1) ((mi_pr hf).2) hP hK hD hS nd_Frames_giveOne_56
    · have hf := mi_if_f hc hf
      refine lv_iconst (v := 0) hx hb nd_Frames_giveOne_8 (by decide) ?_
      refine lv_istore_n (lv' := [(3, .int (0 : Int32)), (0, .ref (q 1)), (1, .int x1), (2, .int x2)]) hx hb nd_Frames_giveOne_9 rfl hl (by decide) rfl (fun ls hl => ?_)
      exact L10 k2 hk2 FU x1 x2 (0 : Int32) σ hf _ _ _ (lv_sub hl [1, 2, 3, 0] rfl) hP hD hS
  have L2 : ∀ (n : Nat) (x1 : Int32) (x2 : Int32) (σ : CS), mc_Frames_giveOne_l2 n x1 x2 σ = some (v, σ') → bk_ p l e rm_Frames_giveOne s m ([.ref (q 1), .int z1] : List Value).toArray below meth c (MQ below (qi_ (dC, dI) (wd_C q cI cZ) [(cI, .int), (cZ, .boolean)] A v σ') ([.ref (q 1), .int z1] : List Value).toArray s 0 0 A) A (dC, dI) (wd_C q cI cZ) 5 2 [(0, .ref (q 1)), (1, .int x1), (2, .int x2)] [] σ := by
    intro n
    induction n with
    | zero =>
      intro x1 x2 σ hf
      exact mi_no hf
    | succ n ih =>
      intro x1 x2 σ hf
      exact B2 (mc_Frames_giveOne_l2 n) ih x1 x2 σ hf
  have hH : s.heap = s.heap := rfl
  unfold mc_Frames_giveOne at hf
  refine lv_iconst (v := 0) hx hb nd_Frames_giveOne_0 (by decide) ?_
  refine lv_istore_n (lv' := [(2, .int (0 : Int32)), (0, .ref (q 1)), (1, .int z1)]) hx hb nd_Frames_giveOne_1 rfl hl (by decide) rfl (fun ls hl => ?_)
  exact L2 FU z1 (0 : Int32) σ hf _ _ _ (lv_sub hl [1, 2, 0] rfl) hP hD hS
abbrev rm_Slabs_newSlab : Room := { frames := 3, cells := 0, slots := 0, locals := 71 }
set_option maxHeartbeats 4000000 in
set_option maxRecDepth 100000 in
theorem kw_Slabs_newSlab (l : Launch) (dC : Nat → ClassId) (dI : Nat → Nat → Nat) (q : Nat → Nat) (cI cZ : ClassId) (sz : Nat) (σ : CS) (z1 : Int32) (v : Int32) (σ' : CS) (hf : mc_Slabs_newSlab σ z1 = some (v, σ')) : Met l ny_Slabs_newSlab nw_Slabs_newSlab rm_Slabs_newSlab (va_Pc [.ref (q 2), .int z1] (pr_ (dC, dI) (wd_C q cI cZ) [(cI, .int), (cZ, .boolean)] sz σ)) (qi_ (dC, dI) (wd_C q cI cZ) [(cI, .int), (cZ, .boolean)] (va_A (wd_C q cI cZ σ) sz) v σ') 0 0 (va_A (wd_C q cI cZ σ) sz) := by
  refine Met.ofW (cc := nb_Slabs_newSlab) (maxL := 3) (ret := (some .int)) (by decide) rfl ?_
  intro p e s m args below meth c s₁ B hml hv
  obtain ⟨rfl, hsz, hP, hK, hD0, hN⟩ := hv
  have hx := B.exec
  have hb := B.bytes
  have hr := B.returns
  have hts := atoms_spec (ws := nw_Slabs_newSlab) B.pre
  have hB : ∀ w ∈ BG, w.before ([.ref (q 2), .int z1] : List Value).toArray s = true := fun w h => hts w (List.mem_cons_of_mem _ h)
  have hown : s.vm.findClass "MovedFrames$Slabs" = some m.cls := findClass_of_methodNamed B.named
  have hlocks := B.notSynchronized
  subst hsz
  have hD := hD0.self (sz := s.heap.size)
  generalize hAe : va_A (wd_C q cI cZ σ) s.heap.size = A at hD ⊢
  have hA : ∀ q : Nat, s.heap.size ≤ q → A q := fun q h => by rw [← hAe]; exact Or.inr h
  have hS : va_S A s.heap s.heap [] := va_S.rf
  have hl := lv_entry ([.ref (q 2), .int z1]) (n := 3) (Nat.le_of_ble_eq_true rfl)
  rw [lg_entry_eq]
  generalize (lg_sl ([.ref (q 2), .int z1]) ++ List.replicate (3 - (lg_sl ([.ref (q 2), .int z1])).length) Slot.unset).toArray = ls at hl ⊢
  have hl : lv_has ls 3 [(0, .ref (q 2)), (1, .int z1)] := hl
  have hH : s.heap = s.heap := rfl
  unfold mc_Slabs_newSlab at hf
  refine lv_aload_n hx hb nd_Slabs_newSlab_0 rfl (lv_at hl 0 rfl) ?_
  refine va_get (D := (dC, dI)) (ci := 3) (v := .ref (q 1)) (C := RX3) (T := TX3) (N := 3) hx hb hB inB3 hown hK hP 2 rfl rfl 0 (by decide) (hB _ lk_48) (fun _ h9 => h9) rfl nd_Slabs_newSlab_1 ?_
  refine lv_iconst (v := 2) hx hb nd_Slabs_newSlab_4 (by decide) ?_
  obtain ⟨r2, σ1, hc, hf⟩ := mi_cw_el hf
  refine ca_i (va_runV (C := "MovedFrames$Frames") (As := [.int (2 : Int32)]) (rest := []) ⟨hx, hb, hml, hown, hB⟩ (kw_Frames_giveOne l dC dI q cI cZ _ σ (2 : Int32) r2 σ1 hc) ⟨callB_of 1 hB (gi_ lk_322) rfl rfl rfl (hB _ lk_2) (hB _ lk_319) (by decide +kernel) ⟨Nat.le_of_ble_eq_true rfl, Nat.le_of_ble_eq_true rfl⟩, hB _ lk_320, hB _ lk_321⟩ ⟨bl_, va_recv (ci := 0) (q0 := 1) hK hP rfl rfl, pre_ hP hK hD hN⟩ rfl rfl hl.1 rfl (lv_room (Nat.le_of_ble_eq_true rfl)) nd_Slabs_newSlab_5 ⟨Nat.zero_le _, Nat.zero_le _⟩) hD hS hA (fun H locs hP hD hS => ?_)
  refine lv_istore_n (lv' := [(2, .int r2), (0, .ref (q 2)), (1, .int z1)]) hx hb nd_Slabs_newSlab_8 rfl hl (by decide) rfl (fun ls hl => ?_)
  refine lv_iload_n hx hb nd_Slabs_newSlab_9 rfl (lv_at hl 0 rfl) ?_
  refine lv_iconst (v := (-1)) hx hb nd_Slabs_newSlab_10 (by decide) ?_
  refine lv_icmp_eq (tgt := 21) hx hb nd_Slabs_newSlab_11 (by decide) (fun hc => ?_) (fun hc => ?_)
  · have hf := mi_if_t hc hf
    refine lv_iload_n hx hb nd_Slabs_newSlab_21 rfl (lv_at hl 0 rfl) ?_
    exact re_i hx hb hr hlocks ((mi_pr hf).1) ((mi_pr hf).2) hP hK hD hS nd_Slabs_newSlab_22
  · have hf := mi_if_f hc hf
    refine lv_aload_n hx hb nd_Slabs_newSlab_14 rfl (lv_at hl 1 rfl) ?_
    refine va_get (D := (dC, dI)) (ci := 3) (v := .ref (q 8)) (C := RX3) (T := TX3) (N := 3) hx hb hB inB3 hown hK hP 2 rfl rfl 1 (by decide) (hB _ lk_49) (fun _ h9 => h9) rfl nd_Slabs_newSlab_15 ?_
    refine lv_iload_n hx hb nd_Slabs_newSlab_18 rfl (lv_at hl 0 rfl) ?_
    refine lv_iload_n hx hb nd_Slabs_newSlab_19 rfl (lv_at hl 2 rfl) ?_
    obtain ⟨hg, hf⟩ := mi_gd_el hf
    refine va_iast hx hb hK hP hD hS 8 0 rfl rfl hg nd_Slabs_newSlab_20 (fun H locs hP hD hS => ?_)
    obtain ⟨σ3, e9, hf⟩ := mi_wr_ex hf
    have hP : va_P (dC, dI) vwCl (wd_C q cI cZ σ3) H := by rw [e9]; exact hP
    have hD : va_D A (wd_C q cI cZ σ3) := by rw [e9]; exact hD
    refine lv_iload_n hx hb nd_Slabs_newSlab_21 rfl (lv_at hl 0 rfl) ?_
    exact re_i hx hb hr hlocks ((mi_pr hf).1) ((mi_pr hf).2) hP hK hD hS nd_Slabs_newSlab_22
abbrev rm_Frames_write : Room := { frames := 0, cells := 0, slots := 0, locals := 0 }
set_option maxHeartbeats 4000000 in
set_option maxRecDepth 100000 in
theorem kw_Frames_write (l : Launch) (dC : Nat → ClassId) (dI : Nat → Nat → Nat) (q : Nat → Nat) (cI cZ : ClassId) (sz : Nat) (σ : CS) (z1 : Int32) (z2 : Int32) (σ' : CS) (hf : mc_Frames_write σ z1 z2 = some σ') : Met l ny_Frames_write nw_Frames_write rm_Frames_write (va_Pc [.ref (q 1), .int z1, .int z2] (pr_ (dC, dI) (wd_C q cI cZ) [(cI, .int), (cZ, .boolean)] sz σ)) (qv_ (dC, dI) (wd_C q cI cZ) [(cI, .int), (cZ, .boolean)] (va_A (wd_C q cI cZ σ) sz) σ') 0 0 (va_A (wd_C q cI cZ σ) sz) := by
  refine Met.ofW (cc := nb_Frames_write) (maxL := 3) (ret := none) (by decide) rfl ?_
  intro p e s m args below meth c s₁ B hml hv
  obtain ⟨rfl, hsz, hP, hK, hD0, hN⟩ := hv
  have hx := B.exec
  have hb := B.bytes
  have hr := B.returns
  have hts := atoms_spec (ws := nw_Frames_write) B.pre
  have hB : ∀ w ∈ BG, w.before ([.ref (q 1), .int z1, .int z2] : List Value).toArray s = true := fun w h => hts w (List.mem_cons_of_mem _ h)
  have hown : s.vm.findClass "MovedFrames$Frames" = some m.cls := findClass_of_methodNamed B.named
  have hlocks := B.notSynchronized
  subst hsz
  have hD := hD0.self (sz := s.heap.size)
  generalize hAe : va_A (wd_C q cI cZ σ) s.heap.size = A at hD ⊢
  have hA : ∀ q : Nat, s.heap.size ≤ q → A q := fun q h => by rw [← hAe]; exact Or.inr h
  have hS : va_S A s.heap s.heap [] := va_S.rf
  have hl := lv_entry ([.ref (q 1), .int z1, .int z2]) (n := 3) (Nat.le_of_ble_eq_true rfl)
  rw [lg_entry_eq]
  generalize (lg_sl ([.ref (q 1), .int z1, .int z2]) ++ List.replicate (3 - (lg_sl ([.ref (q 1), .int z1, .int z2])).length) Slot.unset).toArray = ls at hl ⊢
  have hl : lv_has ls 3 [(0, .ref (q 1)), (1, .int z1), (2, .int z2)] := hl
  have hH : s.heap = s.heap := rfl
  unfold mc_Frames_write at hf
  refine lv_iload_n hx hb nd_Frames_write_0 rfl (lv_at hl 1 rfl) ?_
  refine lv_if_lt (tgt := 20) hx hb nd_Frames_write_1 (by decide) (fun hc => ?_) (fun hc => ?_)
  · have hf := mi_if_t hc hf
    exact re_v hx hb hr hlocks (mi_eq hf) hP hK hD hS nd_Frames_write_20
  · have hf := mi_if_f hc hf
    refine lv_iload_n hx hb nd_Frames_write_4 rfl (lv_at hl 1 rfl) ?_
    refine lv_aload_n hx hb nd_Frames_write_5 rfl (lv_at hl 0 rfl) ?_
    refine va_get (D := (dC, dI)) (ci := 0) (v := .ref (q 7)) (C := RX0) (T := TX0) (N := 3) hx hb hB inB0 hown hK hP 1 rfl rfl 1 (by decide) (hB _ lk_32) (fun _ h9 => h9) rfl nd_Frames_write_6 ?_
    refine va_alen (v := 1024) hx hb hK hP 7 0 rfl rfl rfl nd_Frames_write_9 ?_
    refine lv_icmp_ge (tgt := 20) hx hb nd_Frames_write_10 (by decide) (fun hc => ?_) (fun hc => ?_)
    · have hf := mi_if_t hc hf
      exact re_v hx hb hr hlocks (mi_eq hf) hP hK hD hS nd_Frames_write_20
    · have hf := mi_if_f hc hf
      refine lv_aload_n hx hb nd_Frames_write_13 rfl (lv_at hl 0 rfl) ?_
      refine va_get (D := (dC, dI)) (ci := 0) (v := .ref (q 7)) (C := RX0) (T := TX0) (N := 3) hx hb hB inB0 hown hK hP 1 rfl rfl 1 (by decide) (hB _ lk_32) (fun _ h9 => h9) rfl nd_Frames_write_14 ?_
      refine lv_iload_n hx hb nd_Frames_write_17 rfl (lv_at hl 1 rfl) ?_
      refine lv_iload_n hx hb nd_Frames_write_18 rfl (lv_at hl 2 rfl) ?_
      obtain ⟨hg, hf⟩ := mi_gd_el hf
      refine va_iast hx hb hK hP hD hS 7 0 rfl rfl hg nd_Frames_write_19 (fun H locs hP hD hS => ?_)
      obtain ⟨σ1, e9, hf⟩ := mi_wr_ex hf
      have hP : va_P (dC, dI) vwCl (wd_C q cI cZ σ1) H := by rw [e9]; exact hP
      have hD : va_D A (wd_C q cI cZ σ1) := by rw [e9]; exact hD
      exact re_v hx hb hr hlocks (mi_eq hf) hP hK hD hS nd_Frames_write_20
abbrev rm_Frames_clear : Room := { frames := 1, cells := 0, slots := 0, locals := 22 }
set_option maxHeartbeats 4000000 in
set_option maxRecDepth 100000 in
theorem kw_Frames_clear (l : Launch) (dC : Nat → ClassId) (dI : Nat → Nat → Nat) (q : Nat → Nat) (cI cZ : ClassId) (sz : Nat) (σ : CS) (z1 : Int32) (z2 : Int32) (σ' : CS) (hf : mc_Frames_clear σ z1 z2 = some σ') : Met l ny_Frames_clear nw_Frames_clear rm_Frames_clear (va_Pc [.ref (q 1), .int z1, .int z2] (pr_ (dC, dI) (wd_C q cI cZ) [(cI, .int), (cZ, .boolean)] sz σ)) (qv_ (dC, dI) (wd_C q cI cZ) [(cI, .int), (cZ, .boolean)] (va_A (wd_C q cI cZ σ) sz) σ') 0 0 (va_A (wd_C q cI cZ σ) sz) := by
  refine Met.ofW (cc := nb_Frames_clear) (maxL := 4) (ret := none) (by decide) rfl ?_
  intro p e s m args below meth c s₁ B hml hv
  obtain ⟨rfl, hsz, hP, hK, hD0, hN⟩ := hv
  have hx := B.exec
  have hb := B.bytes
  have hr := B.returns
  have hts := atoms_spec (ws := nw_Frames_clear) B.pre
  have hB : ∀ w ∈ BG, w.before ([.ref (q 1), .int z1, .int z2] : List Value).toArray s = true := fun w h => hts w (List.mem_cons_of_mem _ h)
  have hown : s.vm.findClass "MovedFrames$Frames" = some m.cls := findClass_of_methodNamed B.named
  have hlocks := B.notSynchronized
  subst hsz
  have hD := hD0.self (sz := s.heap.size)
  generalize hAe : va_A (wd_C q cI cZ σ) s.heap.size = A at hD ⊢
  have hA : ∀ q : Nat, s.heap.size ≤ q → A q := fun q h => by rw [← hAe]; exact Or.inr h
  have hS : va_S A s.heap s.heap [] := va_S.rf
  have hl := lv_entry ([.ref (q 1), .int z1, .int z2]) (n := 4) (Nat.le_of_ble_eq_true rfl)
  rw [lg_entry_eq]
  generalize (lg_sl ([.ref (q 1), .int z1, .int z2]) ++ List.replicate (4 - (lg_sl ([.ref (q 1), .int z1, .int z2])).length) Slot.unset).toArray = ls at hl ⊢
  have hl : lv_has ls 4 [(0, .ref (q 1)), (1, .int z1), (2, .int z2)] := hl
  have B2 : ∀ (k2 : Int32 → Int32 → Int32 → CS → Option (CS)) (hk2 : ∀ (x1 : Int32) (x2 : Int32) (x3 : Int32) (σ : CS), k2 x1 x2 x3 σ = some σ' → bk_ p l e rm_Frames_clear s m ([.ref (q 1), .int z1, .int z2] : List Value).toArray below meth c (MQ below (qv_ (dC, dI) (wd_C q cI cZ) [(cI, .int), (cZ, .boolean)] A σ') ([.ref (q 1), .int z1, .int z2] : List Value).toArray s 0 0 A) A (dC, dI) (wd_C q cI cZ) 4 2 [(0, .ref (q 1)), (1, .int x1), (2, .int x2), (3, .int x3)] [] σ) (x1 : Int32) (x2 : Int32) (x3 : Int32) (σ : CS), mc_Frames_clear_b2 k2 x1 x2 x3 σ = some σ' → bk_ p l e rm_Frames_clear s m ([.ref (q 1), .int z1, .int z2] : List Value).toArray below meth c (MQ below (qv_ (dC, dI) (wd_C q cI cZ) [(cI, .int), (cZ, .boolean)] A σ') ([.ref (q 1), .int z1, .int z2] : List Value).toArray s 0 0 A) A (dC, dI) (wd_C q cI cZ) 4 2 [(0, .ref (q 1)), (1, .int x1), (2, .int x2), (3, .int x3)] [] σ := by
    intro k2 hk2 x1 x2 x3 σ hf ls H locs hl hP hD hS
    unfold mc_Frames_clear_b2 at hf
    refine lv_iload_n hx hb nd_Frames_clear_2 rfl (lv_at hl 3 rfl) ?_
    refine lv_iload_n hx hb nd_Frames_clear_3 rfl (lv_at hl 2 rfl) ?_
    refine lv_icmp_ge (tgt := 21) hx hb nd_Frames_clear_4 (by decide) (fun hc => ?_) (fun hc => ?_)
    · have hf := mi_if_t hc hf
      exact re_v hx hb hr hlocks (mi_eq hf) hP hK hD hS nd_Frames_clear_21
    · have hf := mi_if_f hc hf
      refine lv_aload_n hx hb nd_Frames_clear_7 rfl (lv_at hl 0 rfl) ?_
      refine lv_iload_n hx hb nd_Frames_clear_8 rfl (lv_at hl 1 rfl) ?_
      refine lv_iload_n hx hb nd_Frames_clear_9 rfl (lv_at hl 3 rfl) ?_
      refine lv_iadd hx hb nd_Frames_clear_10 ?_
      refine lv_iconst (v := 0) hx hb nd_Frames_clear_11 (by decide) ?_
      obtain ⟨σ1, hc, hf⟩ := mi_cv_el hf
      refine ca_v (va_runV (C := "MovedFrames$Frames") (As := [.int (x1 + x3), .int (0 : Int32)]) (rest := []) ⟨hx, hb, hml, hown, hB⟩ (kw_Frames_write l dC dI q cI cZ _ σ (x1 + x3) (0 : Int32) σ1 hc) ⟨callB_of 2 hB (gi_ lk_338) rfl rfl rfl (hB _ lk_2) (hB _ lk_335) (by decide +kernel) ⟨Nat.le_of_ble_eq_true rfl, Nat.le_of_ble_eq_true rfl⟩, hB _ lk_336, hB _ lk_337⟩ ⟨bl_, va_recv (ci := 0) (q0 := 1) hK hP rfl rfl, pre_ hP hK hD hN⟩ rfl rfl hl.1 rfl (lv_room (Nat.le_of_ble_eq_true rfl)) nd_Frames_clear_12 ⟨Nat.zero_le _, Nat.zero_le _⟩) hD hS hA (fun H locs hP hD hS => ?_)
      refine lv_iinc (k := 3) (v := x3 + (1 : Int32)) (lv' := [(3, .int (x3 + (1 : Int32))), (0, .ref (q 1)), (1, .int x1), (2, .int x2)]) hx hb nd_Frames_clear_15 hl rfl (congrArg (fun z => x3 + z) (by decide : Int32.ofInt 1 = (1 : Int32))) (by decide) rfl (fun ls hl => ?_)
      refine lv_goto (tgt := 2) hx hb nd_Frames_clear_18 (by decide) ?_
      exact hk2 x1 x2 (x3 + (1 : Int32)) σ1 hf _ _ _ (lv_sub hl [1, 2, 3, 0] rfl) hP hD hS
  have L2 : ∀ (n : Nat) (x1 : Int32) (x2 : Int32) (x3 : Int32) (σ : CS), mc_Frames_clear_l2 n x1 x2 x3 σ = some σ' → bk_ p l e rm_Frames_clear s m ([.ref (q 1), .int z1, .int z2] : List Value).toArray below meth c (MQ below (qv_ (dC, dI) (wd_C q cI cZ) [(cI, .int), (cZ, .boolean)] A σ') ([.ref (q 1), .int z1, .int z2] : List Value).toArray s 0 0 A) A (dC, dI) (wd_C q cI cZ) 4 2 [(0, .ref (q 1)), (1, .int x1), (2, .int x2), (3, .int x3)] [] σ := by
    intro n
    induction n with
    | zero =>
      intro x1 x2 x3 σ hf
      exact mi_no hf
    | succ n ih =>
      intro x1 x2 x3 σ hf
      exact B2 (mc_Frames_clear_l2 n) ih x1 x2 x3 σ hf
  have hH : s.heap = s.heap := rfl
  unfold mc_Frames_clear at hf
  refine lv_iconst (v := 0) hx hb nd_Frames_clear_0 (by decide) ?_
  refine lv_istore_n (lv' := [(3, .int (0 : Int32)), (0, .ref (q 1)), (1, .int z1), (2, .int z2)]) hx hb nd_Frames_clear_1 rfl hl (by decide) rfl (fun ls hl => ?_)
  exact L2 FU z1 z2 (0 : Int32) σ hf _ _ _ (lv_sub hl [1, 2, 3, 0] rfl) hP hD hS
abbrev rm_Slabs_takeLowest : Room := { frames := 3, cells := 0, slots := 0, locals := 65 }
set_option maxHeartbeats 4000000 in
set_option maxRecDepth 100000 in
theorem kw_Slabs_takeLowest (l : Launch) (dC : Nat → ClassId) (dI : Nat → Nat → Nat) (q : Nat → Nat) (cI cZ : ClassId) (sz : Nat) (σ : CS) (z1 : Int32) (z2 : Int32) (v : Int32) (σ' : CS) (hf : mc_Slabs_takeLowest σ z1 z2 = some (v, σ')) : Met l ny_Slabs_takeLowest nw_Slabs_takeLowest rm_Slabs_takeLowest (va_Pc [.ref (q 2), .int z1, .int z2] (pr_ (dC, dI) (wd_C q cI cZ) [(cI, .int), (cZ, .boolean)] sz σ)) (qi_ (dC, dI) (wd_C q cI cZ) [(cI, .int), (cZ, .boolean)] (va_A (wd_C q cI cZ σ) sz) v σ') 0 0 (va_A (wd_C q cI cZ σ) sz) := by
  refine Met.ofW (cc := nb_Slabs_takeLowest) (maxL := 4) (ret := (some .int)) (by decide) rfl ?_
  intro p e s m args below meth c s₁ B hml hv
  obtain ⟨rfl, hsz, hP, hK, hD0, hN⟩ := hv
  have hx := B.exec
  have hb := B.bytes
  have hr := B.returns
  have hts := atoms_spec (ws := nw_Slabs_takeLowest) B.pre
  have hB : ∀ w ∈ BG, w.before ([.ref (q 2), .int z1, .int z2] : List Value).toArray s = true := fun w h => hts w (List.mem_cons_of_mem _ h)
  have hown : s.vm.findClass "MovedFrames$Slabs" = some m.cls := findClass_of_methodNamed B.named
  have hlocks := B.notSynchronized
  subst hsz
  have hD := hD0.self (sz := s.heap.size)
  generalize hAe : va_A (wd_C q cI cZ σ) s.heap.size = A at hD ⊢
  have hA : ∀ q : Nat, s.heap.size ≤ q → A q := fun q h => by rw [← hAe]; exact Or.inr h
  have hS : va_S A s.heap s.heap [] := va_S.rf
  have hl := lv_entry ([.ref (q 2), .int z1, .int z2]) (n := 4) (Nat.le_of_ble_eq_true rfl)
  rw [lg_entry_eq]
  generalize (lg_sl ([.ref (q 2), .int z1, .int z2]) ++ List.replicate (4 - (lg_sl ([.ref (q 2), .int z1, .int z2])).length) Slot.unset).toArray = ls at hl ⊢
  have hl : lv_has ls 4 [(0, .ref (q 2)), (1, .int z1), (2, .int z2)] := hl
  have hH : s.heap = s.heap := rfl
  unfold mc_Slabs_takeLowest at hf
  refine lv_aload_n hx hb nd_Slabs_takeLowest_0 rfl (lv_at hl 0 rfl) ?_
  refine lv_iload_n hx hb nd_Slabs_takeLowest_1 rfl (lv_at hl 1 rfl) ?_
  obtain ⟨r1, hc, hf⟩ := mi_cp_el hf
  refine ca_i (va_runV (C := "MovedFrames$Slabs") (As := [.int z1]) (rest := []) ⟨hx, hb, hml, hown, hB⟩ (kw_Slabs_lowestRoom l dC dI q cI cZ _ σ z1 r1 hc) ⟨callB_of 1 hB (gi_ lk_306) rfl rfl rfl (hB _ lk_3) (hB _ lk_303) (by decide +kernel) ⟨Nat.le_of_ble_eq_true rfl, Nat.le_of_ble_eq_true rfl⟩, hB _ lk_305, hB _ ls_6⟩ ⟨bl_, va_recv (ci := 3) (q0 := 2) hK hP rfl rfl, pre_ hP hK hD hN⟩ rfl rfl hl.1 rfl (lv_room (Nat.le_of_ble_eq_true rfl)) nd_Slabs_takeLowest_2 ⟨Nat.zero_le _, Nat.zero_le _⟩) hD hS hA (fun H locs hP hD hS => ?_)
  refine lv_istore_n (lv' := [(3, .int r1), (0, .ref (q 2)), (1, .int z1), (2, .int z2)]) hx hb nd_Slabs_takeLowest_5 rfl hl (by decide) rfl (fun ls hl => ?_)
  refine lv_iload_n hx hb nd_Slabs_takeLowest_6 rfl (lv_at hl 0 rfl) ?_
  refine lv_iconst (v := (-1)) hx hb nd_Slabs_takeLowest_7 (by decide) ?_
  refine lv_icmp_eq (tgt := 34) hx hb nd_Slabs_takeLowest_8 (by decide) (fun hc => ?_) (fun hc => ?_)
  · have hf := mi_if_t hc hf
    refine lv_iload_n hx hb nd_Slabs_takeLowest_34 rfl (lv_at hl 0 rfl) ?_
    exact re_i hx hb hr hlocks ((mi_pr hf).1) ((mi_pr hf).2) hP hK hD hS nd_Slabs_takeLowest_35
  · have hf := mi_if_f hc hf
    refine lv_aload_n hx hb nd_Slabs_takeLowest_11 rfl (lv_at hl 1 rfl) ?_
    refine va_get (D := (dC, dI)) (ci := 3) (v := .ref (q 9)) (C := RX3) (T := TX3) (N := 3) hx hb hB inB3 hown hK hP 2 rfl rfl 2 (by decide) (hB _ lk_50) (fun _ h9 => h9) rfl nd_Slabs_takeLowest_12 ?_
    refine lv_iload_n hx hb nd_Slabs_takeLowest_15 rfl (lv_at hl 2 rfl) ?_
    refine lv_dup2_11 hx hb nd_Slabs_takeLowest_16 rfl rfl ?_
    obtain ⟨hg, hf⟩ := mi_gd_el hf
    refine va_iald hx hb hK hP 9 0 rfl rfl hg nd_Slabs_takeLowest_17 ?_
    refine lv_aload_n hx hb nd_Slabs_takeLowest_18 rfl (lv_at hl 1 rfl) ?_
    refine lv_iload_n hx hb nd_Slabs_takeLowest_19 rfl (lv_at hl 0 rfl) ?_
    obtain ⟨r2, hc, hf⟩ := mi_cp_el hf
    refine ca_i (va_runV (C := "MovedFrames$Slabs") (As := [.int r1]) (rest := [.int ((gc_tk σ) z1.toNatClampNeg), .int z1, .ref (q 9)]) ⟨hx, hb, hml, hown, hB⟩ (kw_Slabs_bitOf l dC dI q cI cZ _ σ r1 r2 hc) ⟨callB_of 1 hB (gi_ lk_314) rfl rfl rfl (hB _ lk_3) (hB _ lk_311) (by decide +kernel) ⟨Nat.le_of_ble_eq_true rfl, Nat.le_of_ble_eq_true rfl⟩, hB _ lk_313, hB _ ls_7⟩ ⟨bl_, va_recv (ci := 3) (q0 := 2) hK hP rfl rfl, pre_ hP hK hD hN⟩ rfl rfl hl.1 rfl (lv_room (Nat.le_of_ble_eq_true rfl)) nd_Slabs_takeLowest_20 ⟨Nat.zero_le _, Nat.zero_le _⟩) hD hS hA (fun H locs hP hD hS => ?_)
    refine lv_ior hx hb nd_Slabs_takeLowest_23 ?_
    obtain ⟨hg, hf⟩ := mi_gd_el hf
    refine va_iast hx hb hK hP hD hS 9 0 rfl rfl hg nd_Slabs_takeLowest_24 (fun H locs hP hD hS => ?_)
    obtain ⟨σ3, e9, hf⟩ := mi_wr_ex hf
    have hP : va_P (dC, dI) vwCl (wd_C q cI cZ σ3) H := by rw [e9]; exact hP
    have hD : va_D A (wd_C q cI cZ σ3) := by rw [e9]; exact hD
    refine lv_aload_n hx hb nd_Slabs_takeLowest_25 rfl (lv_at hl 1 rfl) ?_
    refine va_get (D := (dC, dI)) (ci := 3) (v := .ref (q 1)) (C := RX3) (T := TX3) (N := 3) hx hb hB inB3 hown hK hP 2 rfl rfl 0 (by decide) (hB _ lk_48) (fun _ h9 => h9) rfl nd_Slabs_takeLowest_26 ?_
    refine lv_iload_n hx hb nd_Slabs_takeLowest_29 rfl (lv_at hl 0 rfl) ?_
    refine lv_iload_n hx hb nd_Slabs_takeLowest_30 rfl (lv_at hl 3 rfl) ?_
    obtain ⟨σ4, hc, hf⟩ := mi_cv_el hf
    refine ca_v (va_runV (C := "MovedFrames$Frames") (As := [.int r1, .int z2]) (rest := []) ⟨hx, hb, hml, hown, hB⟩ (kw_Frames_clear l dC dI q cI cZ _ σ3 r1 z2 σ4 hc) ⟨callB_of 2 hB (gi_ lk_334) rfl rfl rfl (hB _ lk_2) (hB _ lk_331) (by decide +kernel) ⟨Nat.le_of_ble_eq_true rfl, Nat.le_of_ble_eq_true rfl⟩, hB _ lk_332, hB _ lk_333⟩ ⟨bl_, va_recv (ci := 0) (q0 := 1) hK hP rfl rfl, pre_ hP hK hD hN⟩ rfl rfl hl.1 rfl (lv_room (Nat.le_of_ble_eq_true rfl)) nd_Slabs_takeLowest_31 ⟨Nat.zero_le _, Nat.zero_le _⟩) hD hS hA (fun H locs hP hD hS => ?_)
    refine lv_iload_n hx hb nd_Slabs_takeLowest_34 rfl (lv_at hl 0 rfl) ?_
    exact re_i hx hb hr hlocks ((mi_pr hf).1) ((mi_pr hf).2) hP hK hD hS nd_Slabs_takeLowest_35
abbrev rm_Slabs_add : Room := { frames := 4, cells := 0, slots := 0, locals := 93 }
set_option maxHeartbeats 4000000 in
set_option maxRecDepth 100000 in
theorem kw_Slabs_add (l : Launch) (dC : Nat → ClassId) (dI : Nat → Nat → Nat) (q : Nat → Nat) (cI cZ : ClassId) (sz : Nat) (σ : CS) (z1 : Int32) (v : Int32) (σ' : CS) (hf : mc_Slabs_add σ z1 = some (v, σ')) : Met l ny_Slabs_add nw_Slabs_add rm_Slabs_add (va_Pc [.ref (q 2), .int z1] (pr_ (dC, dI) (wd_C q cI cZ) [(cI, .int), (cZ, .boolean)] sz σ)) (qi_ (dC, dI) (wd_C q cI cZ) [(cI, .int), (cZ, .boolean)] (va_A (wd_C q cI cZ σ) sz) v σ') 0 0 (va_A (wd_C q cI cZ σ) sz) := by
  refine Met.ofW (cc := nb_Slabs_add) (maxL := 3) (ret := (some .int)) (by decide) rfl ?_
  intro p e s m args below meth c s₁ B hml hv
  obtain ⟨rfl, hsz, hP, hK, hD0, hN⟩ := hv
  have hx := B.exec
  have hb := B.bytes
  have hr := B.returns
  have hts := atoms_spec (ws := nw_Slabs_add) B.pre
  have hB : ∀ w ∈ BG, w.before ([.ref (q 2), .int z1] : List Value).toArray s = true := fun w h => hts w (List.mem_cons_of_mem _ h)
  have hown : s.vm.findClass "MovedFrames$Slabs" = some m.cls := findClass_of_methodNamed B.named
  have hlocks := B.notSynchronized
  subst hsz
  have hD := hD0.self (sz := s.heap.size)
  generalize hAe : va_A (wd_C q cI cZ σ) s.heap.size = A at hD ⊢
  have hA : ∀ q : Nat, s.heap.size ≤ q → A q := fun q h => by rw [← hAe]; exact Or.inr h
  have hS : va_S A s.heap s.heap [] := va_S.rf
  have hl := lv_entry ([.ref (q 2), .int z1]) (n := 3) (Nat.le_of_ble_eq_true rfl)
  rw [lg_entry_eq]
  generalize (lg_sl ([.ref (q 2), .int z1]) ++ List.replicate (3 - (lg_sl ([.ref (q 2), .int z1])).length) Slot.unset).toArray = ls at hl ⊢
  have hl : lv_has ls 3 [(0, .ref (q 2)), (1, .int z1)] := hl
  have B17 : ∀ (x1 : Int32) (x2 : Int32) (σ : CS), mc_Slabs_add_b17 x1 x2 σ = some (v, σ') → bk_ p l e rm_Slabs_add s m ([.ref (q 2), .int z1] : List Value).toArray below meth c (MQ below (qi_ (dC, dI) (wd_C q cI cZ) [(cI, .int), (cZ, .boolean)] A v σ') ([.ref (q 2), .int z1] : List Value).toArray s 0 0 A) A (dC, dI) (wd_C q cI cZ) 3 17 [(0, .ref (q 2)), (1, .int x1), (2, .int x2)] [] σ := by
    intro x1 x2 σ hf ls H locs hl hP hD hS
    unfold mc_Slabs_add_b17 at hf
    refine lv_iload_n hx hb nd_Slabs_add_17 rfl (lv_at hl 2 rfl) ?_
    refine lv_iconst (v := (-1)) hx hb nd_Slabs_add_18 (by decide) ?_
    refine lv_icmp_ne (tgt := 26) hx hb nd_Slabs_add_19 (by decide) (fun hc => ?_) (fun hc => ?_)
    · have hf := mi_if_f hc hf
      refine lv_aload_n hx hb nd_Slabs_add_26 rfl (lv_at hl 0 rfl) ?_
      refine lv_iload_n hx hb nd_Slabs_add_27 rfl (lv_at hl 2 rfl) ?_
      refine lv_iload_n hx hb nd_Slabs_add_28 rfl (lv_at hl 1 rfl) ?_
      obtain ⟨r3, σ2, hc, hf⟩ := mi_cw_el hf
      refine ca_i (va_runV (C := "MovedFrames$Slabs") (As := [.int x2, .int x1]) (rest := []) ⟨hx, hb, hml, hown, hB⟩ (kw_Slabs_takeLowest l dC dI q cI cZ _ σ x2 x1 r3 σ2 hc) ⟨callB_of 2 hB (gi_ lk_330) rfl rfl rfl (hB _ lk_3) (hB _ lk_327) (by decide +kernel) ⟨Nat.le_of_ble_eq_true rfl, Nat.le_of_ble_eq_true rfl⟩, hB _ lk_329, hB _ ls_9⟩ ⟨bl_, va_recv (ci := 3) (q0 := 2) hK hP rfl rfl, pre_ hP hK hD hN⟩ rfl rfl hl.1 rfl (lv_room (Nat.le_of_ble_eq_true rfl)) nd_Slabs_add_29 ⟨Nat.zero_le _, Nat.zero_le _⟩) hD hS hA (fun H locs hP hD hS => ?_)
      exact re_i hx hb hr hlocks ((mi_pr hf).1) ((mi_pr hf).2) hP hK hD hS nd_Slabs_add_32
    · have hf := mi_if_t hc hf
      refine lv_iconst (v := (-1)) hx hb nd_Slabs_add_22 (by decide) ?_
      refine lv_goto (tgt := 32) hx hb nd_Slabs_add_23 (by decide) ?_
      exact re_i hx hb hr hlocks ((mi_pr hf).1) ((mi_pr hf).2) hP hK hD hS nd_Slabs_add_32
  have hH : s.heap = s.heap := rfl
  unfold mc_Slabs_add at hf
  refine lv_aload_n hx hb nd_Slabs_add_0 rfl (lv_at hl 0 rfl) ?_
  refine lv_iload_n hx hb nd_Slabs_add_1 rfl (lv_at hl 1 rfl) ?_
  obtain ⟨r1, hc, hf⟩ := mi_cp_el hf
  refine ca_i (va_runV (C := "MovedFrames$Slabs") (As := [.int z1]) (rest := []) ⟨hx, hb, hml, hown, hB⟩ (kw_Slabs_lowestSlabWithRoom l dC dI q cI cZ _ σ z1 r1 hc) ⟨callB_of 1 hB (gi_ lk_302) rfl rfl rfl (hB _ lk_3) (hB _ lk_299) (by decide +kernel) ⟨Nat.le_of_ble_eq_true rfl, Nat.le_of_ble_eq_true rfl⟩, hB _ lk_301, hB _ ls_5⟩ ⟨bl_, va_recv (ci := 3) (q0 := 2) hK hP rfl rfl, pre_ hP hK hD hN⟩ rfl rfl hl.1 rfl (lv_room (Nat.le_of_ble_eq_true rfl)) nd_Slabs_add_2 ⟨Nat.zero_le _, Nat.zero_le _⟩) hD hS hA (fun H locs hP hD hS => ?_)
  refine lv_istore_n (lv' := [(2, .int r1), (0, .ref (q 2)), (1, .int z1)]) hx hb nd_Slabs_add_5 rfl hl (by decide) rfl (fun ls hl => ?_)
  refine lv_iload_n hx hb nd_Slabs_add_6 rfl (lv_at hl 0 rfl) ?_
  refine lv_iconst (v := (-1)) hx hb nd_Slabs_add_7 (by decide) ?_
  refine lv_icmp_ne (tgt := 17) hx hb nd_Slabs_add_8 (by decide) (fun hc => ?_) (fun hc => ?_)
  · have hf := mi_if_f hc hf
    exact B17 z1 r1 σ hf _ _ _ (lv_sub hl [1, 2, 0] rfl) hP hD hS
  · have hf := mi_if_t hc hf
    refine lv_aload_n hx hb nd_Slabs_add_11 rfl (lv_at hl 1 rfl) ?_
    refine lv_iload_n hx hb nd_Slabs_add_12 rfl (lv_at hl 2 rfl) ?_
    obtain ⟨r5, σ4, hc, hf⟩ := mi_cw_el hf
    refine ca_i (va_runV (C := "MovedFrames$Slabs") (As := [.int z1]) (rest := []) ⟨hx, hb, hml, hown, hB⟩ (kw_Slabs_newSlab l dC dI q cI cZ _ σ z1 r5 σ4 hc) ⟨callB_of 1 hB (gi_ lk_318) rfl rfl rfl (hB _ lk_3) (hB _ lk_315) (by decide +kernel) ⟨Nat.le_of_ble_eq_true rfl, Nat.le_of_ble_eq_true rfl⟩, hB _ lk_317, hB _ ls_8⟩ ⟨bl_, va_recv (ci := 3) (q0 := 2) hK hP rfl rfl, pre_ hP hK hD hN⟩ rfl rfl hl.1 rfl (lv_room (Nat.le_of_ble_eq_true rfl)) nd_Slabs_add_13 ⟨Nat.zero_le _, Nat.zero_le _⟩) hD hS hA (fun H locs hP hD hS => ?_)
    refine lv_istore_n (lv' := [(2, .int r5), (0, .ref (q 2)), (1, .int z1)]) hx hb nd_Slabs_add_16 rfl hl (by decide) rfl (fun ls hl => ?_)
    exact B17 z1 r5 σ4 hf _ _ _ (lv_sub hl [1, 2, 0] rfl) hP hD hS
abbrev rm_F_orNotEnough : Room := { frames := 0, cells := 0, slots := 0, locals := 0 }
set_option maxHeartbeats 4000000 in
set_option maxRecDepth 100000 in
theorem kw_F_orNotEnough (l : Launch) (dC : Nat → ClassId) (dI : Nat → Nat → Nat) (q : Nat → Nat) (cI cZ : ClassId) (sz : Nat) (σ : CS) (z0 : Int32) (v : Int32) (hf : mc_orNotEnough z0 = some (v, 0)) : Met l ny_F_orNotEnough nw_F_orNotEnough rm_F_orNotEnough (va_Pc [.int z0] (pr_ (dC, dI) (wd_C q cI cZ) [(cI, .int), (cZ, .boolean)] sz σ)) (qi_ (dC, dI) (wd_C q cI cZ) [(cI, .int), (cZ, .boolean)] (va_A (wd_C q cI cZ σ) sz) v σ) 0 0 (va_A (wd_C q cI cZ σ) sz) := by
  refine Met.ofW (cc := nb_F_orNotEnough) (maxL := 1) (ret := (some .int)) (by decide) rfl ?_
  intro p e s m args below meth c s₁ B hml hv
  obtain ⟨rfl, hsz, hP, hK, hD0, hN⟩ := hv
  have hx := B.exec
  have hb := B.bytes
  have hr := B.returns
  have hts := atoms_spec (ws := nw_F_orNotEnough) B.pre
  have hB : ∀ w ∈ BG, w.before ([.int z0] : List Value).toArray s = true := fun w h => hts w (List.mem_cons_of_mem _ h)
  have hown : s.vm.findClass "MovedFrames" = some m.cls := findClass_of_methodNamed B.named
  have hlocks := B.notSynchronized
  subst hsz
  have hD := hD0.self (sz := s.heap.size)
  generalize hAe : va_A (wd_C q cI cZ σ) s.heap.size = A at hD ⊢
  have hA : ∀ q : Nat, s.heap.size ≤ q → A q := fun q h => by rw [← hAe]; exact Or.inr h
  have hS : va_S A s.heap s.heap [] := va_S.rf
  have hl := lv_entry ([.int z0]) (n := 1) (Nat.le_of_ble_eq_true rfl)
  rw [lg_entry_eq]
  generalize (lg_sl ([.int z0]) ++ List.replicate (1 - (lg_sl ([.int z0])).length) Slot.unset).toArray = ls at hl ⊢
  have hl : lv_has ls 1 [(0, .int z0)] := hl
  have hH : s.heap = s.heap := rfl
  unfold mc_orNotEnough at hf
  refine lv_iload_n hx hb nd_F_orNotEnough_0 rfl (lv_at hl 0 rfl) ?_
  refine lv_iconst (v := (-1)) hx hb nd_F_orNotEnough_1 (by decide) ?_
  refine lv_icmp_ne (tgt := 15) hx hb nd_F_orNotEnough_2 (by decide) (fun hc => ?_) (fun hc => ?_)
  · have hf := mi_if_f hc hf
    refine lv_iload_n hx hb nd_F_orNotEnough_15 rfl (lv_at hl 0 rfl) ?_
    exact re_i hx hb hr hlocks ((mi_t2 hf).1) (rfl) hP hK hD hS nd_F_orNotEnough_16
  · have hf := mi_if_t hc hf
    exact absurd (mi_t2 hf).2 (by decide)
abbrev rt_F_orNotEnough : Room := { frames := 6, cells := 1, slots := 6, locals := 90 }
set_option maxHeartbeats 4000000 in
set_option maxRecDepth 100000 in
theorem kt_F_orNotEnough (l : Launch) (dC : Nat → ClassId) (dI : Nat → Nat → Nat) (q : Nat → Nat) (cI cZ : ClassId) (sz : Nat) (σ : CS) (z0 : Int32) (v : Int32) (n : Nat) (htr : l.stackTraces = false) (hn : ¬ n = 0) (hf : mc_orNotEnough z0 = some (v, n)) : vx_Met l ny_F_orNotEnough nw_F_orNotEnough rt_F_orNotEnough (va_Pc [.int z0] (prx_ (dC, dI) (wd_C q cI cZ) [(cI, .int), (cZ, .boolean)] sz σ)) (fi_ (dC, dI) (wd_C q cI cZ) [(cI, .int), (cZ, .boolean)] (va_A (wd_C q cI cZ σ) sz)) (xx_ (dC, dI) (wd_C q cI cZ) [(cI, .int), (cZ, .boolean)] (va_A (wd_C q cI cZ σ) sz) n σ) 1 6 (va_A (wd_C q cI cZ σ) sz) := by
  refine vx_ofW (cc := nb_F_orNotEnough) (maxL := 1) (ret := (some .int)) (by decide) rfl ?_
  intro p e s m args below meth c s₁ B hml hno hv
  obtain ⟨rfl, ⟨hsz, hP, hK, hD0, hN⟩, hT, hZ⟩ := hv
  have hx := B.exec
  have hb := B.bytes
  have hr := B.returns
  have hts := atoms_spec (ws := nw_F_orNotEnough) B.pre
  have hB : ∀ w ∈ BG, w.before ([.int z0] : List Value).toArray s = true := fun w h => hts w (List.mem_cons_of_mem _ h)
  have hown : s.vm.findClass "MovedFrames" = some m.cls := findClass_of_methodNamed B.named
  have hlocks := B.notSynchronized
  subst hsz
  have hD := hD0.self (sz := s.heap.size)
  generalize hAe : va_A (wd_C q cI cZ σ) s.heap.size = A at hD hZ ⊢
  have hA : ∀ q : Nat, s.heap.size ≤ q → A q := fun q h => by rw [← hAe]; exact Or.inr h
  have hS : va_S A s.heap s.heap [] := va_S.rf
  have hl := lv_entry ([.int z0]) (n := 1) (Nat.le_of_ble_eq_true rfl)
  rw [lg_entry_eq]
  generalize (lg_sl ([.int z0]) ++ List.replicate (1 - (lg_sl ([.int z0])).length) Slot.unset).toArray = ls at hl ⊢
  have hl : lv_has ls 1 [(0, .int z0)] := hl
  have hH : s.heap = s.heap := rfl
  unfold mc_orNotEnough at hf
  refine lv_iload_n hx hb nd_F_orNotEnough_0 rfl (lv_at hl 0 rfl) ?_
  refine lv_iconst (v := (-1)) hx hb nd_F_orNotEnough_1 (by decide) ?_
  refine lv_icmp_ne (tgt := 15) hx hb nd_F_orNotEnough_2 (by decide) (fun hc => ?_) (fun hc => ?_)
  · have hf := mi_if_f hc hf
    refine lv_iload_n hx hb nd_F_orNotEnough_15 rfl (lv_at hl 0 rfl) ?_
    exact absurd (mi_t2 hf).2.symm hn
  · have hf := mi_if_t hc hf
    have hm := mi_t2 hf
    exact th_ (text := "not enough is free") hx hb htr hown (by decide) (by decide) (hB _ lk_342) (hB _ lk_12) hT.2.2.1 (sa_MovedFrames_138 hB hT) sg_MovedFrames_138 hZ hP hK hD hS (hl.1.trans hml.symm) nd_F_orNotEnough_5 nd_F_orNotEnough_8 nd_F_orNotEnough_9 nd_F_orNotEnough_11 nd_F_orNotEnough_14 hno (Nat.le_of_ble_eq_true rfl) (Nat.le_of_ble_eq_true rfl) (Nat.le_of_ble_eq_true rfl) (Nat.le_of_ble_eq_true rfl) hlocks hn (by rw [← hm.2]; rfl) rfl
abbrev rm_F_kmalloc : Room := { frames := 7, cells := 0, slots := 0, locals := 115 }
set_option maxHeartbeats 4000000 in
set_option maxRecDepth 100000 in
theorem kw_F_kmalloc (l : Launch) (dC : Nat → ClassId) (dI : Nat → Nat → Nat) (q : Nat → Nat) (cI cZ : ClassId) (sz : Nat) (σ : CS) (z1 : Int32) (v : Int32) (σ' : CS) (hf : mc_kmalloc σ z1 = some (v, 0, σ')) : Met l ny_F_kmalloc nw_F_kmalloc rm_F_kmalloc (va_Pc [.ref (q 0), .int z1] (pr_ (dC, dI) (wd_C q cI cZ) [(cI, .int), (cZ, .boolean)] sz σ)) (qi_ (dC, dI) (wd_C q cI cZ) [(cI, .int), (cZ, .boolean)] (va_A (wd_C q cI cZ σ) sz) v σ') 0 0 (va_A (wd_C q cI cZ σ) sz) := by
  refine Met.ofW (cc := nb_F_kmalloc) (maxL := 2) (ret := (some .int)) (by decide) rfl ?_
  intro p e s m args below meth c s₁ B hml hv
  obtain ⟨rfl, hsz, hP, hK, hD0, hN⟩ := hv
  have hx := B.exec
  have hb := B.bytes
  have hr := B.returns
  have hts := atoms_spec (ws := nw_F_kmalloc) B.pre
  have hB : ∀ w ∈ BG, w.before ([.ref (q 0), .int z1] : List Value).toArray s = true := fun w h => hts w (List.mem_cons_of_mem _ h)
  have hown : s.vm.findClass "MovedFrames" = some m.cls := findClass_of_methodNamed B.named
  have hlocks := B.notSynchronized
  subst hsz
  have hD := hD0.self (sz := s.heap.size)
  generalize hAe : va_A (wd_C q cI cZ σ) s.heap.size = A at hD ⊢
  have hA : ∀ q : Nat, s.heap.size ≤ q → A q := fun q h => by rw [← hAe]; exact Or.inr h
  have hS : va_S A s.heap s.heap [] := va_S.rf
  have hl := lv_entry ([.ref (q 0), .int z1]) (n := 2) (Nat.le_of_ble_eq_true rfl)
  rw [lg_entry_eq]
  generalize (lg_sl ([.ref (q 0), .int z1]) ++ List.replicate (2 - (lg_sl ([.ref (q 0), .int z1])).length) Slot.unset).toArray = ls at hl ⊢
  have hl : lv_has ls 2 [(0, .ref (q 0)), (1, .int z1)] := hl
  have B11 : ∀ (σ : CS), mc_kmalloc_b11 σ = some (v, 0, σ') → bk_ p l e rm_F_kmalloc s m ([.ref (q 0), .int z1] : List Value).toArray below meth c (MQ below (qi_ (dC, dI) (wd_C q cI cZ) [(cI, .int), (cZ, .boolean)] A v σ') ([.ref (q 0), .int z1] : List Value).toArray s 0 0 A) A (dC, dI) (wd_C q cI cZ) 2 11 [] [] σ := by
    intro σ hf ls H locs hl hP hD hS
    unfold mc_kmalloc_b11 at hf
    exact absurd (mi_t3 hf).2.1 (by decide)
  have hH : s.heap = s.heap := rfl
  unfold mc_kmalloc at hf
  refine lv_iload_n hx hb nd_F_kmalloc_0 rfl (lv_at hl 1 rfl) ?_
  refine lv_iconst (v := 1) hx hb nd_F_kmalloc_1 (by decide) ?_
  refine lv_icmp_lt (tgt := 11) hx hb nd_F_kmalloc_2 (by decide) (fun hc => ?_) (fun hc => ?_)
  · have hf := mi_if_t hc hf
    exact B11 σ hf _ _ _ (lv_sub hl [] rfl) hP hD hS
  · have hf := mi_if_f hc hf
    refine lv_iload_n hx hb nd_F_kmalloc_5 rfl (lv_at hl 1 rfl) ?_
    refine lv_bipush (v := 8) hx hb nd_F_kmalloc_6 (by decide) ?_
    refine lv_icmp_le (tgt := 21) hx hb nd_F_kmalloc_8 (by decide) (fun hc => ?_) (fun hc => ?_)
    · have hf := mi_if_t hc hf
      refine lv_aload_n hx hb nd_F_kmalloc_21 rfl (lv_at hl 0 rfl) ?_
      refine va_get (D := (dC, dI)) (ci := 5) (v := .ref (q 2)) (C := RX5) (T := TX5) (N := 5) hx hb hB inB5 hown hK hP 0 rfl rfl 1 (by decide) (hB _ lk_114) (fun _ h9 => h9) rfl nd_F_kmalloc_22 ?_
      refine lv_iload_n hx hb nd_F_kmalloc_25 rfl (lv_at hl 1 rfl) ?_
      obtain ⟨r1, hc, hf⟩ := mi_cp_el hf
      refine ca_i (va_runS (As := [.int z1]) (rest := [.ref (q 2)]) ⟨hx, hb, hml, hown, hB⟩ (kw_F_sizeFor l dC dI q cI cZ _ σ z1 r1 hc) ⟨callB_of 1 hB (gi_ lk_294) rfl rfl rfl (hB _ lk_1) (hB _ lk_292) (by decide +kernel) ⟨Nat.le_of_ble_eq_true rfl, Nat.le_of_ble_eq_true rfl⟩, hB _ lk_293⟩ ⟨bl_, pre_ hP hK hD hN⟩ rfl rfl hl.1 rfl (lv_room (Nat.le_of_ble_eq_true rfl)) nd_F_kmalloc_26 ⟨Nat.zero_le _, Nat.zero_le _⟩) hD hS hA (fun H locs hP hD hS => ?_)
      obtain ⟨r3, σ2, hc, hf⟩ := mi_cw_el hf
      refine ca_i (va_runV (C := "MovedFrames$Slabs") (As := [.int r1]) (rest := []) ⟨hx, hb, hml, hown, hB⟩ (kw_Slabs_add l dC dI q cI cZ _ σ r1 r3 σ2 hc) ⟨callB_of 1 hB (gi_ lk_298) rfl rfl rfl (hB _ lk_3) (hB _ lk_295) (by decide +kernel) ⟨Nat.le_of_ble_eq_true rfl, Nat.le_of_ble_eq_true rfl⟩, hB _ lk_296, hB _ lk_297⟩ ⟨bl_, va_recv (ci := 3) (q0 := 2) hK hP rfl rfl, pre_ hP hK hD hN⟩ rfl rfl hl.1 rfl (lv_room (Nat.le_of_ble_eq_true rfl)) nd_F_kmalloc_29 ⟨Nat.zero_le _, Nat.zero_le _⟩) hD hS hA (fun H locs hP hD hS => ?_)
      obtain ⟨r4, n9, hc, hq⟩ := mi_tq_el hf
      rcases hq with ⟨h9, hf⟩ | ⟨h9, hf⟩
      · subst h9
        refine ca_i (va_runS (As := [.int r3]) (rest := []) ⟨hx, hb, hml, hown, hB⟩ (kw_F_orNotEnough l dC dI q cI cZ _ σ2 r3 r4 hc) ⟨callB_of 1 hB (gi_ lk_341) rfl rfl rfl (hB _ lk_1) (hB _ lk_339) (by decide +kernel) ⟨Nat.le_of_ble_eq_true rfl, Nat.le_of_ble_eq_true rfl⟩, hB _ lk_340⟩ ⟨bl_, pre_ hP hK hD hN⟩ rfl rfl hl.1 rfl (lv_room (Nat.le_of_ble_eq_true rfl)) nd_F_kmalloc_32 ⟨Nat.zero_le _, Nat.zero_le _⟩) hD hS hA (fun H locs hP hD hS => ?_)
        exact re_i hx hb hr hlocks ((mi_t3 hf).1) ((mi_t3 hf).2.2) hP hK hD hS nd_F_kmalloc_35
      · exact absurd (congrArg (fun z => z.2.1) hf).symm h9
    · have hf := mi_if_f hc hf
      exact B11 σ hf _ _ _ (lv_sub hl [] rfl) hP hD hS
abbrev rt_F_kmalloc : Room := { frames := 7, cells := 1, slots := 6, locals := 115 }
set_option maxHeartbeats 4000000 in
set_option maxRecDepth 100000 in
theorem kt_F_kmalloc (l : Launch) (dC : Nat → ClassId) (dI : Nat → Nat → Nat) (q : Nat → Nat) (cI cZ : ClassId) (sz : Nat) (σ : CS) (z1 : Int32) (v : Int32) (n : Nat) (σ' : CS) (htr : l.stackTraces = false) (hn : ¬ n = 0) (hf : mc_kmalloc σ z1 = some (v, n, σ')) : vx_Met l ny_F_kmalloc nw_F_kmalloc rt_F_kmalloc (va_Pc [.ref (q 0), .int z1] (prx_ (dC, dI) (wd_C q cI cZ) [(cI, .int), (cZ, .boolean)] sz σ)) (fi_ (dC, dI) (wd_C q cI cZ) [(cI, .int), (cZ, .boolean)] (va_A (wd_C q cI cZ σ) sz)) (xx_ (dC, dI) (wd_C q cI cZ) [(cI, .int), (cZ, .boolean)] (va_A (wd_C q cI cZ σ) sz) n σ') 1 6 (va_A (wd_C q cI cZ σ) sz) := by
  refine vx_ofW (cc := nb_F_kmalloc) (maxL := 2) (ret := (some .int)) (by decide) rfl ?_
  intro p e s m args below meth c s₁ B hml hno hv
  obtain ⟨rfl, ⟨hsz, hP, hK, hD0, hN⟩, hT, hZ⟩ := hv
  have hx := B.exec
  have hb := B.bytes
  have hr := B.returns
  have hts := atoms_spec (ws := nw_F_kmalloc) B.pre
  have hB : ∀ w ∈ BG, w.before ([.ref (q 0), .int z1] : List Value).toArray s = true := fun w h => hts w (List.mem_cons_of_mem _ h)
  have hown : s.vm.findClass "MovedFrames" = some m.cls := findClass_of_methodNamed B.named
  have hlocks := B.notSynchronized
  subst hsz
  have hD := hD0.self (sz := s.heap.size)
  generalize hAe : va_A (wd_C q cI cZ σ) s.heap.size = A at hD hZ ⊢
  have hA : ∀ q : Nat, s.heap.size ≤ q → A q := fun q h => by rw [← hAe]; exact Or.inr h
  have hS : va_S A s.heap s.heap [] := va_S.rf
  have hl := lv_entry ([.ref (q 0), .int z1]) (n := 2) (Nat.le_of_ble_eq_true rfl)
  rw [lg_entry_eq]
  generalize (lg_sl ([.ref (q 0), .int z1]) ++ List.replicate (2 - (lg_sl ([.ref (q 0), .int z1])).length) Slot.unset).toArray = ls at hl ⊢
  have hl : lv_has ls 2 [(0, .ref (q 0)), (1, .int z1)] := hl
  have B11 : ∀ (σ : CS), mc_kmalloc_b11 σ = some (v, n, σ') → bk_ p l e rt_F_kmalloc s m ([.ref (q 0), .int z1] : List Value).toArray below meth c (vx_MQ below (fi_ (dC, dI) (wd_C q cI cZ) [(cI, .int), (cZ, .boolean)] A) (xx_ (dC, dI) (wd_C q cI cZ) [(cI, .int), (cZ, .boolean)] A n σ') ([.ref (q 0), .int z1] : List Value).toArray s 1 6 A) A (dC, dI) (wd_C q cI cZ) 2 11 [] [] σ := by
    intro σ hf ls H locs hl hP hD hS
    unfold mc_kmalloc_b11 at hf
    have hm := mi_t3 hf
    exact th_ (text := "no such number of words") hx hb htr hown (by decide) (by decide) (hB _ lk_224) (hB _ lk_11) hT.2.1 (sa_MovedFrames_52 hB hT) sg_MovedFrames_52 hZ hP hK hD hS (hl.1.trans hml.symm) nd_F_kmalloc_11 nd_F_kmalloc_14 nd_F_kmalloc_15 nd_F_kmalloc_17 nd_F_kmalloc_20 hno (Nat.le_of_ble_eq_true rfl) (Nat.le_of_ble_eq_true rfl) (Nat.le_of_ble_eq_true rfl) (Nat.le_of_ble_eq_true rfl) hlocks hn (by rw [← hm.2.1]; rfl) hm.2.2
  have hH : s.heap = s.heap := rfl
  unfold mc_kmalloc at hf
  refine lv_iload_n hx hb nd_F_kmalloc_0 rfl (lv_at hl 1 rfl) ?_
  refine lv_iconst (v := 1) hx hb nd_F_kmalloc_1 (by decide) ?_
  refine lv_icmp_lt (tgt := 11) hx hb nd_F_kmalloc_2 (by decide) (fun hc => ?_) (fun hc => ?_)
  · have hf := mi_if_t hc hf
    exact B11 σ hf _ _ _ (lv_sub hl [] rfl) hP hD hS
  · have hf := mi_if_f hc hf
    refine lv_iload_n hx hb nd_F_kmalloc_5 rfl (lv_at hl 1 rfl) ?_
    refine lv_bipush (v := 8) hx hb nd_F_kmalloc_6 (by decide) ?_
    refine lv_icmp_le (tgt := 21) hx hb nd_F_kmalloc_8 (by decide) (fun hc => ?_) (fun hc => ?_)
    · have hf := mi_if_t hc hf
      refine lv_aload_n hx hb nd_F_kmalloc_21 rfl (lv_at hl 0 rfl) ?_
      refine va_get (D := (dC, dI)) (ci := 5) (v := .ref (q 2)) (C := RX5) (T := TX5) (N := 5) hx hb hB inB5 hown hK hP 0 rfl rfl 1 (by decide) (hB _ lk_114) (fun _ h9 => h9) rfl nd_F_kmalloc_22 ?_
      refine lv_iload_n hx hb nd_F_kmalloc_25 rfl (lv_at hl 1 rfl) ?_
      obtain ⟨r1, hc, hf⟩ := mi_cp_el hf
      refine ca_i (va_runS (As := [.int z1]) (rest := [.ref (q 2)]) ⟨hx, hb, hml, hown, hB⟩ (kw_F_sizeFor l dC dI q cI cZ _ σ z1 r1 hc) ⟨callB_of 1 hB (gi_ lk_294) rfl rfl rfl (hB _ lk_1) (hB _ lk_292) (by decide +kernel) ⟨Nat.le_of_ble_eq_true rfl, Nat.le_of_ble_eq_true rfl⟩, hB _ lk_293⟩ ⟨bl_, pre_ hP hK hD hN⟩ rfl rfl hl.1 rfl (lv_room (Nat.le_of_ble_eq_true rfl)) nd_F_kmalloc_26 ⟨Nat.zero_le _, Nat.zero_le _⟩) hD hS hA (fun H locs hP hD hS => ?_)
      obtain ⟨r3, σ2, hc, hf⟩ := mi_cw_el hf
      refine ca_i (va_runV (C := "MovedFrames$Slabs") (As := [.int r1]) (rest := []) ⟨hx, hb, hml, hown, hB⟩ (kw_Slabs_add l dC dI q cI cZ _ σ r1 r3 σ2 hc) ⟨callB_of 1 hB (gi_ lk_298) rfl rfl rfl (hB _ lk_3) (hB _ lk_295) (by decide +kernel) ⟨Nat.le_of_ble_eq_true rfl, Nat.le_of_ble_eq_true rfl⟩, hB _ lk_296, hB _ lk_297⟩ ⟨bl_, va_recv (ci := 3) (q0 := 2) hK hP rfl rfl, pre_ hP hK hD hN⟩ rfl rfl hl.1 rfl (lv_room (Nat.le_of_ble_eq_true rfl)) nd_F_kmalloc_29 ⟨Nat.zero_le _, Nat.zero_le _⟩) hD hS hA (fun H locs hP hD hS => ?_)
      obtain ⟨r4, n9, hc, hq⟩ := mi_tq_el hf
      rcases hq with ⟨h9, hf⟩ | ⟨h9, hf⟩
      · subst h9
        refine ca_i (va_runS (As := [.int r3]) (rest := []) ⟨hx, hb, hml, hown, hB⟩ (kw_F_orNotEnough l dC dI q cI cZ _ σ2 r3 r4 hc) ⟨callB_of 1 hB (gi_ lk_341) rfl rfl rfl (hB _ lk_1) (hB _ lk_339) (by decide +kernel) ⟨Nat.le_of_ble_eq_true rfl, Nat.le_of_ble_eq_true rfl⟩, hB _ lk_340⟩ ⟨bl_, pre_ hP hK hD hN⟩ rfl rfl hl.1 rfl (lv_room (Nat.le_of_ble_eq_true rfl)) nd_F_kmalloc_32 ⟨Nat.zero_le _, Nat.zero_le _⟩) hD hS hA (fun H locs hP hD hS => ?_)
        exact absurd (mi_t3 hf).2.1.symm hn
      · obtain ⟨-, hm, hs9⟩ := mi_t3 (congrArg some hf)
        have hm := hm.symm
        subst hm
        have hs9 := hs9.symm
        subst hs9
        exact cx_i (vx_runS (As := [.int r3]) (rest := []) ⟨hx, hb, hml, hown, hB⟩ (kt_F_orNotEnough l dC dI q cI cZ _ σ2 r3 r4 n9 htr h9 hc) ⟨callB_of 1 hB (gi_ lk_341) rfl rfl rfl (hB _ lk_1) (hB _ lk_339) (by decide +kernel) ⟨Nat.le_of_ble_eq_true rfl, Nat.le_of_ble_eq_true rfl⟩, hB _ lk_340⟩ ⟨blx_, prex_ hP hK hD hN hT hZ hS hA⟩ rfl rfl hl.1 rfl (lv_room (Nat.le_of_ble_eq_true rfl)) nd_F_kmalloc_32 ⟨Nat.le_of_ble_eq_true rfl, Nat.le_of_ble_eq_true rfl⟩) hno hlocks hK hD hS hA
    · have hf := mi_if_f hc hf
      exact B11 σ hf _ _ _ (lv_sub hl [] rfl) hP hD hS
abbrev rm_Frames_makeFree : Room := { frames := 1, cells := 0, slots := 0, locals := 20 }
set_option maxHeartbeats 4000000 in
set_option maxRecDepth 100000 in
theorem kw_Frames_makeFree (l : Launch) (dC : Nat → ClassId) (dI : Nat → Nat → Nat) (q : Nat → Nat) (cI cZ : ClassId) (sz : Nat) (σ : CS) (z1 : Int32) (σ' : CS) (hf : mc_Frames_makeFree σ z1 = some σ') : Met l ny_Frames_makeFree nw_Frames_makeFree rm_Frames_makeFree (va_Pc [.ref (q 1), .int z1] (pr_ (dC, dI) (wd_C q cI cZ) [(cI, .int), (cZ, .boolean)] sz σ)) (qv_ (dC, dI) (wd_C q cI cZ) [(cI, .int), (cZ, .boolean)] (va_A (wd_C q cI cZ σ) sz) σ') 0 0 (va_A (wd_C q cI cZ σ) sz) := by
  refine Met.ofW (cc := nb_Frames_makeFree) (maxL := 2) (ret := none) (by decide) rfl ?_
  intro p e s m args below meth c s₁ B hml hv
  obtain ⟨rfl, hsz, hP, hK, hD0, hN⟩ := hv
  have hx := B.exec
  have hb := B.bytes
  have hr := B.returns
  have hts := atoms_spec (ws := nw_Frames_makeFree) B.pre
  have hB : ∀ w ∈ BG, w.before ([.ref (q 1), .int z1] : List Value).toArray s = true := fun w h => hts w (List.mem_cons_of_mem _ h)
  have hown : s.vm.findClass "MovedFrames$Frames" = some m.cls := findClass_of_methodNamed B.named
  have hlocks := B.notSynchronized
  subst hsz
  have hD := hD0.self (sz := s.heap.size)
  generalize hAe : va_A (wd_C q cI cZ σ) s.heap.size = A at hD ⊢
  have hA : ∀ q : Nat, s.heap.size ≤ q → A q := fun q h => by rw [← hAe]; exact Or.inr h
  have hS : va_S A s.heap s.heap [] := va_S.rf
  have hl := lv_entry ([.ref (q 1), .int z1]) (n := 2) (Nat.le_of_ble_eq_true rfl)
  rw [lg_entry_eq]
  generalize (lg_sl ([.ref (q 1), .int z1]) ++ List.replicate (2 - (lg_sl ([.ref (q 1), .int z1])).length) Slot.unset).toArray = ls at hl ⊢
  have hl : lv_has ls 2 [(0, .ref (q 1)), (1, .int z1)] := hl
  have hH : s.heap = s.heap := rfl
  unfold mc_Frames_makeFree at hf
  refine lv_iload_n hx hb nd_Frames_makeFree_0 rfl (lv_at hl 1 rfl) ?_
  obtain ⟨r1, hc, hf⟩ := mi_cp_el hf
  refine ca_i (va_runSN (As := [.int z1]) (rest := []) ⟨hx, hb, hml, hown, hB⟩ (kw_F_isFrame l dC dI q cI cZ _ σ z1 r1 hc) ⟨va_cnB 1 hB (gi_ lk_139) rfl rfl rfl hN.2.1 (hB _ lk_1) (by decide +kernel) ⟨Nat.le_of_ble_eq_true rfl, Nat.le_of_ble_eq_true rfl⟩, hB _ lk_138, trivial⟩ ⟨bl_, pre_ hP hK hD hN⟩ rfl rfl hl.1 rfl (lv_room (Nat.le_of_ble_eq_true rfl)) nd_Frames_makeFree_1 ⟨Nat.zero_le _, Nat.zero_le _⟩) hD hS hA (fun H locs hP hD hS => ?_)
  refine lv_if_eq (tgt := 26) hx hb nd_Frames_makeFree_4 (by decide) (fun hc => ?_) (fun hc => ?_)
  · have hf := mi_if_t hc hf
    exact re_v hx hb hr hlocks (mi_eq hf) hP hK hD hS nd_Frames_makeFree_26
  · have hf := mi_if_f hc hf
    refine lv_aload_n hx hb nd_Frames_makeFree_7 rfl (lv_at hl 0 rfl) ?_
    refine va_get (D := (dC, dI)) (ci := 0) (v := .ref (q 6)) (C := RX0) (T := TX0) (N := 3) hx hb hB inB0 hown hK hP 1 rfl rfl 0 (by decide) (hB _ lk_31) (fun _ h9 => h9) rfl nd_Frames_makeFree_8 ?_
    refine lv_iload_n hx hb nd_Frames_makeFree_11 rfl (lv_at hl 1 rfl) ?_
    refine lv_iconst (v := 0) hx hb nd_Frames_makeFree_12 (by decide) ?_
    obtain ⟨hg, hf⟩ := mi_gd_el hf
    refine va_iast hx hb hK hP hD hS 6 0 rfl rfl hg nd_Frames_makeFree_13 (fun H locs hP hD hS => ?_)
    obtain ⟨σ2, e9, hf⟩ := mi_wr_ex hf
    have hP : va_P (dC, dI) vwCl (wd_C q cI cZ σ2) H := by rw [e9]; exact hP
    have hD : va_D A (wd_C q cI cZ σ2) := by rw [e9]; exact hD
    refine lv_aload_n hx hb nd_Frames_makeFree_14 rfl (lv_at hl 0 rfl) ?_
    refine lv_dup hx hb nd_Frames_makeFree_15 rfl ?_
    refine va_get (D := (dC, dI)) (ci := 0) (v := .long (gc_fb σ2)) (C := RX0) (T := TX0) (N := 3) hx hb hB inB0 hown hK hP 1 rfl rfl 2 (by decide) (hB _ lk_33) (fun _ h9 => h9) rfl nd_Frames_makeFree_16 ?_
    refine lv_lconst (v := 1) hx hb nd_Frames_makeFree_19 (by decide) ?_
    refine lv_iload_n hx hb nd_Frames_makeFree_20 rfl (lv_at hl 1 rfl) ?_
    refine lv_lshl (v := (1 : Int64) <<< (z1.toInt64 &&& 63)) hx hb nd_Frames_makeFree_21 rfl ?_
    refine lv_lor hx hb nd_Frames_makeFree_22 ?_
    refine va_put (D := (dC, dI)) (ci := 0) (v := .long ((gc_fb σ2) ||| ((1 : Int64) <<< (z1.toInt64 &&& 63)))) (ty := .long) (C := RX0) (T := TX0) (N := 3) hx hb hB inB0 tyX0 tyX0_ok nX0 hown hK hP hD hS 1 rfl rfl 2 (by decide) (hB _ lk_33) (fun _ h9 => h9) rfl (by decide +kernel) rfl rfl (Nat.le_of_ble_eq_true rfl) nd_Frames_makeFree_23 (fun H locs hP hD hS => ?_)
    obtain ⟨σ3, e9, hf⟩ := mi_wr_ex hf
    have hP : va_P (dC, dI) vwCl (wd_C q cI cZ σ3) H := by rw [e9]; exact hP
    have hD : va_D A (wd_C q cI cZ σ3) := by rw [e9]; exact hD
    exact re_v hx hb hr hlocks (mi_eq hf) hP hK hD hS nd_Frames_makeFree_26
abbrev rm_Slabs_remove : Room := { frames := 2, cells := 0, slots := 0, locals := 43 }
set_option maxHeartbeats 4000000 in
set_option maxRecDepth 100000 in
theorem kw_Slabs_remove (l : Launch) (dC : Nat → ClassId) (dI : Nat → Nat → Nat) (q : Nat → Nat) (cI cZ : ClassId) (sz : Nat) (σ : CS) (z1 : Int32) (v : Int32) (σ' : CS) (hf : mc_Slabs_remove σ z1 = some (v, σ')) : Met l ny_Slabs_remove nw_Slabs_remove rm_Slabs_remove (va_Pc [.ref (q 2), .int z1] (pr_ (dC, dI) (wd_C q cI cZ) [(cI, .int), (cZ, .boolean)] sz σ)) (qi_ (dC, dI) (wd_C q cI cZ) [(cI, .int), (cZ, .boolean)] (va_A (wd_C q cI cZ σ) sz) v σ') 0 0 (va_A (wd_C q cI cZ σ) sz) := by
  refine Met.ofW (cc := nb_Slabs_remove) (maxL := 4) (ret := (some .int)) (by decide) rfl ?_
  intro p e s m args below meth c s₁ B hml hv
  obtain ⟨rfl, hsz, hP, hK, hD0, hN⟩ := hv
  have hx := B.exec
  have hb := B.bytes
  have hr := B.returns
  have hts := atoms_spec (ws := nw_Slabs_remove) B.pre
  have hB : ∀ w ∈ BG, w.before ([.ref (q 2), .int z1] : List Value).toArray s = true := fun w h => hts w (List.mem_cons_of_mem _ h)
  have hown : s.vm.findClass "MovedFrames$Slabs" = some m.cls := findClass_of_methodNamed B.named
  have hlocks := B.notSynchronized
  subst hsz
  have hD := hD0.self (sz := s.heap.size)
  generalize hAe : va_A (wd_C q cI cZ σ) s.heap.size = A at hD ⊢
  have hA : ∀ q : Nat, s.heap.size ≤ q → A q := fun q h => by rw [← hAe]; exact Or.inr h
  have hS : va_S A s.heap s.heap [] := va_S.rf
  have hl := lv_entry ([.ref (q 2), .int z1]) (n := 4) (Nat.le_of_ble_eq_true rfl)
  rw [lg_entry_eq]
  generalize (lg_sl ([.ref (q 2), .int z1]) ++ List.replicate (4 - (lg_sl ([.ref (q 2), .int z1])).length) Slot.unset).toArray = ls at hl ⊢
  have hl : lv_has ls 4 [(0, .ref (q 2)), (1, .int z1)] := hl
  have hH : s.heap = s.heap := rfl
  unfold mc_Slabs_remove at hf
  refine lv_aload_n hx hb nd_Slabs_remove_0 rfl (lv_at hl 0 rfl) ?_
  refine lv_iload_n hx hb nd_Slabs_remove_1 rfl (lv_at hl 1 rfl) ?_
  obtain ⟨r1, hc, hf⟩ := mi_cp_el hf
  refine ca_i (va_runV (C := "MovedFrames$Slabs") (As := [.int z1]) (rest := []) ⟨hx, hb, hml, hown, hB⟩ (kw_Slabs_placeAt l dC dI q cI cZ _ σ z1 r1 hc) ⟨callB_of 1 hB (gi_ lk_310) rfl rfl rfl (hB _ lk_3) (hB _ lk_307) (by decide +kernel) ⟨Nat.le_of_ble_eq_true rfl, Nat.le_of_ble_eq_true rfl⟩, hB _ lk_308, hB _ lk_309⟩ ⟨bl_, va_recv (ci := 3) (q0 := 2) hK hP rfl rfl, pre_ hP hK hD hN⟩ rfl rfl hl.1 rfl (lv_room (Nat.le_of_ble_eq_true rfl)) nd_Slabs_remove_2 ⟨Nat.zero_le _, Nat.zero_le _⟩) hD hS hA (fun H locs hP hD hS => ?_)
  refine lv_iconst (v := (-1)) hx hb nd_Slabs_remove_5 (by decide) ?_
  refine lv_icmp_ne (tgt := 11) hx hb nd_Slabs_remove_6 (by decide) (fun hc => ?_) (fun hc => ?_)
  · have hf := mi_if_f hc hf
    refine lv_iload_n hx hb nd_Slabs_remove_11 rfl (lv_at hl 1 rfl) ?_
    refine lv_bipush (v := 16) hx hb nd_Slabs_remove_12 (by decide) ?_
    refine lv_idiv hx hb nd_Slabs_remove_14 (by decide) ?_
    refine lv_istore_n (lv' := [(2, .int (z1 / (16 : Int32))), (0, .ref (q 2)), (1, .int z1)]) hx hb nd_Slabs_remove_15 rfl hl (by decide) rfl (fun ls hl => ?_)
    refine lv_aload_n hx hb nd_Slabs_remove_16 rfl (lv_at hl 1 rfl) ?_
    refine va_get (D := (dC, dI)) (ci := 3) (v := .ref (q 8)) (C := RX3) (T := TX3) (N := 3) hx hb hB inB3 hown hK hP 2 rfl rfl 1 (by decide) (hB _ lk_49) (fun _ h9 => h9) rfl nd_Slabs_remove_17 ?_
    refine lv_iload_n hx hb nd_Slabs_remove_20 rfl (lv_at hl 0 rfl) ?_
    obtain ⟨hg, hf⟩ := mi_gd_el hf
    refine va_iald hx hb hK hP 8 0 rfl rfl hg nd_Slabs_remove_21 ?_
    refine lv_istore_n (lv' := [(3, .int ((gc_sz σ) (z1 / (16 : Int32)).toNatClampNeg)), (2, .int (z1 / (16 : Int32))), (0, .ref (q 2)), (1, .int z1)]) hx hb nd_Slabs_remove_22 rfl hl (by decide) rfl (fun ls hl => ?_)
    refine lv_iload_n hx hb nd_Slabs_remove_23 rfl (lv_at hl 0 rfl) ?_
    refine lv_if_eq (tgt := 33) hx hb nd_Slabs_remove_24 (by decide) (fun hc => ?_) (fun hc => ?_)
    · have hf := mi_if_t hc hf
      refine lv_iconst (v := (-1)) hx hb nd_Slabs_remove_33 (by decide) ?_
      exact re_i hx hb hr hlocks ((mi_pr hf).1) ((mi_pr hf).2) hP hK hD hS nd_Slabs_remove_34
    · have hf := mi_if_f hc hf
      refine lv_iload_n hx hb nd_Slabs_remove_27 rfl (lv_at hl 3 rfl) ?_
      refine lv_iload_n hx hb nd_Slabs_remove_28 rfl (lv_at hl 0 rfl) ?_
      obtain ⟨hg, hf⟩ := mi_gd_el hf
      refine lv_irem hx hb nd_Slabs_remove_29 hg ?_
      refine lv_if_eq (tgt := 35) hx hb nd_Slabs_remove_30 (by decide) (fun hc => ?_) (fun hc => ?_)
      · have hf := mi_if_t hc hf
        refine lv_aload_n hx hb nd_Slabs_remove_35 rfl (lv_at hl 2 rfl) ?_
        refine va_get (D := (dC, dI)) (ci := 3) (v := .ref (q 9)) (C := RX3) (T := TX3) (N := 3) hx hb hB inB3 hown hK hP 2 rfl rfl 2 (by decide) (hB _ lk_50) (fun _ h9 => h9) rfl nd_Slabs_remove_36 ?_
        refine lv_iload_n hx hb nd_Slabs_remove_39 rfl (lv_at hl 1 rfl) ?_
        refine lv_dup2_11 hx hb nd_Slabs_remove_40 rfl rfl ?_
        obtain ⟨hg, hf⟩ := mi_gd_el hf
        refine va_iald hx hb hK hP 9 0 rfl rfl hg nd_Slabs_remove_41 ?_
        refine lv_aload_n hx hb nd_Slabs_remove_42 rfl (lv_at hl 2 rfl) ?_
        refine lv_iload_n hx hb nd_Slabs_remove_43 rfl (lv_at hl 3 rfl) ?_
        obtain ⟨r2, hc, hf⟩ := mi_cp_el hf
        refine ca_i (va_runV (C := "MovedFrames$Slabs") (As := [.int z1]) (rest := [.int ((gc_tk σ) (z1 / (16 : Int32)).toNatClampNeg), .int (z1 / (16 : Int32)), .ref (q 9)]) ⟨hx, hb, hml, hown, hB⟩ (kw_Slabs_bitOf l dC dI q cI cZ _ σ z1 r2 hc) ⟨callB_of 1 hB (gi_ lk_314) rfl rfl rfl (hB _ lk_3) (hB _ lk_311) (by decide +kernel) ⟨Nat.le_of_ble_eq_true rfl, Nat.le_of_ble_eq_true rfl⟩, hB _ lk_313, hB _ ls_7⟩ ⟨bl_, va_recv (ci := 3) (q0 := 2) hK hP rfl rfl, pre_ hP hK hD hN⟩ rfl rfl hl.1 rfl (lv_room (Nat.le_of_ble_eq_true rfl)) nd_Slabs_remove_44 ⟨Nat.zero_le _, Nat.zero_le _⟩) hD hS hA (fun H locs hP hD hS => ?_)
        refine lv_iconst (v := (-1)) hx hb nd_Slabs_remove_47 (by decide) ?_
        refine lv_ixor hx hb nd_Slabs_remove_48 ?_
        refine lv_iand hx hb nd_Slabs_remove_49 ?_
        obtain ⟨hg, hf⟩ := mi_gd_el hf
        refine va_iast hx hb hK hP hD hS 9 0 rfl rfl hg nd_Slabs_remove_50 (fun H locs hP hD hS => ?_)
        obtain ⟨σ3, e9, hf⟩ := mi_wr_ex hf
        have hP : va_P (dC, dI) vwCl (wd_C q cI cZ σ3) H := by rw [e9]; exact hP
        have hD : va_D A (wd_C q cI cZ σ3) := by rw [e9]; exact hD
        refine lv_aload_n hx hb nd_Slabs_remove_51 rfl (lv_at hl 2 rfl) ?_
        refine va_get (D := (dC, dI)) (ci := 3) (v := .ref (q 9)) (C := RX3) (T := TX3) (N := 3) hx hb hB inB3 hown hK hP 2 rfl rfl 2 (by decide) (hB _ lk_50) (fun _ h9 => h9) rfl nd_Slabs_remove_52 ?_
        refine lv_iload_n hx hb nd_Slabs_remove_55 rfl (lv_at hl 1 rfl) ?_
        obtain ⟨hg, hf⟩ := mi_gd_el hf
        refine va_iald hx hb hK hP 9 0 rfl rfl hg nd_Slabs_remove_56 ?_
        refine lv_if_ne (tgt := 75) hx hb nd_Slabs_remove_57 (by decide) (fun hc => ?_) (fun hc => ?_)
        · have hf := mi_if_f hc hf
          refine lv_iload_n hx hb nd_Slabs_remove_75 rfl (lv_at hl 0 rfl) ?_
          exact re_i hx hb hr hlocks ((mi_pr hf).1) ((mi_pr hf).2) hP hK hD hS nd_Slabs_remove_76
        · have hf := mi_if_t hc hf
          refine lv_aload_n hx hb nd_Slabs_remove_60 rfl (lv_at hl 2 rfl) ?_
          refine va_get (D := (dC, dI)) (ci := 3) (v := .ref (q 8)) (C := RX3) (T := TX3) (N := 3) hx hb hB inB3 hown hK hP 2 rfl rfl 1 (by decide) (hB _ lk_49) (fun _ h9 => h9) rfl nd_Slabs_remove_61 ?_
          refine lv_iload_n hx hb nd_Slabs_remove_64 rfl (lv_at hl 1 rfl) ?_
          refine lv_iconst (v := 0) hx hb nd_Slabs_remove_65 (by decide) ?_
          obtain ⟨hg, hf⟩ := mi_gd_el hf
          refine va_iast hx hb hK hP hD hS 8 0 rfl rfl hg nd_Slabs_remove_66 (fun H locs hP hD hS => ?_)
          obtain ⟨σ4, e9, hf⟩ := mi_wr_ex hf
          have hP : va_P (dC, dI) vwCl (wd_C q cI cZ σ4) H := by rw [e9]; exact hP
          have hD : va_D A (wd_C q cI cZ σ4) := by rw [e9]; exact hD
          refine lv_aload_n hx hb nd_Slabs_remove_67 rfl (lv_at hl 2 rfl) ?_
          refine va_get (D := (dC, dI)) (ci := 3) (v := .ref (q 1)) (C := RX3) (T := TX3) (N := 3) hx hb hB inB3 hown hK hP 2 rfl rfl 0 (by decide) (hB _ lk_48) (fun _ h9 => h9) rfl nd_Slabs_remove_68 ?_
          refine lv_iload_n hx hb nd_Slabs_remove_71 rfl (lv_at hl 1 rfl) ?_
          obtain ⟨σ5, hc, hf⟩ := mi_cv_el hf
          refine ca_v (va_runV (C := "MovedFrames$Frames") (As := [.int (z1 / (16 : Int32))]) (rest := []) ⟨hx, hb, hml, hown, hB⟩ (kw_Frames_makeFree l dC dI q cI cZ _ σ4 (z1 / (16 : Int32)) σ5 hc) ⟨callB_of 1 hB (gi_ lk_372) rfl rfl rfl (hB _ lk_2) (hB _ lk_369) (by decide +kernel) ⟨Nat.le_of_ble_eq_true rfl, Nat.le_of_ble_eq_true rfl⟩, hB _ lk_370, hB _ lk_371⟩ ⟨bl_, va_recv (ci := 0) (q0 := 1) hK hP rfl rfl, pre_ hP hK hD hN⟩ rfl rfl hl.1 rfl (lv_room (Nat.le_of_ble_eq_true rfl)) nd_Slabs_remove_72 ⟨Nat.zero_le _, Nat.zero_le _⟩) hD hS hA (fun H locs hP hD hS => ?_)
          refine lv_iload_n hx hb nd_Slabs_remove_75 rfl (lv_at hl 0 rfl) ?_
          exact re_i hx hb hr hlocks ((mi_pr hf).1) ((mi_pr hf).2) hP hK hD hS nd_Slabs_remove_76
      · have hf := mi_if_f hc hf
        refine lv_iconst (v := (-1)) hx hb nd_Slabs_remove_33 (by decide) ?_
        exact re_i hx hb hr hlocks ((mi_pr hf).1) ((mi_pr hf).2) hP hK hD hS nd_Slabs_remove_34
  · have hf := mi_if_t hc hf
    refine lv_iconst (v := (-1)) hx hb nd_Slabs_remove_9 (by decide) ?_
    exact re_i hx hb hr hlocks ((mi_pr hf).1) ((mi_pr hf).2) hP hK hD hS nd_Slabs_remove_10
