abbrev rm_M_placeOf : Room := { frames := 4, cells := 0, slots := 0, locals := 91 }
set_option maxHeartbeats 4000000 in
set_option maxRecDepth 100000 in
theorem kw_M_placeOf (l : Launch) (dC : Nat → ClassId) (dI : Nat → Nat → Nat) (r : Nat → Nat) (cI cZ : ClassId) (sz : Nat) (σ : MS) (z1 : Int32) (z2 : Int32) (v : Int32) (σ' : MS) (hf : mm_placeOf σ z1 z2 = some (v, σ')) : Met l ny_M_placeOf nw_M_placeOf rm_M_placeOf (va_Pc [.ref (r 0), .int z1, .int z2] (pr_ (dC, dI) (wd_M r cI cZ) [(cI, .int), (cZ, .boolean)] sz σ)) (qi_ (dC, dI) (wd_M r cI cZ) [(cI, .int), (cZ, .boolean)] (va_A (wd_M r cI cZ σ) sz) v σ') 0 0 (va_A (wd_M r cI cZ σ) sz) := by
  refine Met.ofW (cc := nb_M_placeOf) (maxL := 5) (ret := (some .int)) (by decide) rfl ?_
  intro p e s m args below meth c s₁ B hml hv
  obtain ⟨rfl, hsz, hP, hK, hD0, hN⟩ := hv
  have hx := B.exec
  have hb := B.bytes
  have hr := B.returns
  have hts := atoms_spec (ws := nw_M_placeOf) B.pre
  have hB : ∀ w ∈ BG, w.before ([.ref (r 0), .int z1, .int z2] : List Value).toArray s = true := fun w h => hts w (List.mem_cons_of_mem _ h)
  have hown : s.vm.findClass "MovedFramesModel" = some m.cls := findClass_of_methodNamed B.named
  have hlocks := B.notSynchronized
  subst hsz
  have hD := hD0.self (sz := s.heap.size)
  generalize hAe : va_A (wd_M r cI cZ σ) s.heap.size = A at hD ⊢
  have hA : ∀ q : Nat, s.heap.size ≤ q → A q := fun q h => by rw [← hAe]; exact Or.inr h
  have hS : va_S A s.heap s.heap [] := va_S.rf
  have hl := lv_entry ([.ref (r 0), .int z1, .int z2]) (n := 5) (Nat.le_of_ble_eq_true rfl)
  rw [lg_entry_eq]
  generalize (lg_sl ([.ref (r 0), .int z1, .int z2]) ++ List.replicate (5 - (lg_sl ([.ref (r 0), .int z1, .int z2])).length) Slot.unset).toArray = ls at hl ⊢
  have hl : lv_has ls 5 [(0, .ref (r 0)), (1, .int z1), (2, .int z2)] := hl
  have B105 : ∀ (x1 : Int32) (x2 : Int32) (x3 : Int32) (σ : MS), mm_placeOf_b105 x1 x2 x3 σ = some (v, σ') → bk_ p l e rm_M_placeOf s m ([.ref (r 0), .int z1, .int z2] : List Value).toArray below meth c (MQ below (qi_ (dC, dI) (wd_M r cI cZ) [(cI, .int), (cZ, .boolean)] A v σ') ([.ref (r 0), .int z1, .int z2] : List Value).toArray s 0 0 A) A (dC, dI) (wd_M r cI cZ) 5 105 [(0, .ref (r 0)), (1, .int x1), (2, .int x2), (3, .int x3)] [] σ := by
    intro x1 x2 x3 σ hf ls H locs hl hP hD hS
    unfold mm_placeOf_b105 at hf
    refine lv_bipush (v := 16) hx hb nd_M_placeOf_105 (by decide) ?_
    refine lv_aload_n hx hb nd_M_placeOf_107 rfl (lv_at hl 0 rfl) ?_
    refine lv_iload_n hx hb nd_M_placeOf_108 rfl (lv_at hl 1 rfl) ?_
    refine lv_iload_n hx hb nd_M_placeOf_109 rfl (lv_at hl 3 rfl) ?_
    obtain ⟨r3, hc, hf⟩ := mi_cp_el hf
    refine ca_i (va_runV (C := "MovedFramesModel") (As := [.int x1, .int x3]) (rest := [.int (16 : Int32)]) ⟨hx, hb, hml, hown, hB⟩ (kw_M_frameOf l dC dI r cI cZ _ σ x1 x3 r3 hc) ⟨callB_of 2 hB (gi_ lk_741) rfl rfl rfl (hB _ lk_7) (hB _ lk_738) (by decide +kernel) ⟨Nat.le_of_ble_eq_true rfl, Nat.le_of_ble_eq_true rfl⟩, hB _ lk_740, hB _ ls_36⟩ ⟨bl_, va_recv (ci := 6) (q0 := 0) hK hP rfl rfl, pre_ hP hK hD hN⟩ rfl rfl hl.1 rfl (lv_room (Nat.le_of_ble_eq_true rfl)) nd_M_placeOf_110 ⟨Nat.zero_le _, Nat.zero_le _⟩) hD hS hA (fun H locs hP hD hS => ?_)
    refine lv_imul hx hb nd_M_placeOf_113 ?_
    refine lv_iload_n hx hb nd_M_placeOf_114 rfl (lv_at hl 2 rfl) ?_
    refine lv_bipush (v := 16) hx hb nd_M_placeOf_115 (by decide) ?_
    refine lv_irem hx hb nd_M_placeOf_117 (by decide) ?_
    refine lv_iadd hx hb nd_M_placeOf_118 ?_
    exact re_i hx hb hr hlocks ((mi_pr hf).1) ((mi_pr hf).2) hP hK hD hS nd_M_placeOf_119
  have B69 : ∀ (x1 : Int32) (x2 : Int32) (x3 : Int32) (σ : MS), mm_placeOf_b69 x1 x2 x3 σ = some (v, σ') → bk_ p l e rm_M_placeOf s m ([.ref (r 0), .int z1, .int z2] : List Value).toArray below meth c (MQ below (qi_ (dC, dI) (wd_M r cI cZ) [(cI, .int), (cZ, .boolean)] A v σ') ([.ref (r 0), .int z1, .int z2] : List Value).toArray s 0 0 A) A (dC, dI) (wd_M r cI cZ) 5 69 [(0, .ref (r 0)), (1, .int x1), (2, .int x2), (3, .int x3)] [] σ := by
    intro x1 x2 x3 σ hf ls H locs hl hP hD hS
    unfold mm_placeOf_b69 at hf
    refine lv_aload_n hx hb nd_M_placeOf_69 rfl (lv_at hl 0 rfl) ?_
    refine va_get (D := (dC, dI)) (ci := 6) (v := .ref (r 2)) (C := RX6) (T := TX6) (N := 11) hx hb hB inB6 hown hK hP 0 rfl rfl 2 (by decide) (hB _ lk_631) (fun _ h9 => h9) rfl nd_M_placeOf_70 ?_
    refine lv_aload_n hx hb nd_M_placeOf_73 rfl (lv_at hl 0 rfl) ?_
    refine lv_iload_n hx hb nd_M_placeOf_74 rfl (lv_at hl 1 rfl) ?_
    refine lv_iload_n hx hb nd_M_placeOf_75 rfl (lv_at hl 3 rfl) ?_
    obtain ⟨r2, hc, hf⟩ := mi_cp_el hf
    refine ca_i (va_runV (C := "MovedFramesModel") (As := [.int x1, .int x3]) (rest := [.ref (r 2)]) ⟨hx, hb, hml, hown, hB⟩ (kw_M_entry l dC dI r cI cZ _ σ x1 x3 r2 hc) ⟨callB_of 2 hB (gi_ lk_753) rfl rfl rfl (hB _ lk_7) (hB _ lk_750) (by decide +kernel) ⟨Nat.le_of_ble_eq_true rfl, Nat.le_of_ble_eq_true rfl⟩, hB _ lk_752, hB _ ls_39⟩ ⟨bl_, va_recv (ci := 6) (q0 := 0) hK hP rfl rfl, pre_ hP hK hD hN⟩ rfl rfl hl.1 rfl (lv_room (Nat.le_of_ble_eq_true rfl)) nd_M_placeOf_76 ⟨Nat.zero_le _, Nat.zero_le _⟩) hD hS hA (fun H locs hP hD hS => ?_)
    obtain ⟨hg, hf⟩ := mi_gd_el hf
    refine va_iald hx hb hK hP 2 0 rfl rfl hg nd_M_placeOf_79 ?_
    refine lv_if_ne (tgt := 105) hx hb nd_M_placeOf_80 (by decide) (fun hc => ?_) (fun hc => ?_)
    · have hf := mi_if_f hc hf
      exact B105 x1 x2 x3 σ hf _ _ _ (lv_sub hl [0, 1, 2, 3] rfl) hP hD hS
    · have hf := mi_if_t hc hf
      refine lv_aload_n hx hb nd_M_placeOf_83 rfl (lv_at hl 0 rfl) ?_
      refine lv_iconst (v := 4) hx hb nd_M_placeOf_84 (by decide) ?_
      obtain ⟨r5, σ4, hc, hf⟩ := mi_cw_el hf
      refine ca_i (va_runV (C := "MovedFramesModel") (As := [.int (4 : Int32)]) (rest := []) ⟨hx, hb, hml, hown, hB⟩ (kw_M_give l dC dI r cI cZ _ σ (4 : Int32) r5 σ4 hc) ⟨callB_of 1 hB (gi_ lk_685) rfl rfl rfl (hB _ lk_7) (hB _ lk_682) (by decide +kernel) ⟨Nat.le_of_ble_eq_true rfl, Nat.le_of_ble_eq_true rfl⟩, hB _ lk_684, hB _ ls_27⟩ ⟨bl_, va_recv (ci := 6) (q0 := 0) hK hP rfl rfl, pre_ hP hK hD hN⟩ rfl rfl hl.1 rfl (lv_room (Nat.le_of_ble_eq_true rfl)) nd_M_placeOf_85 ⟨Nat.zero_le _, Nat.zero_le _⟩) hD hS hA (fun H locs hP hD hS => ?_)
      refine lv_istore (lv' := [(4, .int r5), (0, .ref (r 0)), (1, .int x1), (2, .int x2), (3, .int x3)]) hx hb nd_M_placeOf_88 hl (by decide) rfl (fun ls hl => ?_)
      refine lv_aload_n hx hb nd_M_placeOf_90 rfl (lv_at hl 1 rfl) ?_
      refine va_get (D := (dC, dI)) (ci := 6) (v := .ref (r 2)) (C := RX6) (T := TX6) (N := 11) hx hb hB inB6 hown hK hP 0 rfl rfl 2 (by decide) (hB _ lk_631) (fun _ h9 => h9) rfl nd_M_placeOf_91 ?_
      refine lv_aload_n hx hb nd_M_placeOf_94 rfl (lv_at hl 1 rfl) ?_
      refine lv_iload_n hx hb nd_M_placeOf_95 rfl (lv_at hl 2 rfl) ?_
      refine lv_iload_n hx hb nd_M_placeOf_96 rfl (lv_at hl 4 rfl) ?_
      obtain ⟨r6, hc, hf⟩ := mi_cp_el hf
      refine ca_i (va_runV (C := "MovedFramesModel") (As := [.int x1, .int x3]) (rest := [.ref (r 2)]) ⟨hx, hb, hml, hown, hB⟩ (kw_M_entry l dC dI r cI cZ _ σ4 x1 x3 r6 hc) ⟨callB_of 2 hB (gi_ lk_753) rfl rfl rfl (hB _ lk_7) (hB _ lk_750) (by decide +kernel) ⟨Nat.le_of_ble_eq_true rfl, Nat.le_of_ble_eq_true rfl⟩, hB _ lk_752, hB _ ls_39⟩ ⟨bl_, va_recv (ci := 6) (q0 := 0) hK hP rfl rfl, pre_ hP hK hD hN⟩ rfl rfl hl.1 rfl (lv_room (Nat.le_of_ble_eq_true rfl)) nd_M_placeOf_97 ⟨Nat.zero_le _, Nat.zero_le _⟩) hD hS hA (fun H locs hP hD hS => ?_)
      refine lv_iconst (v := 1) hx hb nd_M_placeOf_100 (by decide) ?_
      refine lv_iload hx hb nd_M_placeOf_101 (lv_at hl 0 rfl) ?_
      refine lv_iadd hx hb nd_M_placeOf_103 ?_
      obtain ⟨hg, hf⟩ := mi_gd_el hf
      refine va_iast hx hb hK hP hD hS 2 0 rfl rfl hg nd_M_placeOf_104 (fun H locs hP hD hS => ?_)
      obtain ⟨σ7, e9, hf⟩ := mi_wr_ex hf
      have hP : va_P (dC, dI) vwCl (wd_M r cI cZ σ7) H := by rw [e9]; exact hP
      have hD : va_D A (wd_M r cI cZ σ7) := by rw [e9]; exact hD
      refine lv_bipush (v := 16) hx hb nd_M_placeOf_105 (by decide) ?_
      refine lv_aload_n hx hb nd_M_placeOf_107 rfl (lv_at hl 1 rfl) ?_
      refine lv_iload_n hx hb nd_M_placeOf_108 rfl (lv_at hl 2 rfl) ?_
      refine lv_iload_n hx hb nd_M_placeOf_109 rfl (lv_at hl 4 rfl) ?_
      obtain ⟨r8, hc, hf⟩ := mi_cp_el hf
      refine ca_i (va_runV (C := "MovedFramesModel") (As := [.int x1, .int x3]) (rest := [.int (16 : Int32)]) ⟨hx, hb, hml, hown, hB⟩ (kw_M_frameOf l dC dI r cI cZ _ σ7 x1 x3 r8 hc) ⟨callB_of 2 hB (gi_ lk_741) rfl rfl rfl (hB _ lk_7) (hB _ lk_738) (by decide +kernel) ⟨Nat.le_of_ble_eq_true rfl, Nat.le_of_ble_eq_true rfl⟩, hB _ lk_740, hB _ ls_36⟩ ⟨bl_, va_recv (ci := 6) (q0 := 0) hK hP rfl rfl, pre_ hP hK hD hN⟩ rfl rfl hl.1 rfl (lv_room (Nat.le_of_ble_eq_true rfl)) nd_M_placeOf_110 ⟨Nat.zero_le _, Nat.zero_le _⟩) hD hS hA (fun H locs hP hD hS => ?_)
      refine lv_imul hx hb nd_M_placeOf_113 ?_
      refine lv_iload_n hx hb nd_M_placeOf_114 rfl (lv_at hl 3 rfl) ?_
      refine lv_bipush (v := 16) hx hb nd_M_placeOf_115 (by decide) ?_
      refine lv_irem hx hb nd_M_placeOf_117 (by decide) ?_
      refine lv_iadd hx hb nd_M_placeOf_118 ?_
      exact re_i hx hb hr hlocks ((mi_pr hf).1) ((mi_pr hf).2) hP hK hD hS nd_M_placeOf_119
  have hH : s.heap = s.heap := rfl
  unfold mm_placeOf at hf
  refine lv_iload_n hx hb nd_M_placeOf_0 rfl (lv_at hl 1 rfl) ?_
  refine lv_iconst (v := (-1)) hx hb nd_M_placeOf_1 (by decide) ?_
  refine lv_icmp_ne (tgt := 7) hx hb nd_M_placeOf_2 (by decide) (fun hc => ?_) (fun hc => ?_)
  · have hf := mi_if_f hc hf
    refine lv_iload_n hx hb nd_M_placeOf_7 rfl (lv_at hl 1 rfl) ?_
    refine lv_bipush (v := (-2)) hx hb nd_M_placeOf_8 (by decide) ?_
    refine lv_icmp_ne (tgt := 33) hx hb nd_M_placeOf_10 (by decide) (fun hc => ?_) (fun hc => ?_)
    · have hf := mi_if_f hc hf
      refine lv_iload_n hx hb nd_M_placeOf_33 rfl (lv_at hl 2 rfl) ?_
      refine lv_bipush (v := 16) hx hb nd_M_placeOf_34 (by decide) ?_
      refine lv_idiv hx hb nd_M_placeOf_36 (by decide) ?_
      refine lv_istore_n (lv' := [(3, .int (z2 / (16 : Int32))), (0, .ref (r 0)), (1, .int z1), (2, .int z2)]) hx hb nd_M_placeOf_37 rfl hl (by decide) rfl (fun ls hl => ?_)
      refine lv_aload_n hx hb nd_M_placeOf_38 rfl (lv_at hl 1 rfl) ?_
      refine lv_iload_n hx hb nd_M_placeOf_39 rfl (lv_at hl 2 rfl) ?_
      refine lv_iload_n hx hb nd_M_placeOf_40 rfl (lv_at hl 0 rfl) ?_
      obtain ⟨r1, hc, hf⟩ := mi_cp_el hf
      refine ca_i (va_runV (C := "MovedFramesModel") (As := [.int z1, .int (z2 / (16 : Int32))]) (rest := []) ⟨hx, hb, hml, hown, hB⟩ (kw_M_hasTable l dC dI r cI cZ _ σ z1 (z2 / (16 : Int32)) r1 hc) ⟨callB_of 2 hB (gi_ lk_745) rfl rfl rfl (hB _ lk_7) (hB _ lk_742) (by decide +kernel) ⟨Nat.le_of_ble_eq_true rfl, Nat.le_of_ble_eq_true rfl⟩, hB _ lk_744, hB _ ls_37⟩ ⟨bl_, va_recv (ci := 6) (q0 := 0) hK hP rfl rfl, pre_ hP hK hD hN⟩ rfl rfl hl.1 rfl (lv_room (Nat.le_of_ble_eq_true rfl)) nd_M_placeOf_41 ⟨Nat.zero_le _, Nat.zero_le _⟩) hD hS hA (fun H locs hP hD hS => ?_)
      refine lv_if_ne (tgt := 69) hx hb nd_M_placeOf_44 (by decide) (fun hc => ?_) (fun hc => ?_)
      · have hf := mi_if_f hc hf
        exact B69 z1 z2 (z2 / (16 : Int32)) σ hf _ _ _ (lv_sub hl [1, 2, 3, 0] rfl) hP hD hS
      · have hf := mi_if_t hc hf
        refine lv_aload_n hx hb nd_M_placeOf_47 rfl (lv_at hl 1 rfl) ?_
        refine lv_iconst (v := 1) hx hb nd_M_placeOf_48 (by decide) ?_
        obtain ⟨r10, σ9, hc, hf⟩ := mi_cw_el hf
        refine ca_i (va_runV (C := "MovedFramesModel") (As := [.int (1 : Int32)]) (rest := []) ⟨hx, hb, hml, hown, hB⟩ (kw_M_give l dC dI r cI cZ _ σ (1 : Int32) r10 σ9 hc) ⟨callB_of 1 hB (gi_ lk_685) rfl rfl rfl (hB _ lk_7) (hB _ lk_682) (by decide +kernel) ⟨Nat.le_of_ble_eq_true rfl, Nat.le_of_ble_eq_true rfl⟩, hB _ lk_684, hB _ ls_27⟩ ⟨bl_, va_recv (ci := 6) (q0 := 0) hK hP rfl rfl, pre_ hP hK hD hN⟩ rfl rfl hl.1 rfl (lv_room (Nat.le_of_ble_eq_true rfl)) nd_M_placeOf_49 ⟨Nat.zero_le _, Nat.zero_le _⟩) hD hS hA (fun H locs hP hD hS => ?_)
        refine lv_istore (lv' := [(4, .int r10), (3, .int (z2 / (16 : Int32))), (0, .ref (r 0)), (1, .int z1), (2, .int z2)]) hx hb nd_M_placeOf_52 hl (by decide) rfl (fun ls hl => ?_)
        refine lv_aload_n hx hb nd_M_placeOf_54 rfl (lv_at hl 2 rfl) ?_
        refine va_get (D := (dC, dI)) (ci := 6) (v := .ref (r 2)) (C := RX6) (T := TX6) (N := 11) hx hb hB inB6 hown hK hP 0 rfl rfl 2 (by decide) (hB _ lk_631) (fun _ h9 => h9) rfl nd_M_placeOf_55 ?_
        refine lv_aload_n hx hb nd_M_placeOf_58 rfl (lv_at hl 2 rfl) ?_
        refine lv_iload_n hx hb nd_M_placeOf_59 rfl (lv_at hl 3 rfl) ?_
        refine lv_iload_n hx hb nd_M_placeOf_60 rfl (lv_at hl 1 rfl) ?_
        obtain ⟨r11, hc, hf⟩ := mi_cp_el hf
        refine ca_i (va_runV (C := "MovedFramesModel") (As := [.int z1, .int (z2 / (16 : Int32))]) (rest := [.ref (r 2)]) ⟨hx, hb, hml, hown, hB⟩ (kw_M_rootEntry l dC dI r cI cZ _ σ9 z1 (z2 / (16 : Int32)) r11 hc) ⟨callB_of 2 hB (gi_ lk_749) rfl rfl rfl (hB _ lk_7) (hB _ lk_746) (by decide +kernel) ⟨Nat.le_of_ble_eq_true rfl, Nat.le_of_ble_eq_true rfl⟩, hB _ lk_748, hB _ ls_38⟩ ⟨bl_, va_recv (ci := 6) (q0 := 0) hK hP rfl rfl, pre_ hP hK hD hN⟩ rfl rfl hl.1 rfl (lv_room (Nat.le_of_ble_eq_true rfl)) nd_M_placeOf_61 ⟨Nat.zero_le _, Nat.zero_le _⟩) hD hS hA (fun H locs hP hD hS => ?_)
        refine lv_iconst (v := 1) hx hb nd_M_placeOf_64 (by decide) ?_
        refine lv_iload hx hb nd_M_placeOf_65 (lv_at hl 0 rfl) ?_
        refine lv_iadd hx hb nd_M_placeOf_67 ?_
        obtain ⟨hg, hf⟩ := mi_gd_el hf
        refine va_iast hx hb hK hP hD hS 2 0 rfl rfl hg nd_M_placeOf_68 (fun H locs hP hD hS => ?_)
        obtain ⟨σ12, e9, hf⟩ := mi_wr_ex hf
        have hP : va_P (dC, dI) vwCl (wd_M r cI cZ σ12) H := by rw [e9]; exact hP
        have hD : va_D A (wd_M r cI cZ σ12) := by rw [e9]; exact hD
        refine lv_aload_n hx hb nd_M_placeOf_69 rfl (lv_at hl 2 rfl) ?_
        refine va_get (D := (dC, dI)) (ci := 6) (v := .ref (r 2)) (C := RX6) (T := TX6) (N := 11) hx hb hB inB6 hown hK hP 0 rfl rfl 2 (by decide) (hB _ lk_631) (fun _ h9 => h9) rfl nd_M_placeOf_70 ?_
        refine lv_aload_n hx hb nd_M_placeOf_73 rfl (lv_at hl 2 rfl) ?_
        refine lv_iload_n hx hb nd_M_placeOf_74 rfl (lv_at hl 3 rfl) ?_
        refine lv_iload_n hx hb nd_M_placeOf_75 rfl (lv_at hl 1 rfl) ?_
        obtain ⟨r13, hc, hf⟩ := mi_cp_el hf
        refine ca_i (va_runV (C := "MovedFramesModel") (As := [.int z1, .int (z2 / (16 : Int32))]) (rest := [.ref (r 2)]) ⟨hx, hb, hml, hown, hB⟩ (kw_M_entry l dC dI r cI cZ _ σ12 z1 (z2 / (16 : Int32)) r13 hc) ⟨callB_of 2 hB (gi_ lk_753) rfl rfl rfl (hB _ lk_7) (hB _ lk_750) (by decide +kernel) ⟨Nat.le_of_ble_eq_true rfl, Nat.le_of_ble_eq_true rfl⟩, hB _ lk_752, hB _ ls_39⟩ ⟨bl_, va_recv (ci := 6) (q0 := 0) hK hP rfl rfl, pre_ hP hK hD hN⟩ rfl rfl hl.1 rfl (lv_room (Nat.le_of_ble_eq_true rfl)) nd_M_placeOf_76 ⟨Nat.zero_le _, Nat.zero_le _⟩) hD hS hA (fun H locs hP hD hS => ?_)
        obtain ⟨hg, hf⟩ := mi_gd_el hf
        refine va_iald hx hb hK hP 2 0 rfl rfl hg nd_M_placeOf_79 ?_
        refine lv_if_ne (tgt := 105) hx hb nd_M_placeOf_80 (by decide) (fun hc => ?_) (fun hc => ?_)
        · have hf := mi_if_f hc hf
          exact B105 z1 z2 (z2 / (16 : Int32)) σ12 hf _ _ _ (lv_sub hl [2, 3, 4, 1] rfl) hP hD hS
        · have hf := mi_if_t hc hf
          refine lv_aload_n hx hb nd_M_placeOf_83 rfl (lv_at hl 2 rfl) ?_
          refine lv_iconst (v := 4) hx hb nd_M_placeOf_84 (by decide) ?_
          obtain ⟨r15, σ14, hc, hf⟩ := mi_cw_el hf
          refine ca_i (va_runV (C := "MovedFramesModel") (As := [.int (4 : Int32)]) (rest := []) ⟨hx, hb, hml, hown, hB⟩ (kw_M_give l dC dI r cI cZ _ σ12 (4 : Int32) r15 σ14 hc) ⟨callB_of 1 hB (gi_ lk_685) rfl rfl rfl (hB _ lk_7) (hB _ lk_682) (by decide +kernel) ⟨Nat.le_of_ble_eq_true rfl, Nat.le_of_ble_eq_true rfl⟩, hB _ lk_684, hB _ ls_27⟩ ⟨bl_, va_recv (ci := 6) (q0 := 0) hK hP rfl rfl, pre_ hP hK hD hN⟩ rfl rfl hl.1 rfl (lv_room (Nat.le_of_ble_eq_true rfl)) nd_M_placeOf_85 ⟨Nat.zero_le _, Nat.zero_le _⟩) hD hS hA (fun H locs hP hD hS => ?_)
          refine lv_istore (lv' := [(4, .int r15), (3, .int (z2 / (16 : Int32))), (0, .ref (r 0)), (1, .int z1), (2, .int z2)]) hx hb nd_M_placeOf_88 hl (by decide) rfl (fun ls hl => ?_)
          refine lv_aload_n hx hb nd_M_placeOf_90 rfl (lv_at hl 2 rfl) ?_
          refine va_get (D := (dC, dI)) (ci := 6) (v := .ref (r 2)) (C := RX6) (T := TX6) (N := 11) hx hb hB inB6 hown hK hP 0 rfl rfl 2 (by decide) (hB _ lk_631) (fun _ h9 => h9) rfl nd_M_placeOf_91 ?_
          refine lv_aload_n hx hb nd_M_placeOf_94 rfl (lv_at hl 2 rfl) ?_
          refine lv_iload_n hx hb nd_M_placeOf_95 rfl (lv_at hl 3 rfl) ?_
          refine lv_iload_n hx hb nd_M_placeOf_96 rfl (lv_at hl 1 rfl) ?_
          obtain ⟨r16, hc, hf⟩ := mi_cp_el hf
          refine ca_i (va_runV (C := "MovedFramesModel") (As := [.int z1, .int (z2 / (16 : Int32))]) (rest := [.ref (r 2)]) ⟨hx, hb, hml, hown, hB⟩ (kw_M_entry l dC dI r cI cZ _ σ14 z1 (z2 / (16 : Int32)) r16 hc) ⟨callB_of 2 hB (gi_ lk_753) rfl rfl rfl (hB _ lk_7) (hB _ lk_750) (by decide +kernel) ⟨Nat.le_of_ble_eq_true rfl, Nat.le_of_ble_eq_true rfl⟩, hB _ lk_752, hB _ ls_39⟩ ⟨bl_, va_recv (ci := 6) (q0 := 0) hK hP rfl rfl, pre_ hP hK hD hN⟩ rfl rfl hl.1 rfl (lv_room (Nat.le_of_ble_eq_true rfl)) nd_M_placeOf_97 ⟨Nat.zero_le _, Nat.zero_le _⟩) hD hS hA (fun H locs hP hD hS => ?_)
          refine lv_iconst (v := 1) hx hb nd_M_placeOf_100 (by decide) ?_
          refine lv_iload hx hb nd_M_placeOf_101 (lv_at hl 0 rfl) ?_
          refine lv_iadd hx hb nd_M_placeOf_103 ?_
          obtain ⟨hg, hf⟩ := mi_gd_el hf
          refine va_iast hx hb hK hP hD hS 2 0 rfl rfl hg nd_M_placeOf_104 (fun H locs hP hD hS => ?_)
          obtain ⟨σ17, e9, hf⟩ := mi_wr_ex hf
          have hP : va_P (dC, dI) vwCl (wd_M r cI cZ σ17) H := by rw [e9]; exact hP
          have hD : va_D A (wd_M r cI cZ σ17) := by rw [e9]; exact hD
          refine lv_bipush (v := 16) hx hb nd_M_placeOf_105 (by decide) ?_
          refine lv_aload_n hx hb nd_M_placeOf_107 rfl (lv_at hl 2 rfl) ?_
          refine lv_iload_n hx hb nd_M_placeOf_108 rfl (lv_at hl 3 rfl) ?_
          refine lv_iload_n hx hb nd_M_placeOf_109 rfl (lv_at hl 1 rfl) ?_
          obtain ⟨r18, hc, hf⟩ := mi_cp_el hf
          refine ca_i (va_runV (C := "MovedFramesModel") (As := [.int z1, .int (z2 / (16 : Int32))]) (rest := [.int (16 : Int32)]) ⟨hx, hb, hml, hown, hB⟩ (kw_M_frameOf l dC dI r cI cZ _ σ17 z1 (z2 / (16 : Int32)) r18 hc) ⟨callB_of 2 hB (gi_ lk_741) rfl rfl rfl (hB _ lk_7) (hB _ lk_738) (by decide +kernel) ⟨Nat.le_of_ble_eq_true rfl, Nat.le_of_ble_eq_true rfl⟩, hB _ lk_740, hB _ ls_36⟩ ⟨bl_, va_recv (ci := 6) (q0 := 0) hK hP rfl rfl, pre_ hP hK hD hN⟩ rfl rfl hl.1 rfl (lv_room (Nat.le_of_ble_eq_true rfl)) nd_M_placeOf_110 ⟨Nat.zero_le _, Nat.zero_le _⟩) hD hS hA (fun H locs hP hD hS => ?_)
          refine lv_imul hx hb nd_M_placeOf_113 ?_
          refine lv_iload_n hx hb nd_M_placeOf_114 rfl (lv_at hl 4 rfl) ?_
          refine lv_bipush (v := 16) hx hb nd_M_placeOf_115 (by decide) ?_
          refine lv_irem hx hb nd_M_placeOf_117 (by decide) ?_
          refine lv_iadd hx hb nd_M_placeOf_118 ?_
          exact re_i hx hb hr hlocks ((mi_pr hf).1) ((mi_pr hf).2) hP hK hD hS nd_M_placeOf_119
    · have hf := mi_if_t hc hf
      refine lv_bipush (v := 16) hx hb nd_M_placeOf_13 (by decide) ?_
      refine lv_aload_n hx hb nd_M_placeOf_15 rfl (lv_at hl 0 rfl) ?_
      refine va_get (D := (dC, dI)) (ci := 6) (v := .ref (r 6)) (C := RX6) (T := TX6) (N := 11) hx hb hB inB6 hown hK hP 0 rfl rfl 6 (by decide) (hB _ lk_635) (fun _ h9 => h9) rfl nd_M_placeOf_16 ?_
      refine lv_iload_n hx hb nd_M_placeOf_19 rfl (lv_at hl 2 rfl) ?_
      refine lv_bipush (v := 16) hx hb nd_M_placeOf_20 (by decide) ?_
      refine lv_idiv hx hb nd_M_placeOf_22 (by decide) ?_
      obtain ⟨hg, hf⟩ := mi_gd_el hf
      refine va_iald hx hb hK hP 6 0 rfl rfl hg nd_M_placeOf_23 ?_
      refine lv_iconst (v := 1) hx hb nd_M_placeOf_24 (by decide) ?_
      refine lv_isub hx hb nd_M_placeOf_25 ?_
      refine lv_imul hx hb nd_M_placeOf_26 ?_
      refine lv_iload_n hx hb nd_M_placeOf_27 rfl (lv_at hl 2 rfl) ?_
      refine lv_bipush (v := 16) hx hb nd_M_placeOf_28 (by decide) ?_
      refine lv_irem hx hb nd_M_placeOf_30 (by decide) ?_
      refine lv_iadd hx hb nd_M_placeOf_31 ?_
      exact re_i hx hb hr hlocks ((mi_pr hf).1) ((mi_pr hf).2) hP hK hD hS nd_M_placeOf_32
  · have hf := mi_if_t hc hf
    refine lv_iload_n hx hb nd_M_placeOf_5 rfl (lv_at hl 2 rfl) ?_
    exact re_i hx hb hr hlocks ((mi_pr hf).1) ((mi_pr hf).2) hP hK hD hS nd_M_placeOf_6
abbrev rm_M_load : Room := { frames := 5, cells := 0, slots := 0, locals := 115 }
set_option maxHeartbeats 4000000 in
set_option maxRecDepth 100000 in
theorem kw_M_load (l : Launch) (dC : Nat → ClassId) (dI : Nat → Nat → Nat) (r : Nat → Nat) (cI cZ : ClassId) (sz : Nat) (σ : MS) (z1 : Int32) (z2 : Int32) (v : Int32) (σ' : MS) (hf : mm_load σ z1 z2 = some (v, σ')) : Met l ny_M_load nw_M_load rm_M_load (va_Pc [.ref (r 0), .int z1, .int z2] (pr_ (dC, dI) (wd_M r cI cZ) [(cI, .int), (cZ, .boolean)] sz σ)) (qi_ (dC, dI) (wd_M r cI cZ) [(cI, .int), (cZ, .boolean)] (va_A (wd_M r cI cZ σ) sz) v σ') 0 0 (va_A (wd_M r cI cZ σ) sz) := by
  refine Met.ofW (cc := nb_M_load) (maxL := 3) (ret := (some .int)) (by decide) rfl ?_
  intro p e s m args below meth c s₁ B hml hv
  obtain ⟨rfl, hsz, hP, hK, hD0, hN⟩ := hv
  have hx := B.exec
  have hb := B.bytes
  have hr := B.returns
  have hts := atoms_spec (ws := nw_M_load) B.pre
  have hB : ∀ w ∈ BG, w.before ([.ref (r 0), .int z1, .int z2] : List Value).toArray s = true := fun w h => hts w (List.mem_cons_of_mem _ h)
  have hown : s.vm.findClass "MovedFramesModel" = some m.cls := findClass_of_methodNamed B.named
  have hlocks := B.notSynchronized
  subst hsz
  have hD := hD0.self (sz := s.heap.size)
  generalize hAe : va_A (wd_M r cI cZ σ) s.heap.size = A at hD ⊢
  have hA : ∀ q : Nat, s.heap.size ≤ q → A q := fun q h => by rw [← hAe]; exact Or.inr h
  have hS : va_S A s.heap s.heap [] := va_S.rf
  have hl := lv_entry ([.ref (r 0), .int z1, .int z2]) (n := 3) (Nat.le_of_ble_eq_true rfl)
  rw [lg_entry_eq]
  generalize (lg_sl ([.ref (r 0), .int z1, .int z2]) ++ List.replicate (3 - (lg_sl ([.ref (r 0), .int z1, .int z2])).length) Slot.unset).toArray = ls at hl ⊢
  have hl : lv_has ls 3 [(0, .ref (r 0)), (1, .int z1), (2, .int z2)] := hl
  have hH : s.heap = s.heap := rfl
  unfold mm_load at hf
  refine lv_aload_n hx hb nd_M_load_0 rfl (lv_at hl 0 rfl) ?_
  refine lv_aload_n hx hb nd_M_load_1 rfl (lv_at hl 0 rfl) ?_
  refine lv_iload_n hx hb nd_M_load_2 rfl (lv_at hl 1 rfl) ?_
  refine lv_iload_n hx hb nd_M_load_3 rfl (lv_at hl 2 rfl) ?_
  obtain ⟨r1, hc, hf⟩ := mi_cp_el hf
  refine ca_i (va_runV (C := "MovedFramesModel") (As := [.int z1, .int z2]) (rest := [.ref (r 0)]) ⟨hx, hb, hml, hown, hB⟩ (kw_M_wrong l dC dI r cI cZ _ σ z1 z2 r1 hc) ⟨callB_of 2 hB (gi_ lk_772) rfl rfl rfl (hB _ lk_7) (hB _ lk_769) (by decide +kernel) ⟨Nat.le_of_ble_eq_true rfl, Nat.le_of_ble_eq_true rfl⟩, hB _ lk_771, hB _ ls_40⟩ ⟨bl_, va_recv (ci := 6) (q0 := 0) hK hP rfl rfl, pre_ hP hK hD hN⟩ rfl rfl hl.1 rfl (lv_room (Nat.le_of_ble_eq_true rfl)) nd_M_load_4 ⟨Nat.zero_le _, Nat.zero_le _⟩) hD hS hA (fun H locs hP hD hS => ?_)
  obtain ⟨r3, σ2, hc, hf⟩ := mi_cw_el hf
  refine ca_i (va_runV (C := "MovedFramesModel") (As := [.int r1]) (rest := []) ⟨hx, hb, hml, hown, hB⟩ (kw_M_throwsBy l dC dI r cI cZ _ σ r1 r3 σ2 hc) ⟨callB_of 1 hB (gi_ lk_681) rfl rfl rfl (hB _ lk_7) (hB _ lk_678) (by decide +kernel) ⟨Nat.le_of_ble_eq_true rfl, Nat.le_of_ble_eq_true rfl⟩, hB _ lk_680, hB _ ls_26⟩ ⟨bl_, va_recv (ci := 6) (q0 := 0) hK hP rfl rfl, pre_ hP hK hD hN⟩ rfl rfl hl.1 rfl (lv_room (Nat.le_of_ble_eq_true rfl)) nd_M_load_7 ⟨Nat.zero_le _, Nat.zero_le _⟩) hD hS hA (fun H locs hP hD hS => ?_)
  refine lv_if_eq (tgt := 15) hx hb nd_M_load_10 (by decide) (fun hc => ?_) (fun hc => ?_)
  · have hf := mi_if_t hc hf
    refine lv_aload_n hx hb nd_M_load_15 rfl (lv_at hl 0 rfl) ?_
    refine va_get (D := (dC, dI)) (ci := 6) (v := .ref (r 2)) (C := RX6) (T := TX6) (N := 11) hx hb hB inB6 hown hK hP 0 rfl rfl 2 (by decide) (hB _ lk_631) (fun _ h9 => h9) rfl nd_M_load_16 ?_
    refine lv_aload_n hx hb nd_M_load_19 rfl (lv_at hl 0 rfl) ?_
    refine lv_iload_n hx hb nd_M_load_20 rfl (lv_at hl 1 rfl) ?_
    refine lv_iload_n hx hb nd_M_load_21 rfl (lv_at hl 2 rfl) ?_
    obtain ⟨r5, σ4, hc, hf⟩ := mi_cw_el hf
    refine ca_i (va_runV (C := "MovedFramesModel") (As := [.int z1, .int z2]) (rest := [.ref (r 2)]) ⟨hx, hb, hml, hown, hB⟩ (kw_M_placeOf l dC dI r cI cZ _ σ2 z1 z2 r5 σ4 hc) ⟨callB_of 2 hB (gi_ lk_776) rfl rfl rfl (hB _ lk_7) (hB _ lk_773) (by decide +kernel) ⟨Nat.le_of_ble_eq_true rfl, Nat.le_of_ble_eq_true rfl⟩, hB _ lk_775, hB _ ls_41⟩ ⟨bl_, va_recv (ci := 6) (q0 := 0) hK hP rfl rfl, pre_ hP hK hD hN⟩ rfl rfl hl.1 rfl (lv_room (Nat.le_of_ble_eq_true rfl)) nd_M_load_22 ⟨Nat.zero_le _, Nat.zero_le _⟩) hD hS hA (fun H locs hP hD hS => ?_)
    obtain ⟨hg, hf⟩ := mi_gd_el hf
    refine va_iald hx hb hK hP 2 0 rfl rfl hg nd_M_load_25 ?_
    exact re_i hx hb hr hlocks ((mi_pr hf).1) ((mi_pr hf).2) hP hK hD hS nd_M_load_26
  · have hf := mi_if_f hc hf
    refine lv_iconst (v := 0) hx hb nd_M_load_13 (by decide) ?_
    exact re_i hx hb hr hlocks ((mi_pr hf).1) ((mi_pr hf).2) hP hK hD hS nd_M_load_14
abbrev rm_M_store : Room := { frames := 5, cells := 0, slots := 0, locals := 115 }
set_option maxHeartbeats 4000000 in
set_option maxRecDepth 100000 in
theorem kw_M_store (l : Launch) (dC : Nat → ClassId) (dI : Nat → Nat → Nat) (r : Nat → Nat) (cI cZ : ClassId) (sz : Nat) (σ : MS) (z1 : Int32) (z2 : Int32) (z3 : Int32) (σ' : MS) (hf : mm_store σ z1 z2 z3 = some σ') : Met l ny_M_store nw_M_store rm_M_store (va_Pc [.ref (r 0), .int z1, .int z2, .int z3] (pr_ (dC, dI) (wd_M r cI cZ) [(cI, .int), (cZ, .boolean)] sz σ)) (qv_ (dC, dI) (wd_M r cI cZ) [(cI, .int), (cZ, .boolean)] (va_A (wd_M r cI cZ σ) sz) σ') 0 0 (va_A (wd_M r cI cZ σ) sz) := by
  refine Met.ofW (cc := nb_M_store) (maxL := 4) (ret := none) (by decide) rfl ?_
  intro p e s m args below meth c s₁ B hml hv
  obtain ⟨rfl, hsz, hP, hK, hD0, hN⟩ := hv
  have hx := B.exec
  have hb := B.bytes
  have hr := B.returns
  have hts := atoms_spec (ws := nw_M_store) B.pre
  have hB : ∀ w ∈ BG, w.before ([.ref (r 0), .int z1, .int z2, .int z3] : List Value).toArray s = true := fun w h => hts w (List.mem_cons_of_mem _ h)
  have hown : s.vm.findClass "MovedFramesModel" = some m.cls := findClass_of_methodNamed B.named
  have hlocks := B.notSynchronized
  subst hsz
  have hD := hD0.self (sz := s.heap.size)
  generalize hAe : va_A (wd_M r cI cZ σ) s.heap.size = A at hD ⊢
  have hA : ∀ q : Nat, s.heap.size ≤ q → A q := fun q h => by rw [← hAe]; exact Or.inr h
  have hS : va_S A s.heap s.heap [] := va_S.rf
  have hl := lv_entry ([.ref (r 0), .int z1, .int z2, .int z3]) (n := 4) (Nat.le_of_ble_eq_true rfl)
  rw [lg_entry_eq]
  generalize (lg_sl ([.ref (r 0), .int z1, .int z2, .int z3]) ++ List.replicate (4 - (lg_sl ([.ref (r 0), .int z1, .int z2, .int z3])).length) Slot.unset).toArray = ls at hl ⊢
  have hl : lv_has ls 4 [(0, .ref (r 0)), (1, .int z1), (2, .int z2), (3, .int z3)] := hl
  have hH : s.heap = s.heap := rfl
  unfold mm_store at hf
  refine lv_aload_n hx hb nd_M_store_0 rfl (lv_at hl 0 rfl) ?_
  refine lv_aload_n hx hb nd_M_store_1 rfl (lv_at hl 0 rfl) ?_
  refine lv_iload_n hx hb nd_M_store_2 rfl (lv_at hl 1 rfl) ?_
  refine lv_iload_n hx hb nd_M_store_3 rfl (lv_at hl 2 rfl) ?_
  obtain ⟨r1, hc, hf⟩ := mi_cp_el hf
  refine ca_i (va_runV (C := "MovedFramesModel") (As := [.int z1, .int z2]) (rest := [.ref (r 0)]) ⟨hx, hb, hml, hown, hB⟩ (kw_M_wrong l dC dI r cI cZ _ σ z1 z2 r1 hc) ⟨callB_of 2 hB (gi_ lk_772) rfl rfl rfl (hB _ lk_7) (hB _ lk_769) (by decide +kernel) ⟨Nat.le_of_ble_eq_true rfl, Nat.le_of_ble_eq_true rfl⟩, hB _ lk_771, hB _ ls_40⟩ ⟨bl_, va_recv (ci := 6) (q0 := 0) hK hP rfl rfl, pre_ hP hK hD hN⟩ rfl rfl hl.1 rfl (lv_room (Nat.le_of_ble_eq_true rfl)) nd_M_store_4 ⟨Nat.zero_le _, Nat.zero_le _⟩) hD hS hA (fun H locs hP hD hS => ?_)
  obtain ⟨r3, σ2, hc, hf⟩ := mi_cw_el hf
  refine ca_i (va_runV (C := "MovedFramesModel") (As := [.int r1]) (rest := []) ⟨hx, hb, hml, hown, hB⟩ (kw_M_throwsBy l dC dI r cI cZ _ σ r1 r3 σ2 hc) ⟨callB_of 1 hB (gi_ lk_681) rfl rfl rfl (hB _ lk_7) (hB _ lk_678) (by decide +kernel) ⟨Nat.le_of_ble_eq_true rfl, Nat.le_of_ble_eq_true rfl⟩, hB _ lk_680, hB _ ls_26⟩ ⟨bl_, va_recv (ci := 6) (q0 := 0) hK hP rfl rfl, pre_ hP hK hD hN⟩ rfl rfl hl.1 rfl (lv_room (Nat.le_of_ble_eq_true rfl)) nd_M_store_7 ⟨Nat.zero_le _, Nat.zero_le _⟩) hD hS hA (fun H locs hP hD hS => ?_)
  refine lv_if_eq (tgt := 14) hx hb nd_M_store_10 (by decide) (fun hc => ?_) (fun hc => ?_)
  · have hf := mi_if_t hc hf
    refine lv_aload_n hx hb nd_M_store_14 rfl (lv_at hl 0 rfl) ?_
    refine va_get (D := (dC, dI)) (ci := 6) (v := .ref (r 2)) (C := RX6) (T := TX6) (N := 11) hx hb hB inB6 hown hK hP 0 rfl rfl 2 (by decide) (hB _ lk_631) (fun _ h9 => h9) rfl nd_M_store_15 ?_
    refine lv_aload_n hx hb nd_M_store_18 rfl (lv_at hl 0 rfl) ?_
    refine lv_iload_n hx hb nd_M_store_19 rfl (lv_at hl 1 rfl) ?_
    refine lv_iload_n hx hb nd_M_store_20 rfl (lv_at hl 2 rfl) ?_
    obtain ⟨r5, σ4, hc, hf⟩ := mi_cw_el hf
    refine ca_i (va_runV (C := "MovedFramesModel") (As := [.int z1, .int z2]) (rest := [.ref (r 2)]) ⟨hx, hb, hml, hown, hB⟩ (kw_M_placeOf l dC dI r cI cZ _ σ2 z1 z2 r5 σ4 hc) ⟨callB_of 2 hB (gi_ lk_776) rfl rfl rfl (hB _ lk_7) (hB _ lk_773) (by decide +kernel) ⟨Nat.le_of_ble_eq_true rfl, Nat.le_of_ble_eq_true rfl⟩, hB _ lk_775, hB _ ls_41⟩ ⟨bl_, va_recv (ci := 6) (q0 := 0) hK hP rfl rfl, pre_ hP hK hD hN⟩ rfl rfl hl.1 rfl (lv_room (Nat.le_of_ble_eq_true rfl)) nd_M_store_21 ⟨Nat.zero_le _, Nat.zero_le _⟩) hD hS hA (fun H locs hP hD hS => ?_)
    refine lv_iload_n hx hb nd_M_store_24 rfl (lv_at hl 3 rfl) ?_
    obtain ⟨hg, hf⟩ := mi_gd_el hf
    refine va_iast hx hb hK hP hD hS 2 0 rfl rfl hg nd_M_store_25 (fun H locs hP hD hS => ?_)
    obtain ⟨σ6, e9, hf⟩ := mi_wr_ex hf
    have hP : va_P (dC, dI) vwCl (wd_M r cI cZ σ6) H := by rw [e9]; exact hP
    have hD : va_D A (wd_M r cI cZ σ6) := by rw [e9]; exact hD
    exact re_v hx hb hr hlocks (mi_eq hf) hP hK hD hS nd_M_store_26
  · have hf := mi_if_f hc hf
    exact re_v hx hb hr hlocks (mi_eq hf) hP hK hD hS nd_M_store_13
abbrev rm_M_isAble : Room := { frames := 1, cells := 0, slots := 0, locals := 22 }
set_option maxHeartbeats 4000000 in
set_option maxRecDepth 100000 in
theorem kw_M_isAble (l : Launch) (dC : Nat → ClassId) (dI : Nat → Nat → Nat) (r : Nat → Nat) (cI cZ : ClassId) (sz : Nat) (σ : MS) (z1 : Int32) (z2 : Int32) (v : Int32) (hf : mm_isAble σ z1 z2 = some v) : Met l ny_M_isAble nw_M_isAble rm_M_isAble (va_Pc [.ref (r 0), .int z1, .int z2] (pr_ (dC, dI) (wd_M r cI cZ) [(cI, .int), (cZ, .boolean)] sz σ)) (qi_ (dC, dI) (wd_M r cI cZ) [(cI, .int), (cZ, .boolean)] (va_A (wd_M r cI cZ σ) sz) v σ) 0 0 (va_A (wd_M r cI cZ σ) sz) := by
  refine Met.ofW (cc := nb_M_isAble) (maxL := 7) (ret := (some .boolean)) (by decide) rfl ?_
  intro p e s m args below meth c s₁ B hml hv
  obtain ⟨rfl, hsz, hP, hK, hD0, hN⟩ := hv
  have hx := B.exec
  have hb := B.bytes
  have hr := B.returns
  have hts := atoms_spec (ws := nw_M_isAble) B.pre
  have hB : ∀ w ∈ BG, w.before ([.ref (r 0), .int z1, .int z2] : List Value).toArray s = true := fun w h => hts w (List.mem_cons_of_mem _ h)
  have hown : s.vm.findClass "MovedFramesModel" = some m.cls := findClass_of_methodNamed B.named
  have hlocks := B.notSynchronized
  subst hsz
  have hD := hD0.self (sz := s.heap.size)
  generalize hAe : va_A (wd_M r cI cZ σ) s.heap.size = A at hD ⊢
  have hA : ∀ q : Nat, s.heap.size ≤ q → A q := fun q h => by rw [← hAe]; exact Or.inr h
  have hS : va_S A s.heap s.heap [] := va_S.rf
  have hl := lv_entry ([.ref (r 0), .int z1, .int z2]) (n := 7) (Nat.le_of_ble_eq_true rfl)
  rw [lg_entry_eq]
  generalize (lg_sl ([.ref (r 0), .int z1, .int z2]) ++ List.replicate (7 - (lg_sl ([.ref (r 0), .int z1, .int z2])).length) Slot.unset).toArray = ls at hl ⊢
  have hl : lv_has ls 7 [(0, .ref (r 0)), (1, .int z1), (2, .int z2)] := hl
  have B98 : ∀ (x3 : Int32) (x4 : Int32) (x5 : Int32), mm_isAble_b98 x3 x4 x5 σ = some v → bk_ p l e rm_M_isAble s m ([.ref (r 0), .int z1, .int z2] : List Value).toArray below meth c (MQ below (qi_ (dC, dI) (wd_M r cI cZ) [(cI, .int), (cZ, .boolean)] A v σ) ([.ref (r 0), .int z1, .int z2] : List Value).toArray s 0 0 A) A (dC, dI) (wd_M r cI cZ) 7 98 [(0, .ref (r 0)), (3, .int x3), (4, .int x4), (5, .int x5)] [] σ := by
    intro x3 x4 x5 hf ls H locs hl hP hD hS
    unfold mm_isAble_b98 at hf
    refine lv_iload hx hb nd_M_isAble_98 (lv_at hl 3 rfl) ?_
    refine lv_if_eq (tgt := 118) hx hb nd_M_isAble_100 (by decide) (fun hc => ?_) (fun hc => ?_)
    · have hf := mi_if_t hc hf
      refine lv_iconst (v := 0) hx hb nd_M_isAble_118 (by decide) ?_
      exact re_z hx hb hr hlocks (Or.inl rfl) (mi_eq hf) (rfl) hP hK hD hS nd_M_isAble_119
    · have hf := mi_if_f hc hf
      refine lv_aload_n hx hb nd_M_isAble_103 rfl (lv_at hl 0 rfl) ?_
      obtain ⟨r1, hc, hf⟩ := mi_cp_el hf
      refine ca_i (va_runV (C := "MovedFramesModel") (As := []) (rest := []) ⟨hx, hb, hml, hown, hB⟩ (kw_M_countFree l dC dI r cI cZ _ σ r1 hc) ⟨callB_of 0 hB (gi_ lk_677) rfl rfl rfl (hB _ lk_7) (hB _ lk_674) (by decide +kernel) ⟨Nat.le_of_ble_eq_true rfl, Nat.le_of_ble_eq_true rfl⟩, hB _ lk_676, hB _ ls_25⟩ ⟨bl_, va_recv (ci := 6) (q0 := 0) hK hP rfl rfl, pre_ hP hK hD hN⟩ rfl rfl hl.1 rfl (lv_room (Nat.le_of_ble_eq_true rfl)) nd_M_isAble_104 ⟨Nat.zero_le _, Nat.zero_le _⟩) hD hS hA (fun H locs hP hD hS => ?_)
      refine lv_iload hx hb nd_M_isAble_107 (lv_at hl 2 rfl) ?_
      refine lv_isub hx hb nd_M_isAble_109 ?_
      refine lv_iload_n hx hb nd_M_isAble_110 rfl (lv_at hl 1 rfl) ?_
      refine lv_icmp_lt (tgt := 118) hx hb nd_M_isAble_111 (by decide) (fun hc => ?_) (fun hc => ?_)
      · have hf := mi_if_t hc hf
        refine lv_iconst (v := 0) hx hb nd_M_isAble_118 (by decide) ?_
        exact re_z hx hb hr hlocks (Or.inl rfl) (mi_eq hf) (rfl) hP hK hD hS nd_M_isAble_119
      · have hf := mi_if_f hc hf
        refine lv_iconst (v := 1) hx hb nd_M_isAble_114 (by decide) ?_
        refine lv_goto (tgt := 119) hx hb nd_M_isAble_115 (by decide) ?_
        exact re_z hx hb hr hlocks (Or.inr rfl) (mi_eq hf) (rfl) hP hK hD hS nd_M_isAble_119
  have B70 : ∀ (k11 : Int32 → Int32 → Int32 → Int32 → Int32 → Int32 → MS → Option (Int32)) (hk11 : ∀ (x1 : Int32) (x2 : Int32) (x3 : Int32) (x4 : Int32) (x5 : Int32) (x6 : Int32), k11 x1 x2 x3 x4 x5 x6 σ = some v → bk_ p l e rm_M_isAble s m ([.ref (r 0), .int z1, .int z2] : List Value).toArray below meth c (MQ below (qi_ (dC, dI) (wd_M r cI cZ) [(cI, .int), (cZ, .boolean)] A v σ) ([.ref (r 0), .int z1, .int z2] : List Value).toArray s 0 0 A) A (dC, dI) (wd_M r cI cZ) 7 11 [(0, .ref (r 0)), (1, .int x1), (2, .int x2), (3, .int x3), (4, .int x4), (5, .int x5), (6, .int x6)] [] σ) (x1 : Int32) (x2 : Int32) (x4 : Int32) (x5 : Int32) (x6 : Int32) (y0 : Int32), mm_isAble_b70 k11 x1 x2 x4 x5 x6 y0 σ = some v → bk_ p l e rm_M_isAble s m ([.ref (r 0), .int z1, .int z2] : List Value).toArray below meth c (MQ below (qi_ (dC, dI) (wd_M r cI cZ) [(cI, .int), (cZ, .boolean)] A v σ) ([.ref (r 0), .int z1, .int z2] : List Value).toArray s 0 0 A) A (dC, dI) (wd_M r cI cZ) 7 70 [(0, .ref (r 0)), (1, .int x1), (2, .int x2), (4, .int x4), (5, .int x5), (6, .int x6)] [.int y0] σ := by
    intro k11 hk11 x1 x2 x4 x5 x6 y0 hf ls H locs hl hP hD hS
    unfold mm_isAble_b70 at hf
    refine lv_istore_n (lv' := [(3, .int y0), (0, .ref (r 0)), (1, .int x1), (2, .int x2), (4, .int x4), (5, .int x5), (6, .int x6)]) hx hb nd_M_isAble_70 rfl hl (by decide) rfl (fun ls hl => ?_)
    refine lv_aload_n hx hb nd_M_isAble_71 rfl (lv_at hl 1 rfl) ?_
    refine va_get (D := (dC, dI)) (ci := 6) (v := .ref (r 1)) (C := RX6) (T := TX6) (N := 11) hx hb hB inB6 hown hK hP 0 rfl rfl 1 (by decide) (hB _ lk_630) (fun _ h9 => h9) rfl nd_M_isAble_72 ?_
    refine lv_iload hx hb nd_M_isAble_75 (lv_at hl 6 rfl) ?_
    obtain ⟨hg, hf⟩ := mi_gd_el hf
    refine va_iald hx hb hK hP 1 0 rfl rfl hg nd_M_isAble_77 ?_
    refine lv_if_ne (tgt := 88) hx hb nd_M_isAble_78 (by decide) (fun hc => ?_) (fun hc => ?_)
    · have hf := mi_if_f hc hf
      refine lv_iload hx hb nd_M_isAble_88 (lv_at hl 4 rfl) ?_
      refine lv_istore (lv' := [(4, .int x4), (3, .int y0), (0, .ref (r 0)), (1, .int x1), (2, .int x2), (5, .int x5), (6, .int x6)]) hx hb nd_M_isAble_90 hl (by decide) rfl (fun ls hl => ?_)
      refine lv_iinc (k := 6) (v := x6 + (1 : Int32)) (lv' := [(6, .int (x6 + (1 : Int32))), (4, .int x4), (3, .int y0), (0, .ref (r 0)), (1, .int x1), (2, .int x2), (5, .int x5)]) hx hb nd_M_isAble_92 hl rfl (congrArg (fun z => x6 + z) (by decide : Int32.ofInt 1 = (1 : Int32))) (by decide) rfl (fun ls hl => ?_)
      refine lv_goto (tgt := 11) hx hb nd_M_isAble_95 (by decide) ?_
      exact hk11 x1 x2 y0 x4 x5 (x6 + (1 : Int32)) hf _ _ _ (lv_sub hl [3, 4, 5, 2, 1, 6, 0] rfl) hP hD hS
    · have hf := mi_if_t hc hf
      refine lv_iload hx hb nd_M_isAble_81 (lv_at hl 4 rfl) ?_
      refine lv_iconst (v := 1) hx hb nd_M_isAble_83 (by decide) ?_
      refine lv_iadd hx hb nd_M_isAble_84 ?_
      refine lv_goto (tgt := 90) hx hb nd_M_isAble_85 (by decide) ?_
      refine lv_istore (lv' := [(4, .int (x4 + (1 : Int32))), (3, .int y0), (0, .ref (r 0)), (1, .int x1), (2, .int x2), (5, .int x5), (6, .int x6)]) hx hb nd_M_isAble_90 hl (by decide) rfl (fun ls hl => ?_)
      refine lv_iinc (k := 6) (v := x6 + (1 : Int32)) (lv' := [(6, .int (x6 + (1 : Int32))), (4, .int (x4 + (1 : Int32))), (3, .int y0), (0, .ref (r 0)), (1, .int x1), (2, .int x2), (5, .int x5)]) hx hb nd_M_isAble_92 hl rfl (congrArg (fun z => x6 + z) (by decide : Int32.ofInt 1 = (1 : Int32))) (by decide) rfl (fun ls hl => ?_)
      refine lv_goto (tgt := 11) hx hb nd_M_isAble_95 (by decide) ?_
      exact hk11 x1 x2 y0 (x4 + (1 : Int32)) x5 (x6 + (1 : Int32)) hf _ _ _ (lv_sub hl [3, 4, 5, 2, 1, 6, 0] rfl) hP hD hS
  have B50 : ∀ (k11 : Int32 → Int32 → Int32 → Int32 → Int32 → Int32 → MS → Option (Int32)) (hk11 : ∀ (x1 : Int32) (x2 : Int32) (x3 : Int32) (x4 : Int32) (x5 : Int32) (x6 : Int32), k11 x1 x2 x3 x4 x5 x6 σ = some v → bk_ p l e rm_M_isAble s m ([.ref (r 0), .int z1, .int z2] : List Value).toArray below meth c (MQ below (qi_ (dC, dI) (wd_M r cI cZ) [(cI, .int), (cZ, .boolean)] A v σ) ([.ref (r 0), .int z1, .int z2] : List Value).toArray s 0 0 A) A (dC, dI) (wd_M r cI cZ) 7 11 [(0, .ref (r 0)), (1, .int x1), (2, .int x2), (3, .int x3), (4, .int x4), (5, .int x5), (6, .int x6)] [] σ) (x1 : Int32) (x2 : Int32) (x3 : Int32) (x4 : Int32) (x6 : Int32) (y0 : Int32), mm_isAble_b50 k11 x1 x2 x3 x4 x6 y0 σ = some v → bk_ p l e rm_M_isAble s m ([.ref (r 0), .int z1, .int z2] : List Value).toArray below meth c (MQ below (qi_ (dC, dI) (wd_M r cI cZ) [(cI, .int), (cZ, .boolean)] A v σ) ([.ref (r 0), .int z1, .int z2] : List Value).toArray s 0 0 A) A (dC, dI) (wd_M r cI cZ) 7 50 [(0, .ref (r 0)), (1, .int x1), (2, .int x2), (3, .int x3), (4, .int x4), (6, .int x6)] [.int y0] σ := by
    intro k11 hk11 x1 x2 x3 x4 x6 y0 hf ls H locs hl hP hD hS
    unfold mm_isAble_b50 at hf
    refine lv_istore (lv' := [(5, .int y0), (0, .ref (r 0)), (1, .int x1), (2, .int x2), (3, .int x3), (4, .int x4), (6, .int x6)]) hx hb nd_M_isAble_50 hl (by decide) rfl (fun ls hl => ?_)
    refine lv_aload_n hx hb nd_M_isAble_52 rfl (lv_at hl 1 rfl) ?_
    refine va_get (D := (dC, dI)) (ci := 6) (v := .ref (r 1)) (C := RX6) (T := TX6) (N := 11) hx hb hB inB6 hown hK hP 0 rfl rfl 1 (by decide) (hB _ lk_630) (fun _ h9 => h9) rfl nd_M_isAble_53 ?_
    refine lv_iload hx hb nd_M_isAble_56 (lv_at hl 6 rfl) ?_
    obtain ⟨hg, hf⟩ := mi_gd_el hf
    refine va_iald hx hb hK hP 1 0 rfl rfl hg nd_M_isAble_58 ?_
    refine lv_iconst (v := 4) hx hb nd_M_isAble_59 (by decide) ?_
    refine lv_icmp_ne (tgt := 69) hx hb nd_M_isAble_60 (by decide) (fun hc => ?_) (fun hc => ?_)
    · have hf := mi_if_f hc hf
      refine lv_iload_n hx hb nd_M_isAble_69 rfl (lv_at hl 4 rfl) ?_
      exact B70 k11 hk11 x1 x2 x4 y0 x6 x3 hf _ _ _ (lv_sub hl [1, 2, 3, 5, 0, 6] rfl) hP hD hS
    · have hf := mi_if_t hc hf
      refine lv_iload_n hx hb nd_M_isAble_63 rfl (lv_at hl 4 rfl) ?_
      refine lv_iconst (v := 1) hx hb nd_M_isAble_64 (by decide) ?_
      refine lv_iadd hx hb nd_M_isAble_65 ?_
      refine lv_goto (tgt := 70) hx hb nd_M_isAble_66 (by decide) ?_
      exact B70 k11 hk11 x1 x2 x4 y0 x6 (x3 + (1 : Int32)) hf _ _ _ (lv_sub hl [1, 2, 3, 5, 0, 6] rfl) hP hD hS
  have B49 : ∀ (k11 : Int32 → Int32 → Int32 → Int32 → Int32 → Int32 → MS → Option (Int32)) (hk11 : ∀ (x1 : Int32) (x2 : Int32) (x3 : Int32) (x4 : Int32) (x5 : Int32) (x6 : Int32), k11 x1 x2 x3 x4 x5 x6 σ = some v → bk_ p l e rm_M_isAble s m ([.ref (r 0), .int z1, .int z2] : List Value).toArray below meth c (MQ below (qi_ (dC, dI) (wd_M r cI cZ) [(cI, .int), (cZ, .boolean)] A v σ) ([.ref (r 0), .int z1, .int z2] : List Value).toArray s 0 0 A) A (dC, dI) (wd_M r cI cZ) 7 11 [(0, .ref (r 0)), (1, .int x1), (2, .int x2), (3, .int x3), (4, .int x4), (5, .int x5), (6, .int x6)] [] σ) (x1 : Int32) (x2 : Int32) (x3 : Int32) (x4 : Int32) (x6 : Int32), mm_isAble_b49 k11 x1 x2 x3 x4 x6 σ = some v → bk_ p l e rm_M_isAble s m ([.ref (r 0), .int z1, .int z2] : List Value).toArray below meth c (MQ below (qi_ (dC, dI) (wd_M r cI cZ) [(cI, .int), (cZ, .boolean)] A v σ) ([.ref (r 0), .int z1, .int z2] : List Value).toArray s 0 0 A) A (dC, dI) (wd_M r cI cZ) 7 49 [(0, .ref (r 0)), (1, .int x1), (2, .int x2), (3, .int x3), (4, .int x4), (6, .int x6)] [] σ := by
    intro k11 hk11 x1 x2 x3 x4 x6 hf ls H locs hl hP hD hS
    unfold mm_isAble_b49 at hf
    refine lv_iconst (v := 0) hx hb nd_M_isAble_49 (by decide) ?_
    exact B50 k11 hk11 x1 x2 x3 x4 x6 (0 : Int32) hf _ _ _ (lv_sub hl [0, 1, 2, 3, 4, 5] rfl) hP hD hS
  have B11 : ∀ (k11 : Int32 → Int32 → Int32 → Int32 → Int32 → Int32 → MS → Option (Int32)) (hk11 : ∀ (x1 : Int32) (x2 : Int32) (x3 : Int32) (x4 : Int32) (x5 : Int32) (x6 : Int32), k11 x1 x2 x3 x4 x5 x6 σ = some v → bk_ p l e rm_M_isAble s m ([.ref (r 0), .int z1, .int z2] : List Value).toArray below meth c (MQ below (qi_ (dC, dI) (wd_M r cI cZ) [(cI, .int), (cZ, .boolean)] A v σ) ([.ref (r 0), .int z1, .int z2] : List Value).toArray s 0 0 A) A (dC, dI) (wd_M r cI cZ) 7 11 [(0, .ref (r 0)), (1, .int x1), (2, .int x2), (3, .int x3), (4, .int x4), (5, .int x5), (6, .int x6)] [] σ) (x1 : Int32) (x2 : Int32) (x3 : Int32) (x4 : Int32) (x5 : Int32) (x6 : Int32), mm_isAble_b11 k11 x1 x2 x3 x4 x5 x6 σ = some v → bk_ p l e rm_M_isAble s m ([.ref (r 0), .int z1, .int z2] : List Value).toArray below meth c (MQ below (qi_ (dC, dI) (wd_M r cI cZ) [(cI, .int), (cZ, .boolean)] A v σ) ([.ref (r 0), .int z1, .int z2] : List Value).toArray s 0 0 A) A (dC, dI) (wd_M r cI cZ) 7 11 [(0, .ref (r 0)), (1, .int x1), (2, .int x2), (3, .int x3), (4, .int x4), (5, .int x5), (6, .int x6)] [] σ := by
    intro k11 hk11 x1 x2 x3 x4 x5 x6 hf ls H locs hl hP hD hS
    unfold mm_isAble_b11 at hf
    refine lv_iload hx hb nd_M_isAble_11 (lv_at hl 6 rfl) ?_
    refine lv_iload_n hx hb nd_M_isAble_13 rfl (lv_at hl 1 rfl) ?_
    refine lv_iload_n hx hb nd_M_isAble_14 rfl (lv_at hl 2 rfl) ?_
    refine lv_iadd hx hb nd_M_isAble_15 ?_
    refine lv_icmp_ge (tgt := 98) hx hb nd_M_isAble_16 (by decide) (fun hc => ?_) (fun hc => ?_)
    · have hf := mi_if_t hc hf
      exact B98 x3 x4 x5 hf _ _ _ (lv_sub hl [0, 3, 4, 5] rfl) hP hD hS
    · have hf := mi_if_f hc hf
      refine lv_iload hx hb nd_M_isAble_19 (lv_at hl 5 rfl) ?_
      refine lv_if_eq (tgt := 49) hx hb nd_M_isAble_21 (by decide) (fun hc => ?_) (fun hc => ?_)
      · have hf := mi_if_t hc hf
        exact B49 k11 hk11 x1 x2 x3 x4 x6 hf _ _ _ (lv_sub hl [0, 1, 2, 3, 4, 6] rfl) hP hD hS
      · have hf := mi_if_f hc hf
        refine lv_aload_n hx hb nd_M_isAble_24 rfl (lv_at hl 0 rfl) ?_
        refine va_get (D := (dC, dI)) (ci := 6) (v := .ref (r 1)) (C := RX6) (T := TX6) (N := 11) hx hb hB inB6 hown hK hP 0 rfl rfl 1 (by decide) (hB _ lk_630) (fun _ h9 => h9) rfl nd_M_isAble_25 ?_
        refine lv_iload hx hb nd_M_isAble_28 (lv_at hl 6 rfl) ?_
        obtain ⟨hg, hf⟩ := mi_gd_el hf
        refine va_iald hx hb hK hP 1 0 rfl rfl hg nd_M_isAble_30 ?_
        refine lv_if_eq (tgt := 45) hx hb nd_M_isAble_31 (by decide) (fun hc => ?_) (fun hc => ?_)
        · have hf := mi_if_t hc hf
          refine lv_iconst (v := 1) hx hb nd_M_isAble_45 (by decide) ?_
          refine lv_goto (tgt := 50) hx hb nd_M_isAble_46 (by decide) ?_
          exact B50 k11 hk11 x1 x2 x3 x4 x6 (1 : Int32) hf _ _ _ (lv_sub hl [0, 1, 2, 3, 4, 6] rfl) hP hD hS
        · have hf := mi_if_f hc hf
          refine lv_aload_n hx hb nd_M_isAble_34 rfl (lv_at hl 0 rfl) ?_
          refine va_get (D := (dC, dI)) (ci := 6) (v := .ref (r 1)) (C := RX6) (T := TX6) (N := 11) hx hb hB inB6 hown hK hP 0 rfl rfl 1 (by decide) (hB _ lk_630) (fun _ h9 => h9) rfl nd_M_isAble_35 ?_
          refine lv_iload hx hb nd_M_isAble_38 (lv_at hl 6 rfl) ?_
          obtain ⟨hg, hf⟩ := mi_gd_el hf
          refine va_iald hx hb hK hP 1 0 rfl rfl hg nd_M_isAble_40 ?_
          refine lv_iconst (v := 4) hx hb nd_M_isAble_41 (by decide) ?_
          refine lv_icmp_ne (tgt := 49) hx hb nd_M_isAble_42 (by decide) (fun hc => ?_) (fun hc => ?_)
          · have hf := mi_if_f hc hf
            exact B49 k11 hk11 x1 x2 x3 x4 x6 hf _ _ _ (lv_sub hl [0, 1, 2, 3, 4, 6] rfl) hP hD hS
          · have hf := mi_if_t hc hf
            refine lv_iconst (v := 1) hx hb nd_M_isAble_45 (by decide) ?_
            refine lv_goto (tgt := 50) hx hb nd_M_isAble_46 (by decide) ?_
            exact B50 k11 hk11 x1 x2 x3 x4 x6 (1 : Int32) hf _ _ _ (lv_sub hl [0, 1, 2, 3, 4, 6] rfl) hP hD hS
  have L11 : ∀ (n : Nat) (x1 : Int32) (x2 : Int32) (x3 : Int32) (x4 : Int32) (x5 : Int32) (x6 : Int32), mm_isAble_l11 n x1 x2 x3 x4 x5 x6 σ = some v → bk_ p l e rm_M_isAble s m ([.ref (r 0), .int z1, .int z2] : List Value).toArray below meth c (MQ below (qi_ (dC, dI) (wd_M r cI cZ) [(cI, .int), (cZ, .boolean)] A v σ) ([.ref (r 0), .int z1, .int z2] : List Value).toArray s 0 0 A) A (dC, dI) (wd_M r cI cZ) 7 11 [(0, .ref (r 0)), (1, .int x1), (2, .int x2), (3, .int x3), (4, .int x4), (5, .int x5), (6, .int x6)] [] σ := by
    intro n
    induction n with
    | zero =>
      intro x1 x2 x3 x4 x5 x6 hf
      exact mi_no hf
    | succ n ih =>
      intro x1 x2 x3 x4 x5 x6 hf
      exact B11 (mm_isAble_l11 n) ih x1 x2 x3 x4 x5 x6 hf
  have hH : s.heap = s.heap := rfl
  unfold mm_isAble at hf
  refine lv_iconst (v := 0) hx hb nd_M_isAble_0 (by decide) ?_
  refine lv_istore_n (lv' := [(3, .int (0 : Int32)), (0, .ref (r 0)), (1, .int z1), (2, .int z2)]) hx hb nd_M_isAble_1 rfl hl (by decide) rfl (fun ls hl => ?_)
  refine lv_iconst (v := 0) hx hb nd_M_isAble_2 (by decide) ?_
  refine lv_istore (lv' := [(4, .int (0 : Int32)), (3, .int (0 : Int32)), (0, .ref (r 0)), (1, .int z1), (2, .int z2)]) hx hb nd_M_isAble_3 hl (by decide) rfl (fun ls hl => ?_)
  refine lv_iconst (v := 1) hx hb nd_M_isAble_5 (by decide) ?_
  refine lv_istore (lv' := [(5, .int (1 : Int32)), (4, .int (0 : Int32)), (3, .int (0 : Int32)), (0, .ref (r 0)), (1, .int z1), (2, .int z2)]) hx hb nd_M_isAble_6 hl (by decide) rfl (fun ls hl => ?_)
  refine lv_iload_n hx hb nd_M_isAble_8 rfl (lv_at hl 4 rfl) ?_
  refine lv_istore (lv' := [(6, .int z1), (5, .int (1 : Int32)), (4, .int (0 : Int32)), (3, .int (0 : Int32)), (0, .ref (r 0)), (1, .int z1), (2, .int z2)]) hx hb nd_M_isAble_9 hl (by decide) rfl (fun ls hl => ?_)
  exact L11 FU z1 z2 (0 : Int32) (0 : Int32) (1 : Int32) z1 hf _ _ _ (lv_sub hl [4, 5, 6, 3, 2, 1, 0] rfl) hP hD hS
abbrev rm_M_rename : Room := { frames := 3, cells := 0, slots := 0, locals := 66 }
set_option maxHeartbeats 4000000 in
set_option maxRecDepth 100000 in
theorem kw_M_rename (l : Launch) (dC : Nat → ClassId) (dI : Nat → Nat → Nat) (r : Nat → Nat) (cI cZ : ClassId) (sz : Nat) (σ : MS) (z1 : Int32) (z2 : Int32) (σ' : MS) (hf : mm_rename σ z1 z2 = some σ') : Met l ny_M_rename nw_M_rename rm_M_rename (va_Pc [.ref (r 0), .int z1, .int z2] (pr_ (dC, dI) (wd_M r cI cZ) [(cI, .int), (cZ, .boolean)] sz σ)) (qv_ (dC, dI) (wd_M r cI cZ) [(cI, .int), (cZ, .boolean)] (va_A (wd_M r cI cZ σ) sz) σ') 0 0 (va_A (wd_M r cI cZ σ) sz) := by
  refine Met.ofW (cc := nb_M_rename) (maxL := 5) (ret := none) (by decide) rfl ?_
  intro p e s m args below meth c s₁ B hml hv
  obtain ⟨rfl, hsz, hP, hK, hD0, hN⟩ := hv
  have hx := B.exec
  have hb := B.bytes
  have hr := B.returns
  have hts := atoms_spec (ws := nw_M_rename) B.pre
  have hB : ∀ w ∈ BG, w.before ([.ref (r 0), .int z1, .int z2] : List Value).toArray s = true := fun w h => hts w (List.mem_cons_of_mem _ h)
  have hown : s.vm.findClass "MovedFramesModel" = some m.cls := findClass_of_methodNamed B.named
  have hlocks := B.notSynchronized
  subst hsz
  have hD := hD0.self (sz := s.heap.size)
  generalize hAe : va_A (wd_M r cI cZ σ) s.heap.size = A at hD ⊢
  have hA : ∀ q : Nat, s.heap.size ≤ q → A q := fun q h => by rw [← hAe]; exact Or.inr h
  have hS : va_S A s.heap s.heap [] := va_S.rf
  have hl := lv_entry ([.ref (r 0), .int z1, .int z2]) (n := 5) (Nat.le_of_ble_eq_true rfl)
  rw [lg_entry_eq]
  generalize (lg_sl ([.ref (r 0), .int z1, .int z2]) ++ List.replicate (5 - (lg_sl ([.ref (r 0), .int z1, .int z2])).length) Slot.unset).toArray = ls at hl ⊢
  have hl : lv_has ls 5 [(0, .ref (r 0)), (1, .int z1), (2, .int z2)] := hl
  have B10 : ∀ (k2 : Int32 → Int32 → Int32 → MS → Option (MS)) (hk2 : ∀ (x1 : Int32) (x2 : Int32) (x3 : Int32) (σ : MS), k2 x1 x2 x3 σ = some σ' → bk_ p l e rm_M_rename s m ([.ref (r 0), .int z1, .int z2] : List Value).toArray below meth c (MQ below (qv_ (dC, dI) (wd_M r cI cZ) [(cI, .int), (cZ, .boolean)] A σ') ([.ref (r 0), .int z1, .int z2] : List Value).toArray s 0 0 A) A (dC, dI) (wd_M r cI cZ) 5 2 [(0, .ref (r 0)), (1, .int x1), (2, .int x2), (3, .int x3)] [] σ) (k10 : Int32 → Int32 → Int32 → Int32 → MS → Option (MS)) (hk10 : ∀ (x1 : Int32) (x2 : Int32) (x3 : Int32) (x4 : Int32) (σ : MS), k10 x1 x2 x3 x4 σ = some σ' → bk_ p l e rm_M_rename s m ([.ref (r 0), .int z1, .int z2] : List Value).toArray below meth c (MQ below (qv_ (dC, dI) (wd_M r cI cZ) [(cI, .int), (cZ, .boolean)] A σ') ([.ref (r 0), .int z1, .int z2] : List Value).toArray s 0 0 A) A (dC, dI) (wd_M r cI cZ) 5 10 [(0, .ref (r 0)), (1, .int x1), (2, .int x2), (3, .int x3), (4, .int x4)] [] σ) (x1 : Int32) (x2 : Int32) (x3 : Int32) (x4 : Int32) (σ : MS), mm_rename_b10 k2 k10 x1 x2 x3 x4 σ = some σ' → bk_ p l e rm_M_rename s m ([.ref (r 0), .int z1, .int z2] : List Value).toArray below meth c (MQ below (qv_ (dC, dI) (wd_M r cI cZ) [(cI, .int), (cZ, .boolean)] A σ') ([.ref (r 0), .int z1, .int z2] : List Value).toArray s 0 0 A) A (dC, dI) (wd_M r cI cZ) 5 10 [(0, .ref (r 0)), (1, .int x1), (2, .int x2), (3, .int x3), (4, .int x4)] [] σ := by
    intro k2 hk2 k10 hk10 x1 x2 x3 x4 σ hf ls H locs hl hP hD hS
    unfold mm_rename_b10 at hf
    refine lv_iload hx hb nd_M_rename_10 (lv_at hl 4 rfl) ?_
    refine lv_sipush (v := 256) hx hb nd_M_rename_12 (by decide) ?_
    refine lv_icmp_ge (tgt := 59) hx hb nd_M_rename_15 (by decide) (fun hc => ?_) (fun hc => ?_)
    · have hf := mi_if_t hc hf
      refine lv_iinc (k := 3) (v := x3 + (1 : Int32)) (lv' := [(3, .int (x3 + (1 : Int32))), (0, .ref (r 0)), (1, .int x1), (2, .int x2), (4, .int x4)]) hx hb nd_M_rename_59 hl rfl (congrArg (fun z => x3 + z) (by decide : Int32.ofInt 1 = (1 : Int32))) (by decide) rfl (fun ls hl => ?_)
      refine lv_goto (tgt := 2) hx hb nd_M_rename_62 (by decide) ?_
      exact hk2 x1 x2 (x3 + (1 : Int32)) σ hf _ _ _ (lv_sub hl [1, 2, 3, 0] rfl) hP hD hS
    · have hf := mi_if_f hc hf
      refine lv_aload_n hx hb nd_M_rename_18 rfl (lv_at hl 0 rfl) ?_
      refine va_get (D := (dC, dI)) (ci := 6) (v := .ref (r 8)) (C := RX6) (T := TX6) (N := 11) hx hb hB inB6 hown hK hP 0 rfl rfl 8 (by decide) (hB _ lk_637) (fun _ h9 => h9) rfl nd_M_rename_19 ?_
      refine lv_iload_n hx hb nd_M_rename_22 rfl (lv_at hl 3 rfl) ?_
      obtain ⟨hg, hf⟩ := mi_gd_el hf
      refine va_iald hx hb hK hP 8 0 rfl rfl hg nd_M_rename_23 ?_
      refine lv_if_le (tgt := 59) hx hb nd_M_rename_24 (by decide) (fun hc => ?_) (fun hc => ?_)
      · have hf := mi_if_t hc hf
        refine lv_iinc (k := 3) (v := x3 + (1 : Int32)) (lv' := [(3, .int (x3 + (1 : Int32))), (0, .ref (r 0)), (1, .int x1), (2, .int x2), (4, .int x4)]) hx hb nd_M_rename_59 hl rfl (congrArg (fun z => x3 + z) (by decide : Int32.ofInt 1 = (1 : Int32))) (by decide) rfl (fun ls hl => ?_)
        refine lv_goto (tgt := 2) hx hb nd_M_rename_62 (by decide) ?_
        exact hk2 x1 x2 (x3 + (1 : Int32)) σ hf _ _ _ (lv_sub hl [1, 2, 3, 0] rfl) hP hD hS
      · have hf := mi_if_f hc hf
        refine lv_aload_n hx hb nd_M_rename_27 rfl (lv_at hl 0 rfl) ?_
        refine lv_iload_n hx hb nd_M_rename_28 rfl (lv_at hl 3 rfl) ?_
        refine lv_iload hx hb nd_M_rename_29 (lv_at hl 4 rfl) ?_
        obtain ⟨r1, hc, hf⟩ := mi_cp_el hf
        refine ca_i (va_runV (C := "MovedFramesModel") (As := [.int x3, .int x4]) (rest := []) ⟨hx, hb, hml, hown, hB⟩ (kw_M_frameOf l dC dI r cI cZ _ σ x3 x4 r1 hc) ⟨callB_of 2 hB (gi_ lk_741) rfl rfl rfl (hB _ lk_7) (hB _ lk_738) (by decide +kernel) ⟨Nat.le_of_ble_eq_true rfl, Nat.le_of_ble_eq_true rfl⟩, hB _ lk_740, hB _ ls_36⟩ ⟨bl_, va_recv (ci := 6) (q0 := 0) hK hP rfl rfl, pre_ hP hK hD hN⟩ rfl rfl hl.1 rfl (lv_room (Nat.le_of_ble_eq_true rfl)) nd_M_rename_31 ⟨Nat.zero_le _, Nat.zero_le _⟩) hD hS hA (fun H locs hP hD hS => ?_)
        refine lv_iload_n hx hb nd_M_rename_34 rfl (lv_at hl 1 rfl) ?_
        refine lv_icmp_ne (tgt := 53) hx hb nd_M_rename_35 (by decide) (fun hc => ?_) (fun hc => ?_)
        · have hf := mi_if_f hc hf
          refine lv_iinc (k := 4) (v := x4 + (1 : Int32)) (lv' := [(4, .int (x4 + (1 : Int32))), (0, .ref (r 0)), (1, .int x1), (2, .int x2), (3, .int x3)]) hx hb nd_M_rename_53 hl rfl (congrArg (fun z => x4 + z) (by decide : Int32.ofInt 1 = (1 : Int32))) (by decide) rfl (fun ls hl => ?_)
          refine lv_goto (tgt := 10) hx hb nd_M_rename_56 (by decide) ?_
          exact hk10 x1 x2 x3 (x4 + (1 : Int32)) σ hf _ _ _ (lv_sub hl [1, 2, 3, 4, 0] rfl) hP hD hS
        · have hf := mi_if_t hc hf
          refine lv_aload_n hx hb nd_M_rename_38 rfl (lv_at hl 0 rfl) ?_
          refine va_get (D := (dC, dI)) (ci := 6) (v := .ref (r 2)) (C := RX6) (T := TX6) (N := 11) hx hb hB inB6 hown hK hP 0 rfl rfl 2 (by decide) (hB _ lk_631) (fun _ h9 => h9) rfl nd_M_rename_39 ?_
          refine lv_aload_n hx hb nd_M_rename_42 rfl (lv_at hl 0 rfl) ?_
          refine lv_iload_n hx hb nd_M_rename_43 rfl (lv_at hl 3 rfl) ?_
          refine lv_iload hx hb nd_M_rename_44 (lv_at hl 4 rfl) ?_
          obtain ⟨r2, hc, hf⟩ := mi_cp_el hf
          refine ca_i (va_runV (C := "MovedFramesModel") (As := [.int x3, .int x4]) (rest := [.ref (r 2)]) ⟨hx, hb, hml, hown, hB⟩ (kw_M_entry l dC dI r cI cZ _ σ x3 x4 r2 hc) ⟨callB_of 2 hB (gi_ lk_753) rfl rfl rfl (hB _ lk_7) (hB _ lk_750) (by decide +kernel) ⟨Nat.le_of_ble_eq_true rfl, Nat.le_of_ble_eq_true rfl⟩, hB _ lk_752, hB _ ls_39⟩ ⟨bl_, va_recv (ci := 6) (q0 := 0) hK hP rfl rfl, pre_ hP hK hD hN⟩ rfl rfl hl.1 rfl (lv_room (Nat.le_of_ble_eq_true rfl)) nd_M_rename_46 ⟨Nat.zero_le _, Nat.zero_le _⟩) hD hS hA (fun H locs hP hD hS => ?_)
          refine lv_iconst (v := 1) hx hb nd_M_rename_49 (by decide) ?_
          refine lv_iload_n hx hb nd_M_rename_50 rfl (lv_at hl 2 rfl) ?_
          refine lv_iadd hx hb nd_M_rename_51 ?_
          obtain ⟨hg, hf⟩ := mi_gd_el hf
          refine va_iast hx hb hK hP hD hS 2 0 rfl rfl hg nd_M_rename_52 (fun H locs hP hD hS => ?_)
          obtain ⟨σ3, e9, hf⟩ := mi_wr_ex hf
          have hP : va_P (dC, dI) vwCl (wd_M r cI cZ σ3) H := by rw [e9]; exact hP
          have hD : va_D A (wd_M r cI cZ σ3) := by rw [e9]; exact hD
          refine lv_iinc (k := 4) (v := x4 + (1 : Int32)) (lv' := [(4, .int (x4 + (1 : Int32))), (0, .ref (r 0)), (1, .int x1), (2, .int x2), (3, .int x3)]) hx hb nd_M_rename_53 hl rfl (congrArg (fun z => x4 + z) (by decide : Int32.ofInt 1 = (1 : Int32))) (by decide) rfl (fun ls hl => ?_)
          refine lv_goto (tgt := 10) hx hb nd_M_rename_56 (by decide) ?_
          exact hk10 x1 x2 x3 (x4 + (1 : Int32)) σ3 hf _ _ _ (lv_sub hl [1, 2, 3, 4, 0] rfl) hP hD hS
  have L10 : ∀ (k2 : Int32 → Int32 → Int32 → MS → Option (MS)) (hk2 : ∀ (x1 : Int32) (x2 : Int32) (x3 : Int32) (σ : MS), k2 x1 x2 x3 σ = some σ' → bk_ p l e rm_M_rename s m ([.ref (r 0), .int z1, .int z2] : List Value).toArray below meth c (MQ below (qv_ (dC, dI) (wd_M r cI cZ) [(cI, .int), (cZ, .boolean)] A σ') ([.ref (r 0), .int z1, .int z2] : List Value).toArray s 0 0 A) A (dC, dI) (wd_M r cI cZ) 5 2 [(0, .ref (r 0)), (1, .int x1), (2, .int x2), (3, .int x3)] [] σ) (n : Nat) (x1 : Int32) (x2 : Int32) (x3 : Int32) (x4 : Int32) (σ : MS), mm_rename_l10 k2 n x1 x2 x3 x4 σ = some σ' → bk_ p l e rm_M_rename s m ([.ref (r 0), .int z1, .int z2] : List Value).toArray below meth c (MQ below (qv_ (dC, dI) (wd_M r cI cZ) [(cI, .int), (cZ, .boolean)] A σ') ([.ref (r 0), .int z1, .int z2] : List Value).toArray s 0 0 A) A (dC, dI) (wd_M r cI cZ) 5 10 [(0, .ref (r 0)), (1, .int x1), (2, .int x2), (3, .int x3), (4, .int x4)] [] σ := by
    intro k2 hk2 n
    induction n with
    | zero =>
      intro x1 x2 x3 x4 σ hf
      exact mi_no hf
    | succ n ih =>
      intro x1 x2 x3 x4 σ hf
      exact B10 k2 hk2 (mm_rename_l10 k2 n) ih x1 x2 x3 x4 σ hf
  have B2 : ∀ (k2 : Int32 → Int32 → Int32 → MS → Option (MS)) (hk2 : ∀ (x1 : Int32) (x2 : Int32) (x3 : Int32) (σ : MS), k2 x1 x2 x3 σ = some σ' → bk_ p l e rm_M_rename s m ([.ref (r 0), .int z1, .int z2] : List Value).toArray below meth c (MQ below (qv_ (dC, dI) (wd_M r cI cZ) [(cI, .int), (cZ, .boolean)] A σ') ([.ref (r 0), .int z1, .int z2] : List Value).toArray s 0 0 A) A (dC, dI) (wd_M r cI cZ) 5 2 [(0, .ref (r 0)), (1, .int x1), (2, .int x2), (3, .int x3)] [] σ) (x1 : Int32) (x2 : Int32) (x3 : Int32) (σ : MS), mm_rename_b2 k2 x1 x2 x3 σ = some σ' → bk_ p l e rm_M_rename s m ([.ref (r 0), .int z1, .int z2] : List Value).toArray below meth c (MQ below (qv_ (dC, dI) (wd_M r cI cZ) [(cI, .int), (cZ, .boolean)] A σ') ([.ref (r 0), .int z1, .int z2] : List Value).toArray s 0 0 A) A (dC, dI) (wd_M r cI cZ) 5 2 [(0, .ref (r 0)), (1, .int x1), (2, .int x2), (3, .int x3)] [] σ := by
    intro k2 hk2 x1 x2 x3 σ hf ls H locs hl hP hD hS
    unfold mm_rename_b2 at hf
    refine lv_iload_n hx hb nd_M_rename_2 rfl (lv_at hl 3 rfl) ?_
    refine lv_iconst (v := 4) hx hb nd_M_rename_3 (by decide) ?_
    refine lv_icmp_ge (tgt := 65) hx hb nd_M_rename_4 (by decide) (fun hc => ?_) (fun hc => ?_)
    · have hf := mi_if_t hc hf
      exact re_v hx hb hr hlocks (mi_eq hf) hP hK hD hS nd_M_rename_65
    · have hf := mi_if_f hc hf
      refine lv_iconst (v := 0) hx hb nd_M_rename_7 (by decide) ?_
      refine lv_istore (lv' := [(4, .int (0 : Int32)), (0, .ref (r 0)), (1, .int x1), (2, .int x2), (3, .int x3)]) hx hb nd_M_rename_8 hl (by decide) rfl (fun ls hl => ?_)
      exact L10 k2 hk2 FU x1 x2 x3 (0 : Int32) σ hf _ _ _ (lv_sub hl [1, 2, 3, 4, 0] rfl) hP hD hS
  have L2 : ∀ (n : Nat) (x1 : Int32) (x2 : Int32) (x3 : Int32) (σ : MS), mm_rename_l2 n x1 x2 x3 σ = some σ' → bk_ p l e rm_M_rename s m ([.ref (r 0), .int z1, .int z2] : List Value).toArray below meth c (MQ below (qv_ (dC, dI) (wd_M r cI cZ) [(cI, .int), (cZ, .boolean)] A σ') ([.ref (r 0), .int z1, .int z2] : List Value).toArray s 0 0 A) A (dC, dI) (wd_M r cI cZ) 5 2 [(0, .ref (r 0)), (1, .int x1), (2, .int x2), (3, .int x3)] [] σ := by
    intro n
    induction n with
    | zero =>
      intro x1 x2 x3 σ hf
      exact mi_no hf
    | succ n ih =>
      intro x1 x2 x3 σ hf
      exact B2 (mm_rename_l2 n) ih x1 x2 x3 σ hf
  have hH : s.heap = s.heap := rfl
  unfold mm_rename at hf
  refine lv_iconst (v := 0) hx hb nd_M_rename_0 (by decide) ?_
  refine lv_istore_n (lv' := [(3, .int (0 : Int32)), (0, .ref (r 0)), (1, .int z1), (2, .int z2)]) hx hb nd_M_rename_1 rfl hl (by decide) rfl (fun ls hl => ?_)
  exact L2 FU z1 z2 (0 : Int32) σ hf _ _ _ (lv_sub hl [1, 2, 3, 0] rfl) hP hD hS
abbrev rm_M_moveOut : Room := { frames := 4, cells := 0, slots := 0, locals := 90 }
set_option maxHeartbeats 4000000 in
set_option maxRecDepth 100000 in
theorem kw_M_moveOut (l : Launch) (dC : Nat → ClassId) (dI : Nat → Nat → Nat) (r : Nat → Nat) (cI cZ : ClassId) (sz : Nat) (σ : MS) (z1 : Int32) (z2 : Int32) (z3 : Int32) (σ' : MS) (hf : mm_moveOut σ z1 z2 z3 = some σ') : Met l ny_M_moveOut nw_M_moveOut rm_M_moveOut (va_Pc [.ref (r 0), .int z1, .int z2, .int z3] (pr_ (dC, dI) (wd_M r cI cZ) [(cI, .int), (cZ, .boolean)] sz σ)) (qv_ (dC, dI) (wd_M r cI cZ) [(cI, .int), (cZ, .boolean)] (va_A (wd_M r cI cZ σ) sz) σ') 0 0 (va_A (wd_M r cI cZ σ) sz) := by
  refine Met.ofW (cc := nb_M_moveOut) (maxL := 6) (ret := none) (by decide) rfl ?_
  intro p e s m args below meth c s₁ B hml hv
  obtain ⟨rfl, hsz, hP, hK, hD0, hN⟩ := hv
  have hx := B.exec
  have hb := B.bytes
  have hr := B.returns
  have hts := atoms_spec (ws := nw_M_moveOut) B.pre
  have hB : ∀ w ∈ BG, w.before ([.ref (r 0), .int z1, .int z2, .int z3] : List Value).toArray s = true := fun w h => hts w (List.mem_cons_of_mem _ h)
  have hown : s.vm.findClass "MovedFramesModel" = some m.cls := findClass_of_methodNamed B.named
  have hlocks := B.notSynchronized
  subst hsz
  have hD := hD0.self (sz := s.heap.size)
  generalize hAe : va_A (wd_M r cI cZ σ) s.heap.size = A at hD ⊢
  have hA : ∀ q : Nat, s.heap.size ≤ q → A q := fun q h => by rw [← hAe]; exact Or.inr h
  have hS : va_S A s.heap s.heap [] := va_S.rf
  have hl := lv_entry ([.ref (r 0), .int z1, .int z2, .int z3]) (n := 6) (Nat.le_of_ble_eq_true rfl)
  rw [lg_entry_eq]
  generalize (lg_sl ([.ref (r 0), .int z1, .int z2, .int z3]) ++ List.replicate (6 - (lg_sl ([.ref (r 0), .int z1, .int z2, .int z3])).length) Slot.unset).toArray = ls at hl ⊢
  have hl : lv_has ls 6 [(0, .ref (r 0)), (1, .int z1), (2, .int z2), (3, .int z3)] := hl
  have B85 : ∀ (x1 : Int32) (x4 : Int32) (σ : MS), mm_moveOut_b85 x1 x4 σ = some σ' → bk_ p l e rm_M_moveOut s m ([.ref (r 0), .int z1, .int z2, .int z3] : List Value).toArray below meth c (MQ below (qv_ (dC, dI) (wd_M r cI cZ) [(cI, .int), (cZ, .boolean)] A σ') ([.ref (r 0), .int z1, .int z2, .int z3] : List Value).toArray s 0 0 A) A (dC, dI) (wd_M r cI cZ) 6 85 [(0, .ref (r 0)), (1, .int x1), (4, .int x4)] [] σ := by
    intro x1 x4 σ hf ls H locs hl hP hD hS
    unfold mm_moveOut_b85 at hf
    refine lv_aload_n hx hb nd_M_moveOut_85 rfl (lv_at hl 0 rfl) ?_
    refine lv_iload_n hx hb nd_M_moveOut_86 rfl (lv_at hl 1 rfl) ?_
    refine lv_iload hx hb nd_M_moveOut_87 (lv_at hl 2 rfl) ?_
    obtain ⟨σ2, hc, hf⟩ := mi_cv_el hf
    refine ca_v (va_runV (C := "MovedFramesModel") (As := [.int x1, .int x4]) (rest := []) ⟨hx, hb, hml, hown, hB⟩ (kw_M_rename l dC dI r cI cZ _ σ x1 x4 σ2 hc) ⟨callB_of 2 hB (gi_ lk_796) rfl rfl rfl (hB _ lk_7) (hB _ lk_793) (by decide +kernel) ⟨Nat.le_of_ble_eq_true rfl, Nat.le_of_ble_eq_true rfl⟩, hB _ lk_795, hB _ ls_44⟩ ⟨bl_, va_recv (ci := 6) (q0 := 0) hK hP rfl rfl, pre_ hP hK hD hN⟩ rfl rfl hl.1 rfl (lv_room (Nat.le_of_ble_eq_true rfl)) nd_M_moveOut_89 ⟨Nat.zero_le _, Nat.zero_le _⟩) hD hS hA (fun H locs hP hD hS => ?_)
    refine lv_aload_n hx hb nd_M_moveOut_92 rfl (lv_at hl 0 rfl) ?_
    refine lv_aload_n hx hb nd_M_moveOut_93 rfl (lv_at hl 0 rfl) ?_
    refine va_get (D := (dC, dI)) (ci := 6) (v := .int (gm_mv σ2)) (C := RX6) (T := TX6) (N := 11) hx hb hB inB6 hown hK hP 0 rfl rfl 10 (by decide) (hB _ lk_639) (fun _ h9 => h9) rfl nd_M_moveOut_94 ?_
    refine lv_iconst (v := 1) hx hb nd_M_moveOut_97 (by decide) ?_
    refine lv_iadd hx hb nd_M_moveOut_98 ?_
    refine va_put (D := (dC, dI)) (ci := 6) (v := .int ((gm_mv σ2) + (1 : Int32))) (ty := .int) (C := RX6) (T := TX6) (N := 11) hx hb hB inB6 tyX6 tyX6_ok nX6 hown hK hP hD hS 0 rfl rfl 10 (by decide) (hB _ lk_639) (fun _ h9 => h9) rfl (by decide +kernel) rfl rfl (Nat.le_of_ble_eq_true rfl) nd_M_moveOut_99 (fun H locs hP hD hS => ?_)
    obtain ⟨σ3, e9, hf⟩ := mi_wr_ex hf
    have hP : va_P (dC, dI) vwCl (wd_M r cI cZ σ3) H := by rw [e9]; exact hP
    have hD : va_D A (wd_M r cI cZ σ3) := by rw [e9]; exact hD
    exact re_v hx hb hr hlocks (mi_eq hf) hP hK hD hS nd_M_moveOut_102
  have B47 : ∀ (k47 : Int32 → Int32 → Int32 → MS → Option (MS)) (hk47 : ∀ (x1 : Int32) (x4 : Int32) (x5 : Int32) (σ : MS), k47 x1 x4 x5 σ = some σ' → bk_ p l e rm_M_moveOut s m ([.ref (r 0), .int z1, .int z2, .int z3] : List Value).toArray below meth c (MQ below (qv_ (dC, dI) (wd_M r cI cZ) [(cI, .int), (cZ, .boolean)] A σ') ([.ref (r 0), .int z1, .int z2, .int z3] : List Value).toArray s 0 0 A) A (dC, dI) (wd_M r cI cZ) 6 47 [(0, .ref (r 0)), (1, .int x1), (4, .int x4), (5, .int x5)] [] σ) (x1 : Int32) (x4 : Int32) (x5 : Int32) (σ : MS), mm_moveOut_b47 k47 x1 x4 x5 σ = some σ' → bk_ p l e rm_M_moveOut s m ([.ref (r 0), .int z1, .int z2, .int z3] : List Value).toArray below meth c (MQ below (qv_ (dC, dI) (wd_M r cI cZ) [(cI, .int), (cZ, .boolean)] A σ') ([.ref (r 0), .int z1, .int z2, .int z3] : List Value).toArray s 0 0 A) A (dC, dI) (wd_M r cI cZ) 6 47 [(0, .ref (r 0)), (1, .int x1), (4, .int x4), (5, .int x5)] [] σ := by
    intro k47 hk47 x1 x4 x5 σ hf ls H locs hl hP hD hS
    unfold mm_moveOut_b47 at hf
    refine lv_iload hx hb nd_M_moveOut_47 (lv_at hl 3 rfl) ?_
    refine lv_bipush (v := 16) hx hb nd_M_moveOut_49 (by decide) ?_
    refine lv_icmp_ge (tgt := 85) hx hb nd_M_moveOut_51 (by decide) (fun hc => ?_) (fun hc => ?_)
    · have hf := mi_if_t hc hf
      exact B85 x1 x4 σ hf _ _ _ (lv_sub hl [0, 1, 2] rfl) hP hD hS
    · have hf := mi_if_f hc hf
      refine lv_aload_n hx hb nd_M_moveOut_54 rfl (lv_at hl 0 rfl) ?_
      refine va_get (D := (dC, dI)) (ci := 6) (v := .ref (r 2)) (C := RX6) (T := TX6) (N := 11) hx hb hB inB6 hown hK hP 0 rfl rfl 2 (by decide) (hB _ lk_631) (fun _ h9 => h9) rfl nd_M_moveOut_55 ?_
      refine lv_bipush (v := 16) hx hb nd_M_moveOut_58 (by decide) ?_
      refine lv_iload hx hb nd_M_moveOut_60 (lv_at hl 2 rfl) ?_
      refine lv_imul hx hb nd_M_moveOut_62 ?_
      refine lv_iload hx hb nd_M_moveOut_63 (lv_at hl 3 rfl) ?_
      refine lv_iadd hx hb nd_M_moveOut_65 ?_
      refine lv_aload_n hx hb nd_M_moveOut_66 rfl (lv_at hl 0 rfl) ?_
      refine va_get (D := (dC, dI)) (ci := 6) (v := .ref (r 2)) (C := RX6) (T := TX6) (N := 11) hx hb hB inB6 hown hK hP 0 rfl rfl 2 (by decide) (hB _ lk_631) (fun _ h9 => h9) rfl nd_M_moveOut_67 ?_
      refine lv_bipush (v := 16) hx hb nd_M_moveOut_70 (by decide) ?_
      refine lv_iload_n hx hb nd_M_moveOut_72 rfl (lv_at hl 1 rfl) ?_
      refine lv_imul hx hb nd_M_moveOut_73 ?_
      refine lv_iload hx hb nd_M_moveOut_74 (lv_at hl 3 rfl) ?_
      refine lv_iadd hx hb nd_M_moveOut_76 ?_
      obtain ⟨hg, hf⟩ := mi_gd_el hf
      refine va_iald hx hb hK hP 2 0 rfl rfl hg nd_M_moveOut_77 ?_
      obtain ⟨hg, hf⟩ := mi_gd_el hf
      refine va_iast hx hb hK hP hD hS 2 0 rfl rfl hg nd_M_moveOut_78 (fun H locs hP hD hS => ?_)
      obtain ⟨σ4, e9, hf⟩ := mi_wr_ex hf
      have hP : va_P (dC, dI) vwCl (wd_M r cI cZ σ4) H := by rw [e9]; exact hP
      have hD : va_D A (wd_M r cI cZ σ4) := by rw [e9]; exact hD
      refine lv_iinc (k := 3) (v := x5 + (1 : Int32)) (lv' := [(5, .int (x5 + (1 : Int32))), (0, .ref (r 0)), (1, .int x1), (4, .int x4)]) hx hb nd_M_moveOut_79 hl rfl (congrArg (fun z => x5 + z) (by decide : Int32.ofInt 1 = (1 : Int32))) (by decide) rfl (fun ls hl => ?_)
      refine lv_goto (tgt := 47) hx hb nd_M_moveOut_82 (by decide) ?_
      exact hk47 x1 x4 (x5 + (1 : Int32)) σ4 hf _ _ _ (lv_sub hl [1, 2, 3, 0] rfl) hP hD hS
  have L47 : ∀ (n : Nat) (x1 : Int32) (x4 : Int32) (x5 : Int32) (σ : MS), mm_moveOut_l47 n x1 x4 x5 σ = some σ' → bk_ p l e rm_M_moveOut s m ([.ref (r 0), .int z1, .int z2, .int z3] : List Value).toArray below meth c (MQ below (qv_ (dC, dI) (wd_M r cI cZ) [(cI, .int), (cZ, .boolean)] A σ') ([.ref (r 0), .int z1, .int z2, .int z3] : List Value).toArray s 0 0 A) A (dC, dI) (wd_M r cI cZ) 6 47 [(0, .ref (r 0)), (1, .int x1), (4, .int x4), (5, .int x5)] [] σ := by
    intro n
    induction n with
    | zero =>
      intro x1 x4 x5 σ hf
      exact mi_no hf
    | succ n ih =>
      intro x1 x4 x5 σ hf
      exact B47 (mm_moveOut_l47 n) ih x1 x4 x5 σ hf
  have B36 : ∀ (x1 : Int32) (x4 : Int32) (σ : MS), mm_moveOut_b36 x1 x4 σ = some σ' → bk_ p l e rm_M_moveOut s m ([.ref (r 0), .int z1, .int z2, .int z3] : List Value).toArray below meth c (MQ below (qv_ (dC, dI) (wd_M r cI cZ) [(cI, .int), (cZ, .boolean)] A σ') ([.ref (r 0), .int z1, .int z2, .int z3] : List Value).toArray s 0 0 A) A (dC, dI) (wd_M r cI cZ) 6 36 [(0, .ref (r 0)), (1, .int x1), (4, .int x4)] [] σ := by
    intro x1 x4 σ hf ls H locs hl hP hD hS
    unfold mm_moveOut_b36 at hf
    refine lv_aload_n hx hb nd_M_moveOut_36 rfl (lv_at hl 0 rfl) ?_
    refine va_get (D := (dC, dI)) (ci := 6) (v := .ref (r 1)) (C := RX6) (T := TX6) (N := 11) hx hb hB inB6 hown hK hP 0 rfl rfl 1 (by decide) (hB _ lk_630) (fun _ h9 => h9) rfl nd_M_moveOut_37 ?_
    refine lv_iload hx hb nd_M_moveOut_40 (lv_at hl 2 rfl) ?_
    refine lv_iconst (v := 4) hx hb nd_M_moveOut_42 (by decide) ?_
    obtain ⟨hg, hf⟩ := mi_gd_el hf
    refine va_iast hx hb hK hP hD hS 1 0 rfl rfl hg nd_M_moveOut_43 (fun H locs hP hD hS => ?_)
    obtain ⟨σ1, e9, hf⟩ := mi_wr_ex hf
    have hP : va_P (dC, dI) vwCl (wd_M r cI cZ σ1) H := by rw [e9]; exact hP
    have hD : va_D A (wd_M r cI cZ σ1) := by rw [e9]; exact hD
    refine lv_iconst (v := 0) hx hb nd_M_moveOut_44 (by decide) ?_
    refine lv_istore (lv' := [(5, .int (0 : Int32)), (0, .ref (r 0)), (1, .int x1), (4, .int x4)]) hx hb nd_M_moveOut_45 hl (by decide) rfl (fun ls hl => ?_)
    exact L47 FU x1 x4 (0 : Int32) σ1 hf _ _ _ (lv_sub hl [1, 2, 3, 0] rfl) hP hD hS
  have B3 : ∀ (k3 : Int32 → Int32 → Int32 → Int32 → MS → Option (MS)) (hk3 : ∀ (x1 : Int32) (x2 : Int32) (x3 : Int32) (x4 : Int32) (σ : MS), k3 x1 x2 x3 x4 σ = some σ' → bk_ p l e rm_M_moveOut s m ([.ref (r 0), .int z1, .int z2, .int z3] : List Value).toArray below meth c (MQ below (qv_ (dC, dI) (wd_M r cI cZ) [(cI, .int), (cZ, .boolean)] A σ') ([.ref (r 0), .int z1, .int z2, .int z3] : List Value).toArray s 0 0 A) A (dC, dI) (wd_M r cI cZ) 6 3 [(0, .ref (r 0)), (1, .int x1), (2, .int x2), (3, .int x3), (4, .int x4)] [] σ) (x1 : Int32) (x2 : Int32) (x3 : Int32) (x4 : Int32) (σ : MS), mm_moveOut_b3 k3 x1 x2 x3 x4 σ = some σ' → bk_ p l e rm_M_moveOut s m ([.ref (r 0), .int z1, .int z2, .int z3] : List Value).toArray below meth c (MQ below (qv_ (dC, dI) (wd_M r cI cZ) [(cI, .int), (cZ, .boolean)] A σ') ([.ref (r 0), .int z1, .int z2, .int z3] : List Value).toArray s 0 0 A) A (dC, dI) (wd_M r cI cZ) 6 3 [(0, .ref (r 0)), (1, .int x1), (2, .int x2), (3, .int x3), (4, .int x4)] [] σ := by
    intro k3 hk3 x1 x2 x3 x4 σ hf ls H locs hl hP hD hS
    unfold mm_moveOut_b3 at hf
    refine lv_aload_n hx hb nd_M_moveOut_3 rfl (lv_at hl 0 rfl) ?_
    refine va_get (D := (dC, dI)) (ci := 6) (v := .ref (r 1)) (C := RX6) (T := TX6) (N := 11) hx hb hB inB6 hown hK hP 0 rfl rfl 1 (by decide) (hB _ lk_630) (fun _ h9 => h9) rfl nd_M_moveOut_4 ?_
    refine lv_iload hx hb nd_M_moveOut_7 (lv_at hl 4 rfl) ?_
    obtain ⟨hg, hf⟩ := mi_gd_el hf
    refine va_iald hx hb hK hP 1 0 rfl rfl hg nd_M_moveOut_9 ?_
    refine lv_if_ne (tgt := 27) hx hb nd_M_moveOut_10 (by decide) (fun hc => ?_) (fun hc => ?_)
    · have hf := mi_if_f hc hf
      refine lv_iload hx hb nd_M_moveOut_27 (lv_at hl 4 rfl) ?_
      refine lv_iconst (v := 1) hx hb nd_M_moveOut_29 (by decide) ?_
      refine lv_iadd hx hb nd_M_moveOut_30 ?_
      refine lv_istore (lv' := [(4, .int (x4 + (1 : Int32))), (0, .ref (r 0)), (1, .int x1), (2, .int x2), (3, .int x3)]) hx hb nd_M_moveOut_31 hl (by decide) rfl (fun ls hl => ?_)
      refine lv_goto (tgt := 3) hx hb nd_M_moveOut_33 (by decide) ?_
      exact hk3 x1 x2 x3 (x4 + (1 : Int32)) σ hf _ _ _ (lv_sub hl [1, 2, 3, 4, 0] rfl) hP hD hS
    · have hf := mi_if_t hc hf
      refine lv_iload hx hb nd_M_moveOut_13 (lv_at hl 4 rfl) ?_
      refine lv_iload_n hx hb nd_M_moveOut_15 rfl (lv_at hl 2 rfl) ?_
      refine lv_icmp_lt (tgt := 36) hx hb nd_M_moveOut_16 (by decide) (fun hc => ?_) (fun hc => ?_)
      · have hf := mi_if_t hc hf
        exact B36 x1 x4 σ hf _ _ _ (lv_sub hl [0, 1, 4] rfl) hP hD hS
      · have hf := mi_if_f hc hf
        refine lv_iload hx hb nd_M_moveOut_19 (lv_at hl 4 rfl) ?_
        refine lv_iload_n hx hb nd_M_moveOut_21 rfl (lv_at hl 2 rfl) ?_
        refine lv_iload_n hx hb nd_M_moveOut_22 rfl (lv_at hl 3 rfl) ?_
        refine lv_iadd hx hb nd_M_moveOut_23 ?_
        refine lv_icmp_ge (tgt := 36) hx hb nd_M_moveOut_24 (by decide) (fun hc => ?_) (fun hc => ?_)
        · have hf := mi_if_t hc hf
          exact B36 x1 x4 σ hf _ _ _ (lv_sub hl [0, 1, 4] rfl) hP hD hS
        · have hf := mi_if_f hc hf
          refine lv_iload hx hb nd_M_moveOut_27 (lv_at hl 4 rfl) ?_
          refine lv_iconst (v := 1) hx hb nd_M_moveOut_29 (by decide) ?_
          refine lv_iadd hx hb nd_M_moveOut_30 ?_
          refine lv_istore (lv' := [(4, .int (x4 + (1 : Int32))), (0, .ref (r 0)), (1, .int x1), (2, .int x2), (3, .int x3)]) hx hb nd_M_moveOut_31 hl (by decide) rfl (fun ls hl => ?_)
          refine lv_goto (tgt := 3) hx hb nd_M_moveOut_33 (by decide) ?_
          exact hk3 x1 x2 x3 (x4 + (1 : Int32)) σ hf _ _ _ (lv_sub hl [1, 2, 3, 4, 0] rfl) hP hD hS
  have L3 : ∀ (n : Nat) (x1 : Int32) (x2 : Int32) (x3 : Int32) (x4 : Int32) (σ : MS), mm_moveOut_l3 n x1 x2 x3 x4 σ = some σ' → bk_ p l e rm_M_moveOut s m ([.ref (r 0), .int z1, .int z2, .int z3] : List Value).toArray below meth c (MQ below (qv_ (dC, dI) (wd_M r cI cZ) [(cI, .int), (cZ, .boolean)] A σ') ([.ref (r 0), .int z1, .int z2, .int z3] : List Value).toArray s 0 0 A) A (dC, dI) (wd_M r cI cZ) 6 3 [(0, .ref (r 0)), (1, .int x1), (2, .int x2), (3, .int x3), (4, .int x4)] [] σ := by
    intro n
    induction n with
    | zero =>
      intro x1 x2 x3 x4 σ hf
      exact mi_no hf
    | succ n ih =>
      intro x1 x2 x3 x4 σ hf
      exact B3 (mm_moveOut_l3 n) ih x1 x2 x3 x4 σ hf
  have hH : s.heap = s.heap := rfl
  unfold mm_moveOut at hf
  refine lv_iconst (v := 0) hx hb nd_M_moveOut_0 (by decide) ?_
  refine lv_istore (lv' := [(4, .int (0 : Int32)), (0, .ref (r 0)), (1, .int z1), (2, .int z2), (3, .int z3)]) hx hb nd_M_moveOut_1 hl (by decide) rfl (fun ls hl => ?_)
  exact L3 FU z1 z2 z3 (0 : Int32) σ hf _ _ _ (lv_sub hl [1, 2, 3, 4, 0] rfl) hP hD hS
abbrev rm_M_contig : Room := { frames := 5, cells := 0, slots := 0, locals := 115 }
set_option maxHeartbeats 4000000 in
set_option maxRecDepth 100000 in
theorem kw_M_contig (l : Launch) (dC : Nat → ClassId) (dI : Nat → Nat → Nat) (r : Nat → Nat) (cI cZ : ClassId) (sz : Nat) (σ : MS) (z1 : Int32) (v : Int32) (σ' : MS) (hf : mm_contig σ z1 = some (v, σ')) : Met l ny_M_contig nw_M_contig rm_M_contig (va_Pc [.ref (r 0), .int z1] (pr_ (dC, dI) (wd_M r cI cZ) [(cI, .int), (cZ, .boolean)] sz σ)) (qi_ (dC, dI) (wd_M r cI cZ) [(cI, .int), (cZ, .boolean)] (va_A (wd_M r cI cZ σ) sz) v σ') 0 0 (va_A (wd_M r cI cZ σ) sz) := by
  refine Met.ofW (cc := nb_M_contig) (maxL := 6) (ret := (some .int)) (by decide) rfl ?_
  intro p e s m args below meth c s₁ B hml hv
  obtain ⟨rfl, hsz, hP, hK, hD0, hN⟩ := hv
  have hx := B.exec
  have hb := B.bytes
  have hr := B.returns
  have hts := atoms_spec (ws := nw_M_contig) B.pre
  have hB : ∀ w ∈ BG, w.before ([.ref (r 0), .int z1] : List Value).toArray s = true := fun w h => hts w (List.mem_cons_of_mem _ h)
  have hown : s.vm.findClass "MovedFramesModel" = some m.cls := findClass_of_methodNamed B.named
  have hlocks := B.notSynchronized
  subst hsz
  have hD := hD0.self (sz := s.heap.size)
  generalize hAe : va_A (wd_M r cI cZ σ) s.heap.size = A at hD ⊢
  have hA : ∀ q : Nat, s.heap.size ≤ q → A q := fun q h => by rw [← hAe]; exact Or.inr h
  have hS : va_S A s.heap s.heap [] := va_S.rf
  have hl := lv_entry ([.ref (r 0), .int z1]) (n := 6) (Nat.le_of_ble_eq_true rfl)
  rw [lg_entry_eq]
  generalize (lg_sl ([.ref (r 0), .int z1]) ++ List.replicate (6 - (lg_sl ([.ref (r 0), .int z1])).length) Slot.unset).toArray = ls at hl ⊢
  have hl : lv_has ls 6 [(0, .ref (r 0)), (1, .int z1)] := hl
  have B134 : ∀ (x3 : Int32) (x4 : Int32) (σ : MS), mm_contig_b134 x3 x4 σ = some (v, σ') → bk_ p l e rm_M_contig s m ([.ref (r 0), .int z1] : List Value).toArray below meth c (MQ below (qi_ (dC, dI) (wd_M r cI cZ) [(cI, .int), (cZ, .boolean)] A v σ') ([.ref (r 0), .int z1] : List Value).toArray s 0 0 A) A (dC, dI) (wd_M r cI cZ) 6 134 [(0, .ref (r 0)), (3, .int x3), (4, .int x4)] [] σ := by
    intro x3 x4 σ hf ls H locs hl hP hD hS
    unfold mm_contig_b134 at hf
    refine lv_aload_n hx hb nd_M_contig_134 rfl (lv_at hl 0 rfl) ?_
    refine va_get (D := (dC, dI)) (ci := 6) (v := .ref (r 5)) (C := RX6) (T := TX6) (N := 11) hx hb hB inB6 hown hK hP 0 rfl rfl 5 (by decide) (hB _ lk_634) (fun _ h9 => h9) rfl nd_M_contig_135 ?_
    refine lv_iload hx hb nd_M_contig_138 (lv_at hl 2 rfl) ?_
    refine lv_iload_n hx hb nd_M_contig_140 rfl (lv_at hl 1 rfl) ?_
    obtain ⟨hg, hf⟩ := mi_gd_el hf
    refine va_iast hx hb hK hP hD hS 5 0 rfl rfl hg nd_M_contig_141 (fun H locs hP hD hS => ?_)
    obtain ⟨σ4, e9, hf⟩ := mi_wr_ex hf
    have hP : va_P (dC, dI) vwCl (wd_M r cI cZ σ4) H := by rw [e9]; exact hP
    have hD : va_D A (wd_M r cI cZ σ4) := by rw [e9]; exact hD
    refine lv_iload hx hb nd_M_contig_142 (lv_at hl 2 rfl) ?_
    exact re_i hx hb hr hlocks ((mi_pr hf).1) ((mi_pr hf).2) hP hK hD hS nd_M_contig_144
  have B121 : ∀ (k92 : Int32 → Int32 → Int32 → MS → Option (Int32 × MS)) (hk92 : ∀ (x3 : Int32) (x4 : Int32) (x5 : Int32) (σ : MS), k92 x3 x4 x5 σ = some (v, σ') → bk_ p l e rm_M_contig s m ([.ref (r 0), .int z1] : List Value).toArray below meth c (MQ below (qi_ (dC, dI) (wd_M r cI cZ) [(cI, .int), (cZ, .boolean)] A v σ') ([.ref (r 0), .int z1] : List Value).toArray s 0 0 A) A (dC, dI) (wd_M r cI cZ) 6 92 [(0, .ref (r 0)), (3, .int x3), (4, .int x4), (5, .int x5)] [] σ) (x3 : Int32) (x4 : Int32) (x5 : Int32) (σ : MS), mm_contig_b121 k92 x3 x4 x5 σ = some (v, σ') → bk_ p l e rm_M_contig s m ([.ref (r 0), .int z1] : List Value).toArray below meth c (MQ below (qi_ (dC, dI) (wd_M r cI cZ) [(cI, .int), (cZ, .boolean)] A v σ') ([.ref (r 0), .int z1] : List Value).toArray s 0 0 A) A (dC, dI) (wd_M r cI cZ) 6 121 [(0, .ref (r 0)), (3, .int x3), (4, .int x4), (5, .int x5)] [] σ := by
    intro k92 hk92 x3 x4 x5 σ hf ls H locs hl hP hD hS
    unfold mm_contig_b121 at hf
    refine lv_aload_n hx hb nd_M_contig_121 rfl (lv_at hl 0 rfl) ?_
    refine lv_iload hx hb nd_M_contig_122 (lv_at hl 3 rfl) ?_
    refine lv_iconst (v := 5) hx hb nd_M_contig_124 (by decide) ?_
    obtain ⟨σ5, hc, hf⟩ := mi_cv_el hf
    refine ca_v (va_runV (C := "MovedFramesModel") (As := [.int x5, .int (5 : Int32)]) (rest := []) ⟨hx, hb, hml, hown, hB⟩ (kw_M_own l dC dI r cI cZ _ σ x5 (5 : Int32) σ5 hc) ⟨callB_of 2 hB (gi_ lk_701) rfl rfl rfl (hB _ lk_7) (hB _ lk_698) (by decide +kernel) ⟨Nat.le_of_ble_eq_true rfl, Nat.le_of_ble_eq_true rfl⟩, hB _ lk_700, hB _ ls_31⟩ ⟨bl_, va_recv (ci := 6) (q0 := 0) hK hP rfl rfl, pre_ hP hK hD hN⟩ rfl rfl hl.1 rfl (lv_room (Nat.le_of_ble_eq_true rfl)) nd_M_contig_125 ⟨Nat.zero_le _, Nat.zero_le _⟩) hD hS hA (fun H locs hP hD hS => ?_)
    refine lv_iinc (k := 3) (v := x5 + (1 : Int32)) (lv' := [(5, .int (x5 + (1 : Int32))), (0, .ref (r 0)), (3, .int x3), (4, .int x4)]) hx hb nd_M_contig_128 hl rfl (congrArg (fun z => x5 + z) (by decide : Int32.ofInt 1 = (1 : Int32))) (by decide) rfl (fun ls hl => ?_)
    refine lv_goto (tgt := 92) hx hb nd_M_contig_131 (by decide) ?_
    exact hk92 x3 x4 (x5 + (1 : Int32)) σ5 hf _ _ _ (lv_sub hl [1, 2, 3, 0] rfl) hP hD hS
  have B92 : ∀ (k92 : Int32 → Int32 → Int32 → MS → Option (Int32 × MS)) (hk92 : ∀ (x3 : Int32) (x4 : Int32) (x5 : Int32) (σ : MS), k92 x3 x4 x5 σ = some (v, σ') → bk_ p l e rm_M_contig s m ([.ref (r 0), .int z1] : List Value).toArray below meth c (MQ below (qi_ (dC, dI) (wd_M r cI cZ) [(cI, .int), (cZ, .boolean)] A v σ') ([.ref (r 0), .int z1] : List Value).toArray s 0 0 A) A (dC, dI) (wd_M r cI cZ) 6 92 [(0, .ref (r 0)), (3, .int x3), (4, .int x4), (5, .int x5)] [] σ) (x3 : Int32) (x4 : Int32) (x5 : Int32) (σ : MS), mm_contig_b92 k92 x3 x4 x5 σ = some (v, σ') → bk_ p l e rm_M_contig s m ([.ref (r 0), .int z1] : List Value).toArray below meth c (MQ below (qi_ (dC, dI) (wd_M r cI cZ) [(cI, .int), (cZ, .boolean)] A v σ') ([.ref (r 0), .int z1] : List Value).toArray s 0 0 A) A (dC, dI) (wd_M r cI cZ) 6 92 [(0, .ref (r 0)), (3, .int x3), (4, .int x4), (5, .int x5)] [] σ := by
    intro k92 hk92 x3 x4 x5 σ hf ls H locs hl hP hD hS
    unfold mm_contig_b92 at hf
    refine lv_iload hx hb nd_M_contig_92 (lv_at hl 3 rfl) ?_
    refine lv_iload hx hb nd_M_contig_94 (lv_at hl 2 rfl) ?_
    refine lv_iload_n hx hb nd_M_contig_96 rfl (lv_at hl 1 rfl) ?_
    refine lv_iadd hx hb nd_M_contig_97 ?_
    refine lv_icmp_ge (tgt := 134) hx hb nd_M_contig_98 (by decide) (fun hc => ?_) (fun hc => ?_)
    · have hf := mi_if_t hc hf
      exact B134 x3 x4 σ hf _ _ _ (lv_sub hl [0, 1, 2] rfl) hP hD hS
    · have hf := mi_if_f hc hf
      refine lv_aload_n hx hb nd_M_contig_101 rfl (lv_at hl 0 rfl) ?_
      refine va_get (D := (dC, dI)) (ci := 6) (v := .ref (r 1)) (C := RX6) (T := TX6) (N := 11) hx hb hB inB6 hown hK hP 0 rfl rfl 1 (by decide) (hB _ lk_630) (fun _ h9 => h9) rfl nd_M_contig_102 ?_
      refine lv_iload hx hb nd_M_contig_105 (lv_at hl 3 rfl) ?_
      obtain ⟨hg, hf⟩ := mi_gd_el hf
      refine va_iald hx hb hK hP 1 0 rfl rfl hg nd_M_contig_107 ?_
      refine lv_iconst (v := 4) hx hb nd_M_contig_108 (by decide) ?_
      refine lv_icmp_ne (tgt := 121) hx hb nd_M_contig_109 (by decide) (fun hc => ?_) (fun hc => ?_)
      · have hf := mi_if_f hc hf
        exact B121 k92 hk92 x3 x4 x5 σ hf _ _ _ (lv_sub hl [0, 1, 2, 3] rfl) hP hD hS
      · have hf := mi_if_t hc hf
        refine lv_aload_n hx hb nd_M_contig_112 rfl (lv_at hl 0 rfl) ?_
        refine lv_iload hx hb nd_M_contig_113 (lv_at hl 3 rfl) ?_
        refine lv_iload hx hb nd_M_contig_115 (lv_at hl 2 rfl) ?_
        refine lv_iload_n hx hb nd_M_contig_117 rfl (lv_at hl 1 rfl) ?_
        obtain ⟨σ6, hc, hf⟩ := mi_cv_el hf
        refine ca_v (va_runV (C := "MovedFramesModel") (As := [.int x5, .int x4, .int x3]) (rest := []) ⟨hx, hb, hml, hown, hB⟩ (kw_M_moveOut l dC dI r cI cZ _ σ x5 x4 x3 σ6 hc) ⟨callB_of 3 hB (gi_ lk_792) rfl rfl rfl (hB _ lk_7) (hB _ lk_789) (by decide +kernel) ⟨Nat.le_of_ble_eq_true rfl, Nat.le_of_ble_eq_true rfl⟩, hB _ lk_791, hB _ ls_43⟩ ⟨bl_, va_recv (ci := 6) (q0 := 0) hK hP rfl rfl, pre_ hP hK hD hN⟩ rfl rfl hl.1 rfl (lv_room (Nat.le_of_ble_eq_true rfl)) nd_M_contig_118 ⟨Nat.zero_le _, Nat.zero_le _⟩) hD hS hA (fun H locs hP hD hS => ?_)
        refine lv_aload_n hx hb nd_M_contig_121 rfl (lv_at hl 0 rfl) ?_
        refine lv_iload hx hb nd_M_contig_122 (lv_at hl 3 rfl) ?_
        refine lv_iconst (v := 5) hx hb nd_M_contig_124 (by decide) ?_
        obtain ⟨σ7, hc, hf⟩ := mi_cv_el hf
        refine ca_v (va_runV (C := "MovedFramesModel") (As := [.int x5, .int (5 : Int32)]) (rest := []) ⟨hx, hb, hml, hown, hB⟩ (kw_M_own l dC dI r cI cZ _ σ6 x5 (5 : Int32) σ7 hc) ⟨callB_of 2 hB (gi_ lk_701) rfl rfl rfl (hB _ lk_7) (hB _ lk_698) (by decide +kernel) ⟨Nat.le_of_ble_eq_true rfl, Nat.le_of_ble_eq_true rfl⟩, hB _ lk_700, hB _ ls_31⟩ ⟨bl_, va_recv (ci := 6) (q0 := 0) hK hP rfl rfl, pre_ hP hK hD hN⟩ rfl rfl hl.1 rfl (lv_room (Nat.le_of_ble_eq_true rfl)) nd_M_contig_125 ⟨Nat.zero_le _, Nat.zero_le _⟩) hD hS hA (fun H locs hP hD hS => ?_)
        refine lv_iinc (k := 3) (v := x5 + (1 : Int32)) (lv' := [(5, .int (x5 + (1 : Int32))), (0, .ref (r 0)), (3, .int x3), (4, .int x4)]) hx hb nd_M_contig_128 hl rfl (congrArg (fun z => x5 + z) (by decide : Int32.ofInt 1 = (1 : Int32))) (by decide) rfl (fun ls hl => ?_)
        refine lv_goto (tgt := 92) hx hb nd_M_contig_131 (by decide) ?_
        exact hk92 x3 x4 (x5 + (1 : Int32)) σ7 hf _ _ _ (lv_sub hl [1, 2, 3, 0] rfl) hP hD hS
  have L92 : ∀ (n : Nat) (x3 : Int32) (x4 : Int32) (x5 : Int32) (σ : MS), mm_contig_l92 n x3 x4 x5 σ = some (v, σ') → bk_ p l e rm_M_contig s m ([.ref (r 0), .int z1] : List Value).toArray below meth c (MQ below (qi_ (dC, dI) (wd_M r cI cZ) [(cI, .int), (cZ, .boolean)] A v σ') ([.ref (r 0), .int z1] : List Value).toArray s 0 0 A) A (dC, dI) (wd_M r cI cZ) 6 92 [(0, .ref (r 0)), (3, .int x3), (4, .int x4), (5, .int x5)] [] σ := by
    intro n
    induction n with
    | zero =>
      intro x3 x4 x5 σ hf
      exact mi_no hf
    | succ n ih =>
      intro x3 x4 x5 σ hf
      exact B92 (mm_contig_l92 n) ih x3 x4 x5 σ hf
  have B80 : ∀ (x3 : Int32) (x4 : Int32) (y1 : Int32) (σ : MS), mm_contig_b80 x3 x4 y1 σ = some (v, σ') → bk_ p l e rm_M_contig s m ([.ref (r 0), .int z1] : List Value).toArray below meth c (MQ below (qi_ (dC, dI) (wd_M r cI cZ) [(cI, .int), (cZ, .boolean)] A v σ') ([.ref (r 0), .int z1] : List Value).toArray s 0 0 A) A (dC, dI) (wd_M r cI cZ) 6 80 [(0, .ref (r 0)), (3, .int x3), (4, .int x4)] [.int y1, .ref (r 0)] σ := by
    intro x3 x4 y1 σ hf ls H locs hl hP hD hS
    unfold mm_contig_b80 at hf
    obtain ⟨r3, σ2, hc, hf⟩ := mi_cw_el hf
    refine ca_i (va_runV (C := "MovedFramesModel") (As := [.int y1]) (rest := []) ⟨hx, hb, hml, hown, hB⟩ (kw_M_throwsBy l dC dI r cI cZ _ σ y1 r3 σ2 hc) ⟨callB_of 1 hB (gi_ lk_681) rfl rfl rfl (hB _ lk_7) (hB _ lk_678) (by decide +kernel) ⟨Nat.le_of_ble_eq_true rfl, Nat.le_of_ble_eq_true rfl⟩, hB _ lk_680, hB _ ls_26⟩ ⟨bl_, va_recv (ci := 6) (q0 := 0) hK hP rfl rfl, pre_ hP hK hD hN⟩ rfl rfl hl.1 rfl (lv_room (Nat.le_of_ble_eq_true rfl)) nd_M_contig_80 ⟨Nat.zero_le _, Nat.zero_le _⟩) hD hS hA (fun H locs hP hD hS => ?_)
    refine lv_if_eq (tgt := 88) hx hb nd_M_contig_83 (by decide) (fun hc => ?_) (fun hc => ?_)
    · have hf := mi_if_t hc hf
      refine lv_iload hx hb nd_M_contig_88 (lv_at hl 2 rfl) ?_
      refine lv_istore (lv' := [(5, .int x4), (0, .ref (r 0)), (3, .int x3), (4, .int x4)]) hx hb nd_M_contig_90 hl (by decide) rfl (fun ls hl => ?_)
      exact L92 FU x3 x4 x4 σ2 hf _ _ _ (lv_sub hl [1, 2, 3, 0] rfl) hP hD hS
    · have hf := mi_if_f hc hf
      refine lv_iconst (v := 0) hx hb nd_M_contig_86 (by decide) ?_
      exact re_i hx hb hr hlocks ((mi_pr hf).1) ((mi_pr hf).2) hP hK hD hS nd_M_contig_87
  have B61 : ∀ (x2 : Int32) (x3 : Int32) (x4 : Int32) (σ : MS), mm_contig_b61 x2 x3 x4 σ = some (v, σ') → bk_ p l e rm_M_contig s m ([.ref (r 0), .int z1] : List Value).toArray below meth c (MQ below (qi_ (dC, dI) (wd_M r cI cZ) [(cI, .int), (cZ, .boolean)] A v σ') ([.ref (r 0), .int z1] : List Value).toArray s 0 0 A) A (dC, dI) (wd_M r cI cZ) 6 61 [(0, .ref (r 0)), (2, .int x2), (3, .int x3), (4, .int x4)] [] σ := by
    intro x2 x3 x4 σ hf ls H locs hl hP hD hS
    unfold mm_contig_b61 at hf
    refine lv_aload_n hx hb nd_M_contig_61 rfl (lv_at hl 0 rfl) ?_
    refine lv_iload_n hx hb nd_M_contig_62 rfl (lv_at hl 1 rfl) ?_
    refine lv_if_ne (tgt := 70) hx hb nd_M_contig_63 (by decide) (fun hc => ?_) (fun hc => ?_)
    · have hf := mi_if_f hc hf
      refine lv_iload hx hb nd_M_contig_70 (lv_at hl 3 rfl) ?_
      refine lv_if_ge (tgt := 79) hx hb nd_M_contig_72 (by decide) (fun hc => ?_) (fun hc => ?_)
      · have hf := mi_if_t hc hf
        refine lv_iconst (v := 0) hx hb nd_M_contig_79 (by decide) ?_
        exact B80 x3 x4 (0 : Int32) σ hf _ _ _ (lv_sub hl [0, 2, 3] rfl) hP hD hS
      · have hf := mi_if_f hc hf
        refine lv_iconst (v := 2) hx hb nd_M_contig_75 (by decide) ?_
        refine lv_goto (tgt := 80) hx hb nd_M_contig_76 (by decide) ?_
        exact B80 x3 x4 (2 : Int32) σ hf _ _ _ (lv_sub hl [0, 2, 3] rfl) hP hD hS
    · have hf := mi_if_t hc hf
      refine lv_iconst (v := 1) hx hb nd_M_contig_66 (by decide) ?_
      refine lv_goto (tgt := 80) hx hb nd_M_contig_67 (by decide) ?_
      exact B80 x3 x4 (1 : Int32) σ hf _ _ _ (lv_sub hl [0, 2, 3] rfl) hP hD hS
  have B50 : ∀ (k28 : Int32 → Int32 → Int32 → Int32 → MS → Option (Int32 × MS)) (hk28 : ∀ (x2 : Int32) (x3 : Int32) (x4 : Int32) (x5 : Int32) (σ : MS), k28 x2 x3 x4 x5 σ = some (v, σ') → bk_ p l e rm_M_contig s m ([.ref (r 0), .int z1] : List Value).toArray below meth c (MQ below (qi_ (dC, dI) (wd_M r cI cZ) [(cI, .int), (cZ, .boolean)] A v σ') ([.ref (r 0), .int z1] : List Value).toArray s 0 0 A) A (dC, dI) (wd_M r cI cZ) 6 28 [(0, .ref (r 0)), (2, .int x2), (3, .int x3), (4, .int x4), (5, .int x5)] [] σ) (x2 : Int32) (x3 : Int32) (x5 : Int32) (y0 : Int32) (σ : MS), mm_contig_b50 k28 x2 x3 x5 y0 σ = some (v, σ') → bk_ p l e rm_M_contig s m ([.ref (r 0), .int z1] : List Value).toArray below meth c (MQ below (qi_ (dC, dI) (wd_M r cI cZ) [(cI, .int), (cZ, .boolean)] A v σ') ([.ref (r 0), .int z1] : List Value).toArray s 0 0 A) A (dC, dI) (wd_M r cI cZ) 6 50 [(0, .ref (r 0)), (2, .int x2), (3, .int x3), (5, .int x5)] [.int y0] σ := by
    intro k28 hk28 x2 x3 x5 y0 σ hf ls H locs hl hP hD hS
    unfold mm_contig_b50 at hf
    refine lv_istore (lv' := [(4, .int y0), (0, .ref (r 0)), (2, .int x2), (3, .int x3), (5, .int x5)]) hx hb nd_M_contig_50 hl (by decide) rfl (fun ls hl => ?_)
    refine lv_iload hx hb nd_M_contig_52 (lv_at hl 4 rfl) ?_
    refine lv_iload_n hx hb nd_M_contig_54 rfl (lv_at hl 3 rfl) ?_
    refine lv_isub hx hb nd_M_contig_55 ?_
    refine lv_istore (lv' := [(5, .int (x5 - x3)), (4, .int y0), (0, .ref (r 0)), (2, .int x2), (3, .int x3)]) hx hb nd_M_contig_56 hl (by decide) rfl (fun ls hl => ?_)
    refine lv_goto (tgt := 28) hx hb nd_M_contig_58 (by decide) ?_
    exact hk28 x2 x3 y0 (x5 - x3) σ hf _ _ _ (lv_sub hl [2, 3, 4, 1, 0] rfl) hP hD hS
  have B28 : ∀ (k28 : Int32 → Int32 → Int32 → Int32 → MS → Option (Int32 × MS)) (hk28 : ∀ (x2 : Int32) (x3 : Int32) (x4 : Int32) (x5 : Int32) (σ : MS), k28 x2 x3 x4 x5 σ = some (v, σ') → bk_ p l e rm_M_contig s m ([.ref (r 0), .int z1] : List Value).toArray below meth c (MQ below (qi_ (dC, dI) (wd_M r cI cZ) [(cI, .int), (cZ, .boolean)] A v σ') ([.ref (r 0), .int z1] : List Value).toArray s 0 0 A) A (dC, dI) (wd_M r cI cZ) 6 28 [(0, .ref (r 0)), (2, .int x2), (3, .int x3), (4, .int x4), (5, .int x5)] [] σ) (x2 : Int32) (x3 : Int32) (x4 : Int32) (x5 : Int32) (σ : MS), mm_contig_b28 k28 x2 x3 x4 x5 σ = some (v, σ') → bk_ p l e rm_M_contig s m ([.ref (r 0), .int z1] : List Value).toArray below meth c (MQ below (qi_ (dC, dI) (wd_M r cI cZ) [(cI, .int), (cZ, .boolean)] A v σ') ([.ref (r 0), .int z1] : List Value).toArray s 0 0 A) A (dC, dI) (wd_M r cI cZ) 6 28 [(0, .ref (r 0)), (2, .int x2), (3, .int x3), (4, .int x4), (5, .int x5)] [] σ := by
    intro k28 hk28 x2 x3 x4 x5 σ hf ls H locs hl hP hD hS
    unfold mm_contig_b28 at hf
    refine lv_iload hx hb nd_M_contig_28 (lv_at hl 4 rfl) ?_
    refine lv_if_lt (tgt := 61) hx hb nd_M_contig_30 (by decide) (fun hc => ?_) (fun hc => ?_)
    · have hf := mi_if_t hc hf
      exact B61 x2 x3 x4 σ hf _ _ _ (lv_sub hl [0, 1, 2, 3] rfl) hP hD hS
    · have hf := mi_if_f hc hf
      refine lv_aload_n hx hb nd_M_contig_33 rfl (lv_at hl 0 rfl) ?_
      refine lv_iload hx hb nd_M_contig_34 (lv_at hl 4 rfl) ?_
      refine lv_iload_n hx hb nd_M_contig_36 rfl (lv_at hl 2 rfl) ?_
      obtain ⟨r8, hc, hf⟩ := mi_cp_el hf
      refine ca_i (va_runV (C := "MovedFramesModel") (As := [.int x5, .int x3]) (rest := []) ⟨hx, hb, hml, hown, hB⟩ (kw_M_isAble l dC dI r cI cZ _ σ x5 x3 r8 hc) ⟨callB_of 2 hB (gi_ lk_788) rfl rfl rfl (hB _ lk_7) (hB _ lk_785) (by decide +kernel) ⟨Nat.le_of_ble_eq_true rfl, Nat.le_of_ble_eq_true rfl⟩, hB _ lk_787, hB _ ls_42⟩ ⟨bl_, va_recv (ci := 6) (q0 := 0) hK hP rfl rfl, pre_ hP hK hD hN⟩ rfl rfl hl.1 rfl (lv_room (Nat.le_of_ble_eq_true rfl)) nd_M_contig_37 ⟨Nat.zero_le _, Nat.zero_le _⟩) hD hS hA (fun H locs hP hD hS => ?_)
      refine lv_if_eq (tgt := 48) hx hb nd_M_contig_40 (by decide) (fun hc => ?_) (fun hc => ?_)
      · have hf := mi_if_t hc hf
        refine lv_iload hx hb nd_M_contig_48 (lv_at hl 3 rfl) ?_
        exact B50 k28 hk28 x2 x3 x5 x4 σ hf _ _ _ (lv_sub hl [0, 1, 2, 4] rfl) hP hD hS
      · have hf := mi_if_f hc hf
        refine lv_iload hx hb nd_M_contig_43 (lv_at hl 4 rfl) ?_
        refine lv_goto (tgt := 50) hx hb nd_M_contig_45 (by decide) ?_
        exact B50 k28 hk28 x2 x3 x5 x5 σ hf _ _ _ (lv_sub hl [0, 1, 2, 4] rfl) hP hD hS
  have L28 : ∀ (n : Nat) (x2 : Int32) (x3 : Int32) (x4 : Int32) (x5 : Int32) (σ : MS), mm_contig_l28 n x2 x3 x4 x5 σ = some (v, σ') → bk_ p l e rm_M_contig s m ([.ref (r 0), .int z1] : List Value).toArray below meth c (MQ below (qi_ (dC, dI) (wd_M r cI cZ) [(cI, .int), (cZ, .boolean)] A v σ') ([.ref (r 0), .int z1] : List Value).toArray s 0 0 A) A (dC, dI) (wd_M r cI cZ) 6 28 [(0, .ref (r 0)), (2, .int x2), (3, .int x3), (4, .int x4), (5, .int x5)] [] σ := by
    intro n
    induction n with
    | zero =>
      intro x2 x3 x4 x5 σ hf
      exact mi_no hf
    | succ n ih =>
      intro x2 x3 x4 x5 σ hf
      exact B28 (mm_contig_l28 n) ih x2 x3 x4 x5 σ hf
  have B18 : ∀ (x2 : Int32) (y0 : Int32) (σ : MS), mm_contig_b18 x2 y0 σ = some (v, σ') → bk_ p l e rm_M_contig s m ([.ref (r 0), .int z1] : List Value).toArray below meth c (MQ below (qi_ (dC, dI) (wd_M r cI cZ) [(cI, .int), (cZ, .boolean)] A v σ') ([.ref (r 0), .int z1] : List Value).toArray s 0 0 A) A (dC, dI) (wd_M r cI cZ) 6 18 [(0, .ref (r 0)), (2, .int x2)] [.int y0] σ := by
    intro x2 y0 σ hf ls H locs hl hP hD hS
    unfold mm_contig_b18 at hf
    refine lv_istore_n (lv' := [(3, .int y0), (0, .ref (r 0)), (2, .int x2)]) hx hb nd_M_contig_18 rfl hl (by decide) rfl (fun ls hl => ?_)
    refine lv_iconst (v := (-1)) hx hb nd_M_contig_19 (by decide) ?_
    refine lv_istore (lv' := [(4, .int (-1 : Int32)), (3, .int y0), (0, .ref (r 0)), (2, .int x2)]) hx hb nd_M_contig_20 hl (by decide) rfl (fun ls hl => ?_)
    refine lv_bipush (v := 64) hx hb nd_M_contig_22 (by decide) ?_
    refine lv_iload_n hx hb nd_M_contig_24 rfl (lv_at hl 1 rfl) ?_
    refine lv_isub hx hb nd_M_contig_25 ?_
    refine lv_istore (lv' := [(5, .int ((64 : Int32) - y0)), (4, .int (-1 : Int32)), (3, .int y0), (0, .ref (r 0)), (2, .int x2)]) hx hb nd_M_contig_26 hl (by decide) rfl (fun ls hl => ?_)
    exact L28 FU x2 y0 (-1 : Int32) ((64 : Int32) - y0) σ hf _ _ _ (lv_sub hl [3, 4, 2, 1, 0] rfl) hP hD hS
  have hH : s.heap = s.heap := rfl
  unfold mm_contig at hf
  refine lv_iload_n hx hb nd_M_contig_0 rfl (lv_at hl 1 rfl) ?_
  refine lv_iconst (v := 0) hx hb nd_M_contig_1 (by decide) ?_
  refine lv_iconst (v := 5) hx hb nd_M_contig_2 (by decide) ?_
  obtain ⟨r1, hc, hf⟩ := mi_cp_el hf
  refine ca_i (va_runS (As := [.int z1, .int (0 : Int32), .int (5 : Int32)]) (rest := []) ⟨hx, hb, hml, hown, hB⟩ (kw_M_in l dC dI r cI cZ _ σ z1 (0 : Int32) (5 : Int32) r1 hc) ⟨callB_of 3 hB (gi_ lk_673) rfl rfl rfl (hB _ lk_7) (hB _ lk_671) (by decide +kernel) ⟨Nat.le_of_ble_eq_true rfl, Nat.le_of_ble_eq_true rfl⟩, hB _ lk_672⟩ ⟨bl_, pre_ hP hK hD hN⟩ rfl rfl hl.1 rfl (lv_room (Nat.le_of_ble_eq_true rfl)) nd_M_contig_3 ⟨Nat.zero_le _, Nat.zero_le _⟩) hD hS hA (fun H locs hP hD hS => ?_)
  refine lv_istore_n (lv' := [(2, .int r1), (0, .ref (r 0)), (1, .int z1)]) hx hb nd_M_contig_6 rfl hl (by decide) rfl (fun ls hl => ?_)
  refine lv_iload_n hx hb nd_M_contig_7 rfl (lv_at hl 0 rfl) ?_
  refine lv_if_eq (tgt := 17) hx hb nd_M_contig_8 (by decide) (fun hc => ?_) (fun hc => ?_)
  · have hf := mi_if_t hc hf
    refine lv_iconst (v := 1) hx hb nd_M_contig_17 (by decide) ?_
    exact B18 r1 (1 : Int32) σ hf _ _ _ (lv_sub hl [1, 0] rfl) hP hD hS
  · have hf := mi_if_f hc hf
    refine lv_iconst (v := 1) hx hb nd_M_contig_11 (by decide) ?_
    refine lv_iload_n hx hb nd_M_contig_12 rfl (lv_at hl 2 rfl) ?_
    refine lv_ishl hx hb nd_M_contig_13 ?_
    refine lv_goto (tgt := 18) hx hb nd_M_contig_14 (by decide) ?_
    exact B18 r1 ((1 : Int32) <<< (z1 &&& 31)) σ hf _ _ _ (lv_sub hl [1, 0] rfl) hP hD hS
abbrev rm_M_release : Room := { frames := 1, cells := 0, slots := 0, locals := 22 }
set_option maxHeartbeats 4000000 in
set_option maxRecDepth 100000 in
theorem kw_M_release (l : Launch) (dC : Nat → ClassId) (dI : Nat → Nat → Nat) (r : Nat → Nat) (cI cZ : ClassId) (sz : Nat) (σ : MS) (z1 : Int32) (v : Int32) (σ' : MS) (hf : mm_release σ z1 = some (v, σ')) : Met l ny_M_release nw_M_release rm_M_release (va_Pc [.ref (r 0), .int z1] (pr_ (dC, dI) (wd_M r cI cZ) [(cI, .int), (cZ, .boolean)] sz σ)) (qi_ (dC, dI) (wd_M r cI cZ) [(cI, .int), (cZ, .boolean)] (va_A (wd_M r cI cZ σ) sz) v σ') 0 0 (va_A (wd_M r cI cZ σ) sz) := by
  refine Met.ofW (cc := nb_M_release) (maxL := 4) (ret := (some .int)) (by decide) rfl ?_
  intro p e s m args below meth c s₁ B hml hv
  obtain ⟨rfl, hsz, hP, hK, hD0, hN⟩ := hv
  have hx := B.exec
  have hb := B.bytes
  have hr := B.returns
  have hts := atoms_spec (ws := nw_M_release) B.pre
  have hB : ∀ w ∈ BG, w.before ([.ref (r 0), .int z1] : List Value).toArray s = true := fun w h => hts w (List.mem_cons_of_mem _ h)
  have hown : s.vm.findClass "MovedFramesModel" = some m.cls := findClass_of_methodNamed B.named
  have hlocks := B.notSynchronized
  subst hsz
  have hD := hD0.self (sz := s.heap.size)
  generalize hAe : va_A (wd_M r cI cZ σ) s.heap.size = A at hD ⊢
  have hA : ∀ q : Nat, s.heap.size ≤ q → A q := fun q h => by rw [← hAe]; exact Or.inr h
  have hS : va_S A s.heap s.heap [] := va_S.rf
  have hl := lv_entry ([.ref (r 0), .int z1]) (n := 4) (Nat.le_of_ble_eq_true rfl)
  rw [lg_entry_eq]
  generalize (lg_sl ([.ref (r 0), .int z1]) ++ List.replicate (4 - (lg_sl ([.ref (r 0), .int z1])).length) Slot.unset).toArray = ls at hl ⊢
  have hl : lv_has ls 4 [(0, .ref (r 0)), (1, .int z1)] := hl
  have B49 : ∀ (k49 : Int32 → Int32 → Int32 → MS → Option (Int32 × MS)) (hk49 : ∀ (x1 : Int32) (x2 : Int32) (x3 : Int32) (σ : MS), k49 x1 x2 x3 σ = some (v, σ') → bk_ p l e rm_M_release s m ([.ref (r 0), .int z1] : List Value).toArray below meth c (MQ below (qi_ (dC, dI) (wd_M r cI cZ) [(cI, .int), (cZ, .boolean)] A v σ') ([.ref (r 0), .int z1] : List Value).toArray s 0 0 A) A (dC, dI) (wd_M r cI cZ) 4 49 [(0, .ref (r 0)), (1, .int x1), (2, .int x2), (3, .int x3)] [] σ) (x1 : Int32) (x2 : Int32) (x3 : Int32) (σ : MS), mm_release_b49 k49 x1 x2 x3 σ = some (v, σ') → bk_ p l e rm_M_release s m ([.ref (r 0), .int z1] : List Value).toArray below meth c (MQ below (qi_ (dC, dI) (wd_M r cI cZ) [(cI, .int), (cZ, .boolean)] A v σ') ([.ref (r 0), .int z1] : List Value).toArray s 0 0 A) A (dC, dI) (wd_M r cI cZ) 4 49 [(0, .ref (r 0)), (1, .int x1), (2, .int x2), (3, .int x3)] [] σ := by
    intro k49 hk49 x1 x2 x3 σ hf ls H locs hl hP hD hS
    unfold mm_release_b49 at hf
    refine lv_iload_n hx hb nd_M_release_49 rfl (lv_at hl 3 rfl) ?_
    refine lv_iload_n hx hb nd_M_release_50 rfl (lv_at hl 1 rfl) ?_
    refine lv_iload_n hx hb nd_M_release_51 rfl (lv_at hl 2 rfl) ?_
    refine lv_iadd hx hb nd_M_release_52 ?_
    refine lv_icmp_ge (tgt := 69) hx hb nd_M_release_53 (by decide) (fun hc => ?_) (fun hc => ?_)
    · have hf := mi_if_t hc hf
      refine lv_iload_n hx hb nd_M_release_69 rfl (lv_at hl 2 rfl) ?_
      exact re_i hx hb hr hlocks ((mi_pr hf).1) ((mi_pr hf).2) hP hK hD hS nd_M_release_70
    · have hf := mi_if_f hc hf
      refine lv_aload_n hx hb nd_M_release_56 rfl (lv_at hl 0 rfl) ?_
      refine va_get (D := (dC, dI)) (ci := 6) (v := .ref (r 1)) (C := RX6) (T := TX6) (N := 11) hx hb hB inB6 hown hK hP 0 rfl rfl 1 (by decide) (hB _ lk_630) (fun _ h9 => h9) rfl nd_M_release_57 ?_
      refine lv_iload_n hx hb nd_M_release_60 rfl (lv_at hl 3 rfl) ?_
      refine lv_iconst (v := 0) hx hb nd_M_release_61 (by decide) ?_
      obtain ⟨hg, hf⟩ := mi_gd_el hf
      refine va_iast hx hb hK hP hD hS 1 0 rfl rfl hg nd_M_release_62 (fun H locs hP hD hS => ?_)
      obtain ⟨σ5, e9, hf⟩ := mi_wr_ex hf
      have hP : va_P (dC, dI) vwCl (wd_M r cI cZ σ5) H := by rw [e9]; exact hP
      have hD : va_D A (wd_M r cI cZ σ5) := by rw [e9]; exact hD
      refine lv_iinc (k := 3) (v := x3 + (1 : Int32)) (lv' := [(3, .int (x3 + (1 : Int32))), (0, .ref (r 0)), (1, .int x1), (2, .int x2)]) hx hb nd_M_release_63 hl rfl (congrArg (fun z => x3 + z) (by decide : Int32.ofInt 1 = (1 : Int32))) (by decide) rfl (fun ls hl => ?_)
      refine lv_goto (tgt := 49) hx hb nd_M_release_66 (by decide) ?_
      exact hk49 x1 x2 (x3 + (1 : Int32)) σ5 hf _ _ _ (lv_sub hl [1, 2, 3, 0] rfl) hP hD hS
  have L49 : ∀ (n : Nat) (x1 : Int32) (x2 : Int32) (x3 : Int32) (σ : MS), mm_release_l49 n x1 x2 x3 σ = some (v, σ') → bk_ p l e rm_M_release s m ([.ref (r 0), .int z1] : List Value).toArray below meth c (MQ below (qi_ (dC, dI) (wd_M r cI cZ) [(cI, .int), (cZ, .boolean)] A v σ') ([.ref (r 0), .int z1] : List Value).toArray s 0 0 A) A (dC, dI) (wd_M r cI cZ) 4 49 [(0, .ref (r 0)), (1, .int x1), (2, .int x2), (3, .int x3)] [] σ := by
    intro n
    induction n with
    | zero =>
      intro x1 x2 x3 σ hf
      exact mi_no hf
    | succ n ih =>
      intro x1 x2 x3 σ hf
      exact B49 (mm_release_l49 n) ih x1 x2 x3 σ hf
  have B25 : ∀ (x1 : Int32) (y1 : Int32) (σ : MS), mm_release_b25 x1 y1 σ = some (v, σ') → bk_ p l e rm_M_release s m ([.ref (r 0), .int z1] : List Value).toArray below meth c (MQ below (qi_ (dC, dI) (wd_M r cI cZ) [(cI, .int), (cZ, .boolean)] A v σ') ([.ref (r 0), .int z1] : List Value).toArray s 0 0 A) A (dC, dI) (wd_M r cI cZ) 4 25 [(0, .ref (r 0)), (1, .int x1)] [.int y1, .ref (r 0)] σ := by
    intro x1 y1 σ hf ls H locs hl hP hD hS
    unfold mm_release_b25 at hf
    obtain ⟨r3, σ2, hc, hf⟩ := mi_cw_el hf
    refine ca_i (va_runV (C := "MovedFramesModel") (As := [.int y1]) (rest := []) ⟨hx, hb, hml, hown, hB⟩ (kw_M_throwsBy l dC dI r cI cZ _ σ y1 r3 σ2 hc) ⟨callB_of 1 hB (gi_ lk_681) rfl rfl rfl (hB _ lk_7) (hB _ lk_678) (by decide +kernel) ⟨Nat.le_of_ble_eq_true rfl, Nat.le_of_ble_eq_true rfl⟩, hB _ lk_680, hB _ ls_26⟩ ⟨bl_, va_recv (ci := 6) (q0 := 0) hK hP rfl rfl, pre_ hP hK hD hN⟩ rfl rfl hl.1 rfl (lv_room (Nat.le_of_ble_eq_true rfl)) nd_M_release_25 ⟨Nat.zero_le _, Nat.zero_le _⟩) hD hS hA (fun H locs hP hD hS => ?_)
    refine lv_if_eq (tgt := 33) hx hb nd_M_release_28 (by decide) (fun hc => ?_) (fun hc => ?_)
    · have hf := mi_if_t hc hf
      refine lv_aload_n hx hb nd_M_release_33 rfl (lv_at hl 0 rfl) ?_
      refine va_get (D := (dC, dI)) (ci := 6) (v := .ref (r 5)) (C := RX6) (T := TX6) (N := 11) hx hb hB inB6 hown hK hP 0 rfl rfl 5 (by decide) (hB _ lk_634) (fun _ h9 => h9) rfl nd_M_release_34 ?_
      refine lv_iload_n hx hb nd_M_release_37 rfl (lv_at hl 1 rfl) ?_
      obtain ⟨hg, hf⟩ := mi_gd_el hf
      refine va_iald hx hb hK hP 5 0 rfl rfl hg nd_M_release_38 ?_
      refine lv_istore_n (lv' := [(2, .int ((gm_rl σ2) x1.toNatClampNeg)), (0, .ref (r 0)), (1, .int x1)]) hx hb nd_M_release_39 rfl hl (by decide) rfl (fun ls hl => ?_)
      refine lv_aload_n hx hb nd_M_release_40 rfl (lv_at hl 1 rfl) ?_
      refine va_get (D := (dC, dI)) (ci := 6) (v := .ref (r 5)) (C := RX6) (T := TX6) (N := 11) hx hb hB inB6 hown hK hP 0 rfl rfl 5 (by decide) (hB _ lk_634) (fun _ h9 => h9) rfl nd_M_release_41 ?_
      refine lv_iload_n hx hb nd_M_release_44 rfl (lv_at hl 2 rfl) ?_
      refine lv_iconst (v := 0) hx hb nd_M_release_45 (by decide) ?_
      obtain ⟨hg, hf⟩ := mi_gd_el hf
      refine va_iast hx hb hK hP hD hS 5 0 rfl rfl hg nd_M_release_46 (fun H locs hP hD hS => ?_)
      obtain ⟨σ4, e9, hf⟩ := mi_wr_ex hf
      have hP : va_P (dC, dI) vwCl (wd_M r cI cZ σ4) H := by rw [e9]; exact hP
      have hD : va_D A (wd_M r cI cZ σ4) := by rw [e9]; exact hD
      refine lv_iload_n hx hb nd_M_release_47 rfl (lv_at hl 2 rfl) ?_
      refine lv_istore_n (lv' := [(3, .int x1), (2, .int ((gm_rl σ2) x1.toNatClampNeg)), (0, .ref (r 0)), (1, .int x1)]) hx hb nd_M_release_48 rfl hl (by decide) rfl (fun ls hl => ?_)
      exact L49 FU x1 ((gm_rl σ2) x1.toNatClampNeg) x1 σ4 hf _ _ _ (lv_sub hl [2, 3, 1, 0] rfl) hP hD hS
    · have hf := mi_if_f hc hf
      refine lv_iconst (v := 0) hx hb nd_M_release_31 (by decide) ?_
      exact re_i hx hb hr hlocks ((mi_pr hf).1) ((mi_pr hf).2) hP hK hD hS nd_M_release_32
  have B24 : ∀ (x1 : Int32) (σ : MS), mm_release_b24 x1 σ = some (v, σ') → bk_ p l e rm_M_release s m ([.ref (r 0), .int z1] : List Value).toArray below meth c (MQ below (qi_ (dC, dI) (wd_M r cI cZ) [(cI, .int), (cZ, .boolean)] A v σ') ([.ref (r 0), .int z1] : List Value).toArray s 0 0 A) A (dC, dI) (wd_M r cI cZ) 4 24 [(0, .ref (r 0)), (1, .int x1)] [.ref (r 0)] σ := by
    intro x1 σ hf ls H locs hl hP hD hS
    unfold mm_release_b24 at hf
    refine lv_iconst (v := 1) hx hb nd_M_release_24 (by decide) ?_
    exact B25 x1 (1 : Int32) σ hf _ _ _ (lv_sub hl [0, 1] rfl) hP hD hS
  have hH : s.heap = s.heap := rfl
  unfold mm_release at hf
  refine lv_aload_n hx hb nd_M_release_0 rfl (lv_at hl 0 rfl) ?_
  refine lv_iload_n hx hb nd_M_release_1 rfl (lv_at hl 1 rfl) ?_
  refine lv_iconst (v := 0) hx hb nd_M_release_2 (by decide) ?_
  refine lv_bipush (v := 63) hx hb nd_M_release_3 (by decide) ?_
  obtain ⟨r1, hc, hf⟩ := mi_cp_el hf
  refine ca_i (va_runS (As := [.int z1, .int (0 : Int32), .int (63 : Int32)]) (rest := [.ref (r 0)]) ⟨hx, hb, hml, hown, hB⟩ (kw_M_in l dC dI r cI cZ _ σ z1 (0 : Int32) (63 : Int32) r1 hc) ⟨callB_of 3 hB (gi_ lk_673) rfl rfl rfl (hB _ lk_7) (hB _ lk_671) (by decide +kernel) ⟨Nat.le_of_ble_eq_true rfl, Nat.le_of_ble_eq_true rfl⟩, hB _ lk_672⟩ ⟨bl_, pre_ hP hK hD hN⟩ rfl rfl hl.1 rfl (lv_room (Nat.le_of_ble_eq_true rfl)) nd_M_release_5 ⟨Nat.zero_le _, Nat.zero_le _⟩) hD hS hA (fun H locs hP hD hS => ?_)
  refine lv_if_eq (tgt := 24) hx hb nd_M_release_8 (by decide) (fun hc => ?_) (fun hc => ?_)
  · have hf := mi_if_t hc hf
    exact B24 z1 σ hf _ _ _ (lv_sub hl [0, 1] rfl) hP hD hS
  · have hf := mi_if_f hc hf
    refine lv_aload_n hx hb nd_M_release_11 rfl (lv_at hl 0 rfl) ?_
    refine va_get (D := (dC, dI)) (ci := 6) (v := .ref (r 5)) (C := RX6) (T := TX6) (N := 11) hx hb hB inB6 hown hK hP 0 rfl rfl 5 (by decide) (hB _ lk_634) (fun _ h9 => h9) rfl nd_M_release_12 ?_
    refine lv_iload_n hx hb nd_M_release_15 rfl (lv_at hl 1 rfl) ?_
    obtain ⟨hg, hf⟩ := mi_gd_el hf
    refine va_iald hx hb hK hP 5 0 rfl rfl hg nd_M_release_16 ?_
    refine lv_if_le (tgt := 24) hx hb nd_M_release_17 (by decide) (fun hc => ?_) (fun hc => ?_)
    · have hf := mi_if_t hc hf
      exact B24 z1 σ hf _ _ _ (lv_sub hl [0, 1] rfl) hP hD hS
    · have hf := mi_if_f hc hf
      refine lv_iconst (v := 0) hx hb nd_M_release_20 (by decide) ?_
      refine lv_goto (tgt := 25) hx hb nd_M_release_21 (by decide) ?_
      exact B25 z1 (0 : Int32) σ hf _ _ _ (lv_sub hl [0, 1] rfl) hP hD hS
abbrev rm_M_owner : Room := { frames := 1, cells := 0, slots := 0, locals := 22 }
set_option maxHeartbeats 4000000 in
set_option maxRecDepth 100000 in
theorem kw_M_owner (l : Launch) (dC : Nat → ClassId) (dI : Nat → Nat → Nat) (r : Nat → Nat) (cI cZ : ClassId) (sz : Nat) (σ : MS) (z1 : Int32) (v : Int32) (σ' : MS) (hf : mm_owner σ z1 = some (v, σ')) : Met l ny_M_owner nw_M_owner rm_M_owner (va_Pc [.ref (r 0), .int z1] (pr_ (dC, dI) (wd_M r cI cZ) [(cI, .int), (cZ, .boolean)] sz σ)) (qi_ (dC, dI) (wd_M r cI cZ) [(cI, .int), (cZ, .boolean)] (va_A (wd_M r cI cZ σ) sz) v σ') 0 0 (va_A (wd_M r cI cZ σ) sz) := by
  refine Met.ofW (cc := nb_M_owner) (maxL := 2) (ret := (some .int)) (by decide) rfl ?_
  intro p e s m args below meth c s₁ B hml hv
  obtain ⟨rfl, hsz, hP, hK, hD0, hN⟩ := hv
  have hx := B.exec
  have hb := B.bytes
  have hr := B.returns
  have hts := atoms_spec (ws := nw_M_owner) B.pre
  have hB : ∀ w ∈ BG, w.before ([.ref (r 0), .int z1] : List Value).toArray s = true := fun w h => hts w (List.mem_cons_of_mem _ h)
  have hown : s.vm.findClass "MovedFramesModel" = some m.cls := findClass_of_methodNamed B.named
  have hlocks := B.notSynchronized
  subst hsz
  have hD := hD0.self (sz := s.heap.size)
  generalize hAe : va_A (wd_M r cI cZ σ) s.heap.size = A at hD ⊢
  have hA : ∀ q : Nat, s.heap.size ≤ q → A q := fun q h => by rw [← hAe]; exact Or.inr h
  have hS : va_S A s.heap s.heap [] := va_S.rf
  have hl := lv_entry ([.ref (r 0), .int z1]) (n := 2) (Nat.le_of_ble_eq_true rfl)
  rw [lg_entry_eq]
  generalize (lg_sl ([.ref (r 0), .int z1]) ++ List.replicate (2 - (lg_sl ([.ref (r 0), .int z1])).length) Slot.unset).toArray = ls at hl ⊢
  have hl : lv_has ls 2 [(0, .ref (r 0)), (1, .int z1)] := hl
  have hH : s.heap = s.heap := rfl
  unfold mm_owner at hf
  refine lv_aload_n hx hb nd_M_owner_0 rfl (lv_at hl 0 rfl) ?_
  refine lv_iconst (v := 0) hx hb nd_M_owner_1 (by decide) ?_
  refine va_put (D := (dC, dI)) (ci := 6) (v := .int (0 : Int32)) (ty := .int) (C := RX6) (T := TX6) (N := 11) hx hb hB inB6 tyX6 tyX6_ok nX6 hown hK hP hD hS 0 rfl rfl 0 (by decide) (hB _ lk_629) (fun _ h9 => h9) rfl (by decide +kernel) rfl rfl (Nat.le_of_ble_eq_true rfl) nd_M_owner_2 (fun H locs hP hD hS => ?_)
  obtain ⟨σ1, e9, hf⟩ := mi_wr_ex hf
  have hP : va_P (dC, dI) vwCl (wd_M r cI cZ σ1) H := by rw [e9]; exact hP
  have hD : va_D A (wd_M r cI cZ σ1) := by rw [e9]; exact hD
  refine lv_iload_n hx hb nd_M_owner_5 rfl (lv_at hl 1 rfl) ?_
  refine lv_iconst (v := 0) hx hb nd_M_owner_6 (by decide) ?_
  refine lv_bipush (v := 63) hx hb nd_M_owner_7 (by decide) ?_
  obtain ⟨r2, hc, hf⟩ := mi_cp_el hf
  refine ca_i (va_runS (As := [.int z1, .int (0 : Int32), .int (63 : Int32)]) (rest := []) ⟨hx, hb, hml, hown, hB⟩ (kw_M_in l dC dI r cI cZ _ σ1 z1 (0 : Int32) (63 : Int32) r2 hc) ⟨callB_of 3 hB (gi_ lk_673) rfl rfl rfl (hB _ lk_7) (hB _ lk_671) (by decide +kernel) ⟨Nat.le_of_ble_eq_true rfl, Nat.le_of_ble_eq_true rfl⟩, hB _ lk_672⟩ ⟨bl_, pre_ hP hK hD hN⟩ rfl rfl hl.1 rfl (lv_room (Nat.le_of_ble_eq_true rfl)) nd_M_owner_9 ⟨Nat.zero_le _, Nat.zero_le _⟩) hD hS hA (fun H locs hP hD hS => ?_)
  refine lv_if_eq (tgt := 24) hx hb nd_M_owner_12 (by decide) (fun hc => ?_) (fun hc => ?_)
  · have hf := mi_if_t hc hf
    refine lv_iconst (v := (-1)) hx hb nd_M_owner_24 (by decide) ?_
    exact re_i hx hb hr hlocks ((mi_pr hf).1) ((mi_pr hf).2) hP hK hD hS nd_M_owner_25
  · have hf := mi_if_f hc hf
    refine lv_aload_n hx hb nd_M_owner_15 rfl (lv_at hl 0 rfl) ?_
    refine va_get (D := (dC, dI)) (ci := 6) (v := .ref (r 1)) (C := RX6) (T := TX6) (N := 11) hx hb hB inB6 hown hK hP 0 rfl rfl 1 (by decide) (hB _ lk_630) (fun _ h9 => h9) rfl nd_M_owner_16 ?_
    refine lv_iload_n hx hb nd_M_owner_19 rfl (lv_at hl 1 rfl) ?_
    obtain ⟨hg, hf⟩ := mi_gd_el hf
    refine va_iald hx hb hK hP 1 0 rfl rfl hg nd_M_owner_20 ?_
    refine lv_goto (tgt := 25) hx hb nd_M_owner_21 (by decide) ?_
    exact re_i hx hb hr hlocks ((mi_pr hf).1) ((mi_pr hf).2) hP hK hD hS nd_M_owner_25
abbrev rm_M_frame : Room := { frames := 3, cells := 0, slots := 0, locals := 66 }
set_option maxHeartbeats 4000000 in
set_option maxRecDepth 100000 in
theorem kw_M_frame (l : Launch) (dC : Nat → ClassId) (dI : Nat → Nat → Nat) (r : Nat → Nat) (cI cZ : ClassId) (sz : Nat) (σ : MS) (z1 : Int32) (z2 : Int32) (v : Int32) (σ' : MS) (hf : mm_frame σ z1 z2 = some (v, σ')) : Met l ny_M_frame nw_M_frame rm_M_frame (va_Pc [.ref (r 0), .int z1, .int z2] (pr_ (dC, dI) (wd_M r cI cZ) [(cI, .int), (cZ, .boolean)] sz σ)) (qi_ (dC, dI) (wd_M r cI cZ) [(cI, .int), (cZ, .boolean)] (va_A (wd_M r cI cZ σ) sz) v σ') 0 0 (va_A (wd_M r cI cZ σ) sz) := by
  refine Met.ofW (cc := nb_M_frame) (maxL := 3) (ret := (some .int)) (by decide) rfl ?_
  intro p e s m args below meth c s₁ B hml hv
  obtain ⟨rfl, hsz, hP, hK, hD0, hN⟩ := hv
  have hx := B.exec
  have hb := B.bytes
  have hr := B.returns
  have hts := atoms_spec (ws := nw_M_frame) B.pre
  have hB : ∀ w ∈ BG, w.before ([.ref (r 0), .int z1, .int z2] : List Value).toArray s = true := fun w h => hts w (List.mem_cons_of_mem _ h)
  have hown : s.vm.findClass "MovedFramesModel" = some m.cls := findClass_of_methodNamed B.named
  have hlocks := B.notSynchronized
  subst hsz
  have hD := hD0.self (sz := s.heap.size)
  generalize hAe : va_A (wd_M r cI cZ σ) s.heap.size = A at hD ⊢
  have hA : ∀ q : Nat, s.heap.size ≤ q → A q := fun q h => by rw [← hAe]; exact Or.inr h
  have hS : va_S A s.heap s.heap [] := va_S.rf
  have hl := lv_entry ([.ref (r 0), .int z1, .int z2]) (n := 3) (Nat.le_of_ble_eq_true rfl)
  rw [lg_entry_eq]
  generalize (lg_sl ([.ref (r 0), .int z1, .int z2]) ++ List.replicate (3 - (lg_sl ([.ref (r 0), .int z1, .int z2])).length) Slot.unset).toArray = ls at hl ⊢
  have hl : lv_has ls 3 [(0, .ref (r 0)), (1, .int z1), (2, .int z2)] := hl
  have hH : s.heap = s.heap := rfl
  unfold mm_frame at hf
  refine lv_aload_n hx hb nd_M_frame_0 rfl (lv_at hl 0 rfl) ?_
  refine lv_iconst (v := 0) hx hb nd_M_frame_1 (by decide) ?_
  refine va_put (D := (dC, dI)) (ci := 6) (v := .int (0 : Int32)) (ty := .int) (C := RX6) (T := TX6) (N := 11) hx hb hB inB6 tyX6 tyX6_ok nX6 hown hK hP hD hS 0 rfl rfl 0 (by decide) (hB _ lk_629) (fun _ h9 => h9) rfl (by decide +kernel) rfl rfl (Nat.le_of_ble_eq_true rfl) nd_M_frame_2 (fun H locs hP hD hS => ?_)
  obtain ⟨σ1, e9, hf⟩ := mi_wr_ex hf
  have hP : va_P (dC, dI) vwCl (wd_M r cI cZ σ1) H := by rw [e9]; exact hP
  have hD : va_D A (wd_M r cI cZ σ1) := by rw [e9]; exact hD
  refine lv_iload_n hx hb nd_M_frame_5 rfl (lv_at hl 1 rfl) ?_
  refine lv_bipush (v := (-2)) hx hb nd_M_frame_6 (by decide) ?_
  refine lv_icmp_ne (tgt := 34) hx hb nd_M_frame_8 (by decide) (fun hc => ?_) (fun hc => ?_)
  · have hf := mi_if_f hc hf
    refine lv_aload_n hx hb nd_M_frame_34 rfl (lv_at hl 0 rfl) ?_
    refine lv_iload_n hx hb nd_M_frame_35 rfl (lv_at hl 1 rfl) ?_
    obtain ⟨r2, hc, hf⟩ := mi_cp_el hf
    refine ca_i (va_runV (C := "MovedFramesModel") (As := [.int z1]) (rest := []) ⟨hx, hb, hml, hown, hB⟩ (kw_M_isSpace l dC dI r cI cZ _ σ1 z1 r2 hc) ⟨callB_of 1 hB (gi_ lk_733) rfl rfl rfl (hB _ lk_7) (hB _ lk_730) (by decide +kernel) ⟨Nat.le_of_ble_eq_true rfl, Nat.le_of_ble_eq_true rfl⟩, hB _ lk_732, hB _ ls_34⟩ ⟨bl_, va_recv (ci := 6) (q0 := 0) hK hP rfl rfl, pre_ hP hK hD hN⟩ rfl rfl hl.1 rfl (lv_room (Nat.le_of_ble_eq_true rfl)) nd_M_frame_36 ⟨Nat.zero_le _, Nat.zero_le _⟩) hD hS hA (fun H locs hP hD hS => ?_)
    refine lv_if_eq (tgt := 62) hx hb nd_M_frame_39 (by decide) (fun hc => ?_) (fun hc => ?_)
    · have hf := mi_if_t hc hf
      refine lv_iconst (v := (-1)) hx hb nd_M_frame_62 (by decide) ?_
      exact re_i hx hb hr hlocks ((mi_pr hf).1) ((mi_pr hf).2) hP hK hD hS nd_M_frame_63
    · have hf := mi_if_f hc hf
      refine lv_iload_n hx hb nd_M_frame_42 rfl (lv_at hl 2 rfl) ?_
      refine lv_iconst (v := 0) hx hb nd_M_frame_43 (by decide) ?_
      refine lv_sipush (v := 255) hx hb nd_M_frame_44 (by decide) ?_
      obtain ⟨r3, hc, hf⟩ := mi_cp_el hf
      refine ca_i (va_runS (As := [.int z2, .int (0 : Int32), .int (255 : Int32)]) (rest := []) ⟨hx, hb, hml, hown, hB⟩ (kw_M_in l dC dI r cI cZ _ σ1 z2 (0 : Int32) (255 : Int32) r3 hc) ⟨callB_of 3 hB (gi_ lk_673) rfl rfl rfl (hB _ lk_7) (hB _ lk_671) (by decide +kernel) ⟨Nat.le_of_ble_eq_true rfl, Nat.le_of_ble_eq_true rfl⟩, hB _ lk_672⟩ ⟨bl_, pre_ hP hK hD hN⟩ rfl rfl hl.1 rfl (lv_room (Nat.le_of_ble_eq_true rfl)) nd_M_frame_47 ⟨Nat.zero_le _, Nat.zero_le _⟩) hD hS hA (fun H locs hP hD hS => ?_)
      refine lv_if_eq (tgt := 62) hx hb nd_M_frame_50 (by decide) (fun hc => ?_) (fun hc => ?_)
      · have hf := mi_if_t hc hf
        refine lv_iconst (v := (-1)) hx hb nd_M_frame_62 (by decide) ?_
        exact re_i hx hb hr hlocks ((mi_pr hf).1) ((mi_pr hf).2) hP hK hD hS nd_M_frame_63
      · have hf := mi_if_f hc hf
        refine lv_aload_n hx hb nd_M_frame_53 rfl (lv_at hl 0 rfl) ?_
        refine lv_iload_n hx hb nd_M_frame_54 rfl (lv_at hl 1 rfl) ?_
        refine lv_iload_n hx hb nd_M_frame_55 rfl (lv_at hl 2 rfl) ?_
        obtain ⟨r4, hc, hf⟩ := mi_cp_el hf
        refine ca_i (va_runV (C := "MovedFramesModel") (As := [.int z1, .int z2]) (rest := []) ⟨hx, hb, hml, hown, hB⟩ (kw_M_frameOf l dC dI r cI cZ _ σ1 z1 z2 r4 hc) ⟨callB_of 2 hB (gi_ lk_741) rfl rfl rfl (hB _ lk_7) (hB _ lk_738) (by decide +kernel) ⟨Nat.le_of_ble_eq_true rfl, Nat.le_of_ble_eq_true rfl⟩, hB _ lk_740, hB _ ls_36⟩ ⟨bl_, va_recv (ci := 6) (q0 := 0) hK hP rfl rfl, pre_ hP hK hD hN⟩ rfl rfl hl.1 rfl (lv_room (Nat.le_of_ble_eq_true rfl)) nd_M_frame_56 ⟨Nat.zero_le _, Nat.zero_le _⟩) hD hS hA (fun H locs hP hD hS => ?_)
        refine lv_goto (tgt := 63) hx hb nd_M_frame_59 (by decide) ?_
        exact re_i hx hb hr hlocks ((mi_pr hf).1) ((mi_pr hf).2) hP hK hD hS nd_M_frame_63
  · have hf := mi_if_t hc hf
    refine lv_iload_n hx hb nd_M_frame_11 rfl (lv_at hl 2 rfl) ?_
    refine lv_iconst (v := 0) hx hb nd_M_frame_12 (by decide) ?_
    refine lv_bipush (v := 63) hx hb nd_M_frame_13 (by decide) ?_
    obtain ⟨r5, hc, hf⟩ := mi_cp_el hf
    refine ca_i (va_runS (As := [.int z2, .int (0 : Int32), .int (63 : Int32)]) (rest := []) ⟨hx, hb, hml, hown, hB⟩ (kw_M_in l dC dI r cI cZ _ σ1 z2 (0 : Int32) (63 : Int32) r5 hc) ⟨callB_of 3 hB (gi_ lk_673) rfl rfl rfl (hB _ lk_7) (hB _ lk_671) (by decide +kernel) ⟨Nat.le_of_ble_eq_true rfl, Nat.le_of_ble_eq_true rfl⟩, hB _ lk_672⟩ ⟨bl_, pre_ hP hK hD hN⟩ rfl rfl hl.1 rfl (lv_room (Nat.le_of_ble_eq_true rfl)) nd_M_frame_15 ⟨Nat.zero_le _, Nat.zero_le _⟩) hD hS hA (fun H locs hP hD hS => ?_)
    refine lv_if_eq (tgt := 32) hx hb nd_M_frame_18 (by decide) (fun hc => ?_) (fun hc => ?_)
    · have hf := mi_if_t hc hf
      refine lv_iconst (v := (-1)) hx hb nd_M_frame_32 (by decide) ?_
      exact re_i hx hb hr hlocks ((mi_pr hf).1) ((mi_pr hf).2) hP hK hD hS nd_M_frame_33
    · have hf := mi_if_f hc hf
      refine lv_aload_n hx hb nd_M_frame_21 rfl (lv_at hl 0 rfl) ?_
      refine va_get (D := (dC, dI)) (ci := 6) (v := .ref (r 6)) (C := RX6) (T := TX6) (N := 11) hx hb hB inB6 hown hK hP 0 rfl rfl 6 (by decide) (hB _ lk_635) (fun _ h9 => h9) rfl nd_M_frame_22 ?_
      refine lv_iload_n hx hb nd_M_frame_25 rfl (lv_at hl 2 rfl) ?_
      obtain ⟨hg, hf⟩ := mi_gd_el hf
      refine va_iald hx hb hK hP 6 0 rfl rfl hg nd_M_frame_26 ?_
      refine lv_iconst (v := 1) hx hb nd_M_frame_27 (by decide) ?_
      refine lv_isub hx hb nd_M_frame_28 ?_
      refine lv_goto (tgt := 33) hx hb nd_M_frame_29 (by decide) ?_
      exact re_i hx hb hr hlocks ((mi_pr hf).1) ((mi_pr hf).2) hP hK hD hS nd_M_frame_33
abbrev rm_M_word : Room := { frames := 1, cells := 0, slots := 0, locals := 22 }
set_option maxHeartbeats 4000000 in
set_option maxRecDepth 100000 in
theorem kw_M_word (l : Launch) (dC : Nat → ClassId) (dI : Nat → Nat → Nat) (r : Nat → Nat) (cI cZ : ClassId) (sz : Nat) (σ : MS) (z1 : Int32) (z2 : Int32) (v : Int32) (σ' : MS) (hf : mm_word σ z1 z2 = some (v, σ')) : Met l ny_M_word nw_M_word rm_M_word (va_Pc [.ref (r 0), .int z1, .int z2] (pr_ (dC, dI) (wd_M r cI cZ) [(cI, .int), (cZ, .boolean)] sz σ)) (qi_ (dC, dI) (wd_M r cI cZ) [(cI, .int), (cZ, .boolean)] (va_A (wd_M r cI cZ σ) sz) v σ') 0 0 (va_A (wd_M r cI cZ σ) sz) := by
  refine Met.ofW (cc := nb_M_word) (maxL := 3) (ret := (some .int)) (by decide) rfl ?_
  intro p e s m args below meth c s₁ B hml hv
  obtain ⟨rfl, hsz, hP, hK, hD0, hN⟩ := hv
  have hx := B.exec
  have hb := B.bytes
  have hr := B.returns
  have hts := atoms_spec (ws := nw_M_word) B.pre
  have hB : ∀ w ∈ BG, w.before ([.ref (r 0), .int z1, .int z2] : List Value).toArray s = true := fun w h => hts w (List.mem_cons_of_mem _ h)
  have hown : s.vm.findClass "MovedFramesModel" = some m.cls := findClass_of_methodNamed B.named
  have hlocks := B.notSynchronized
  subst hsz
  have hD := hD0.self (sz := s.heap.size)
  generalize hAe : va_A (wd_M r cI cZ σ) s.heap.size = A at hD ⊢
  have hA : ∀ q : Nat, s.heap.size ≤ q → A q := fun q h => by rw [← hAe]; exact Or.inr h
  have hS : va_S A s.heap s.heap [] := va_S.rf
  have hl := lv_entry ([.ref (r 0), .int z1, .int z2]) (n := 3) (Nat.le_of_ble_eq_true rfl)
  rw [lg_entry_eq]
  generalize (lg_sl ([.ref (r 0), .int z1, .int z2]) ++ List.replicate (3 - (lg_sl ([.ref (r 0), .int z1, .int z2])).length) Slot.unset).toArray = ls at hl ⊢
  have hl : lv_has ls 3 [(0, .ref (r 0)), (1, .int z1), (2, .int z2)] := hl
  have hH : s.heap = s.heap := rfl
  unfold mm_word at hf
  refine lv_aload_n hx hb nd_M_word_0 rfl (lv_at hl 0 rfl) ?_
  refine lv_iconst (v := 0) hx hb nd_M_word_1 (by decide) ?_
  refine va_put (D := (dC, dI)) (ci := 6) (v := .int (0 : Int32)) (ty := .int) (C := RX6) (T := TX6) (N := 11) hx hb hB inB6 tyX6 tyX6_ok nX6 hown hK hP hD hS 0 rfl rfl 0 (by decide) (hB _ lk_629) (fun _ h9 => h9) rfl (by decide +kernel) rfl rfl (Nat.le_of_ble_eq_true rfl) nd_M_word_2 (fun H locs hP hD hS => ?_)
  obtain ⟨σ1, e9, hf⟩ := mi_wr_ex hf
  have hP : va_P (dC, dI) vwCl (wd_M r cI cZ σ1) H := by rw [e9]; exact hP
  have hD : va_D A (wd_M r cI cZ σ1) := by rw [e9]; exact hD
  refine lv_iload_n hx hb nd_M_word_5 rfl (lv_at hl 1 rfl) ?_
  refine lv_iconst (v := 0) hx hb nd_M_word_6 (by decide) ?_
  refine lv_bipush (v := 63) hx hb nd_M_word_7 (by decide) ?_
  obtain ⟨r2, hc, hf⟩ := mi_cp_el hf
  refine ca_i (va_runS (As := [.int z1, .int (0 : Int32), .int (63 : Int32)]) (rest := []) ⟨hx, hb, hml, hown, hB⟩ (kw_M_in l dC dI r cI cZ _ σ1 z1 (0 : Int32) (63 : Int32) r2 hc) ⟨callB_of 3 hB (gi_ lk_673) rfl rfl rfl (hB _ lk_7) (hB _ lk_671) (by decide +kernel) ⟨Nat.le_of_ble_eq_true rfl, Nat.le_of_ble_eq_true rfl⟩, hB _ lk_672⟩ ⟨bl_, pre_ hP hK hD hN⟩ rfl rfl hl.1 rfl (lv_room (Nat.le_of_ble_eq_true rfl)) nd_M_word_9 ⟨Nat.zero_le _, Nat.zero_le _⟩) hD hS hA (fun H locs hP hD hS => ?_)
  refine lv_if_eq (tgt := 39) hx hb nd_M_word_12 (by decide) (fun hc => ?_) (fun hc => ?_)
  · have hf := mi_if_t hc hf
    refine lv_iconst (v := 0) hx hb nd_M_word_39 (by decide) ?_
    exact re_i hx hb hr hlocks ((mi_pr hf).1) ((mi_pr hf).2) hP hK hD hS nd_M_word_40
  · have hf := mi_if_f hc hf
    refine lv_iload_n hx hb nd_M_word_15 rfl (lv_at hl 2 rfl) ?_
    refine lv_iconst (v := 0) hx hb nd_M_word_16 (by decide) ?_
    refine lv_bipush (v := 15) hx hb nd_M_word_17 (by decide) ?_
    obtain ⟨r3, hc, hf⟩ := mi_cp_el hf
    refine ca_i (va_runS (As := [.int z2, .int (0 : Int32), .int (15 : Int32)]) (rest := []) ⟨hx, hb, hml, hown, hB⟩ (kw_M_in l dC dI r cI cZ _ σ1 z2 (0 : Int32) (15 : Int32) r3 hc) ⟨callB_of 3 hB (gi_ lk_673) rfl rfl rfl (hB _ lk_7) (hB _ lk_671) (by decide +kernel) ⟨Nat.le_of_ble_eq_true rfl, Nat.le_of_ble_eq_true rfl⟩, hB _ lk_672⟩ ⟨bl_, pre_ hP hK hD hN⟩ rfl rfl hl.1 rfl (lv_room (Nat.le_of_ble_eq_true rfl)) nd_M_word_19 ⟨Nat.zero_le _, Nat.zero_le _⟩) hD hS hA (fun H locs hP hD hS => ?_)
    refine lv_if_eq (tgt := 39) hx hb nd_M_word_22 (by decide) (fun hc => ?_) (fun hc => ?_)
    · have hf := mi_if_t hc hf
      refine lv_iconst (v := 0) hx hb nd_M_word_39 (by decide) ?_
      exact re_i hx hb hr hlocks ((mi_pr hf).1) ((mi_pr hf).2) hP hK hD hS nd_M_word_40
    · have hf := mi_if_f hc hf
      refine lv_aload_n hx hb nd_M_word_25 rfl (lv_at hl 0 rfl) ?_
      refine va_get (D := (dC, dI)) (ci := 6) (v := .ref (r 2)) (C := RX6) (T := TX6) (N := 11) hx hb hB inB6 hown hK hP 0 rfl rfl 2 (by decide) (hB _ lk_631) (fun _ h9 => h9) rfl nd_M_word_26 ?_
      refine lv_bipush (v := 16) hx hb nd_M_word_29 (by decide) ?_
      refine lv_iload_n hx hb nd_M_word_31 rfl (lv_at hl 1 rfl) ?_
      refine lv_imul hx hb nd_M_word_32 ?_
      refine lv_iload_n hx hb nd_M_word_33 rfl (lv_at hl 2 rfl) ?_
      refine lv_iadd hx hb nd_M_word_34 ?_
      obtain ⟨hg, hf⟩ := mi_gd_el hf
      refine va_iald hx hb hK hP 2 0 rfl rfl hg nd_M_word_35 ?_
      refine lv_goto (tgt := 40) hx hb nd_M_word_36 (by decide) ?_
      exact re_i hx hb hr hlocks ((mi_pr hf).1) ((mi_pr hf).2) hP hK hD hS nd_M_word_40
