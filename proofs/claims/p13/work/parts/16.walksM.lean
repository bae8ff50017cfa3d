abbrev rm_M_vfree : Room := { frames := 1, cells := 0, slots := 0, locals := 22 }
set_option maxHeartbeats 4000000 in
set_option maxRecDepth 100000 in
theorem kw_M_vfree (l : Launch) (dC : Nat → ClassId) (dI : Nat → Nat → Nat) (r : Nat → Nat) (cI cZ : ClassId) (sz : Nat) (σ : MS) (z1 : Int32) (v : Int32) (σ' : MS) (hf : mm_vfree σ z1 = some (v, σ')) : Met l ny_M_vfree nw_M_vfree rm_M_vfree (va_Pc [.ref (r 0), .int z1] (pr_ (dC, dI) (wd_M r cI cZ) [(cI, .int), (cZ, .boolean)] sz σ)) (qi_ (dC, dI) (wd_M r cI cZ) [(cI, .int), (cZ, .boolean)] (va_A (wd_M r cI cZ σ) sz) v σ') 0 0 (va_A (wd_M r cI cZ σ) sz) := by
  refine Met.ofW (cc := nb_M_vfree) (maxL := 6) (ret := (some .int)) (by decide) rfl ?_
  intro p e s m args below meth c s₁ B hml hv
  obtain ⟨rfl, hsz, hP, hK, hD0, hN⟩ := hv
  have hx := B.exec
  have hb := B.bytes
  have hr := B.returns
  have hts := atoms_spec (ws := nw_M_vfree) B.pre
  have hB : ∀ w ∈ BG, w.before ([.ref (r 0), .int z1] : List Value).toArray s = true := fun w h => hts w (List.mem_cons_of_mem _ h)
  have hown : s.vm.findClass "MovedFramesModel" = some m.cls := findClass_of_methodNamed B.named
  have hlocks := B.notSynchronized
  subst hsz
  have hD := hD0.self (sz := s.heap.size)
  generalize hAe : va_A (wd_M r cI cZ σ) s.heap.size = A at hD ⊢
  have hA : ∀ q : Nat, s.heap.size ≤ q → A q := fun q h => by rw [← hAe]; exact Or.inr h
  have hS : va_S A s.heap s.heap [] := va_S.rf
  have hl := lv_entry ([.ref (r 0), .int z1]) (n := 6) (Nat.le_of_ble_eq_true rfl)
  rw [lg_entry_eq]
  generalize (lg_sl ([.ref (r 0), .int z1]) ++ List.replicate (6 - (lg_sl ([.ref (r 0), .int z1])).length) Slot.unset).toArray = ls at hl ⊢
  have hl : lv_has ls 6 [(0, .ref (r 0)), (1, .int z1)] := hl
  have B108 : ∀ (x3 : Int32) (x4 : Int32) (σ : MS), mm_vfree_b108 x3 x4 σ = some (v, σ') → bk_ p l e rm_M_vfree s m ([.ref (r 0), .int z1] : List Value).toArray below meth c (MQ below (qi_ (dC, dI) (wd_M r cI cZ) [(cI, .int), (cZ, .boolean)] A v σ') ([.ref (r 0), .int z1] : List Value).toArray s 0 0 A) A (dC, dI) (wd_M r cI cZ) 6 108 [(0, .ref (r 0)), (3, .int x3), (4, .int x4)] [] σ := by
    intro x3 x4 σ hf ls H locs hl hP hD hS
    unfold mm_vfree_b108 at hf
    refine lv_aload_n hx hb nd_M_vfree_108 rfl (lv_at hl 0 rfl) ?_
    refine va_get (D := (dC, dI)) (ci := 6) (v := .ref (r 7)) (C := RX6) (T := TX6) (N := 11) hx hb hB inB6 hown hK hP 0 rfl rfl 7 (by decide) (hB _ lk_636) (fun _ h9 => h9) rfl nd_M_vfree_109 ?_
    refine lv_iload_n hx hb nd_M_vfree_112 rfl (lv_at hl 1 rfl) ?_
    refine lv_iconst (v := 0) hx hb nd_M_vfree_113 (by decide) ?_
    obtain ⟨hg, hf⟩ := mi_gd_el hf
    refine va_iast hx hb hK hP hD hS 7 0 rfl rfl hg nd_M_vfree_114 (fun H locs hP hD hS => ?_)
    obtain ⟨σ4, e9, hf⟩ := mi_wr_ex hf
    have hP : va_P (dC, dI) vwCl (wd_M r cI cZ σ4) H := by rw [e9]; exact hP
    have hD : va_D A (wd_M r cI cZ σ4) := by rw [e9]; exact hD
    refine lv_iload hx hb nd_M_vfree_115 (lv_at hl 2 rfl) ?_
    exact re_i hx hb hr hlocks ((mi_pr hf).1) ((mi_pr hf).2) hP hK hD hS nd_M_vfree_117
  have B70 : ∀ (k70 : Int32 → Int32 → Int32 → MS → Option (Int32 × MS)) (hk70 : ∀ (x3 : Int32) (x4 : Int32) (x5 : Int32) (σ : MS), k70 x3 x4 x5 σ = some (v, σ') → bk_ p l e rm_M_vfree s m ([.ref (r 0), .int z1] : List Value).toArray below meth c (MQ below (qi_ (dC, dI) (wd_M r cI cZ) [(cI, .int), (cZ, .boolean)] A v σ') ([.ref (r 0), .int z1] : List Value).toArray s 0 0 A) A (dC, dI) (wd_M r cI cZ) 6 70 [(0, .ref (r 0)), (3, .int x3), (4, .int x4), (5, .int x5)] [] σ) (x3 : Int32) (x4 : Int32) (x5 : Int32) (σ : MS), mm_vfree_b70 k70 x3 x4 x5 σ = some (v, σ') → bk_ p l e rm_M_vfree s m ([.ref (r 0), .int z1] : List Value).toArray below meth c (MQ below (qi_ (dC, dI) (wd_M r cI cZ) [(cI, .int), (cZ, .boolean)] A v σ') ([.ref (r 0), .int z1] : List Value).toArray s 0 0 A) A (dC, dI) (wd_M r cI cZ) 6 70 [(0, .ref (r 0)), (3, .int x3), (4, .int x4), (5, .int x5)] [] σ := by
    intro k70 hk70 x3 x4 x5 σ hf ls H locs hl hP hD hS
    unfold mm_vfree_b70 at hf
    refine lv_iload hx hb nd_M_vfree_70 (lv_at hl 3 rfl) ?_
    refine lv_iload_n hx hb nd_M_vfree_72 rfl (lv_at hl 1 rfl) ?_
    refine lv_iload hx hb nd_M_vfree_73 (lv_at hl 2 rfl) ?_
    refine lv_iadd hx hb nd_M_vfree_75 ?_
    refine lv_icmp_ge (tgt := 108) hx hb nd_M_vfree_76 (by decide) (fun hc => ?_) (fun hc => ?_)
    · have hf := mi_if_t hc hf
      exact B108 x3 x4 σ hf _ _ _ (lv_sub hl [0, 1, 2] rfl) hP hD hS
    · have hf := mi_if_f hc hf
      refine lv_aload_n hx hb nd_M_vfree_79 rfl (lv_at hl 0 rfl) ?_
      refine va_get (D := (dC, dI)) (ci := 6) (v := .ref (r 1)) (C := RX6) (T := TX6) (N := 11) hx hb hB inB6 hown hK hP 0 rfl rfl 1 (by decide) (hB _ lk_630) (fun _ h9 => h9) rfl nd_M_vfree_80 ?_
      refine lv_aload_n hx hb nd_M_vfree_83 rfl (lv_at hl 0 rfl) ?_
      refine va_get (D := (dC, dI)) (ci := 6) (v := .ref (r 6)) (C := RX6) (T := TX6) (N := 11) hx hb hB inB6 hown hK hP 0 rfl rfl 6 (by decide) (hB _ lk_635) (fun _ h9 => h9) rfl nd_M_vfree_84 ?_
      refine lv_iload hx hb nd_M_vfree_87 (lv_at hl 3 rfl) ?_
      obtain ⟨hg, hf⟩ := mi_gd_el hf
      refine va_iald hx hb hK hP 6 0 rfl rfl hg nd_M_vfree_89 ?_
      refine lv_iconst (v := 1) hx hb nd_M_vfree_90 (by decide) ?_
      refine lv_isub hx hb nd_M_vfree_91 ?_
      refine lv_iconst (v := 0) hx hb nd_M_vfree_92 (by decide) ?_
      obtain ⟨hg, hf⟩ := mi_gd_el hf
      refine va_iast hx hb hK hP hD hS 1 0 rfl rfl hg nd_M_vfree_93 (fun H locs hP hD hS => ?_)
      obtain ⟨σ5, e9, hf⟩ := mi_wr_ex hf
      have hP : va_P (dC, dI) vwCl (wd_M r cI cZ σ5) H := by rw [e9]; exact hP
      have hD : va_D A (wd_M r cI cZ σ5) := by rw [e9]; exact hD
      refine lv_aload_n hx hb nd_M_vfree_94 rfl (lv_at hl 0 rfl) ?_
      refine va_get (D := (dC, dI)) (ci := 6) (v := .ref (r 6)) (C := RX6) (T := TX6) (N := 11) hx hb hB inB6 hown hK hP 0 rfl rfl 6 (by decide) (hB _ lk_635) (fun _ h9 => h9) rfl nd_M_vfree_95 ?_
      refine lv_iload hx hb nd_M_vfree_98 (lv_at hl 3 rfl) ?_
      refine lv_iconst (v := 0) hx hb nd_M_vfree_100 (by decide) ?_
      obtain ⟨hg, hf⟩ := mi_gd_el hf
      refine va_iast hx hb hK hP hD hS 6 0 rfl rfl hg nd_M_vfree_101 (fun H locs hP hD hS => ?_)
      obtain ⟨σ6, e9, hf⟩ := mi_wr_ex hf
      have hP : va_P (dC, dI) vwCl (wd_M r cI cZ σ6) H := by rw [e9]; exact hP
      have hD : va_D A (wd_M r cI cZ σ6) := by rw [e9]; exact hD
      refine lv_iinc (k := 3) (v := x5 + (1 : Int32)) (lv' := [(5, .int (x5 + (1 : Int32))), (0, .ref (r 0)), (3, .int x3), (4, .int x4)]) hx hb nd_M_vfree_102 hl rfl (congrArg (fun z => x5 + z) (by decide : Int32.ofInt 1 = (1 : Int32))) (by decide) rfl (fun ls hl => ?_)
      refine lv_goto (tgt := 70) hx hb nd_M_vfree_105 (by decide) ?_
      exact hk70 x3 x4 (x5 + (1 : Int32)) σ6 hf _ _ _ (lv_sub hl [1, 2, 3, 0] rfl) hP hD hS
  have L70 : ∀ (n : Nat) (x3 : Int32) (x4 : Int32) (x5 : Int32) (σ : MS), mm_vfree_l70 n x3 x4 x5 σ = some (v, σ') → bk_ p l e rm_M_vfree s m ([.ref (r 0), .int z1] : List Value).toArray below meth c (MQ below (qi_ (dC, dI) (wd_M r cI cZ) [(cI, .int), (cZ, .boolean)] A v σ') ([.ref (r 0), .int z1] : List Value).toArray s 0 0 A) A (dC, dI) (wd_M r cI cZ) 6 70 [(0, .ref (r 0)), (3, .int x3), (4, .int x4), (5, .int x5)] [] σ := by
    intro n
    induction n with
    | zero =>
      intro x3 x4 x5 σ hf
      exact mi_no hf
    | succ n ih =>
      intro x3 x4 x5 σ hf
      exact B70 (mm_vfree_l70 n) ih x3 x4 x5 σ hf
  have B46 : ∀ (x1 : Int32) (y1 : Int32) (σ : MS), mm_vfree_b46 x1 y1 σ = some (v, σ') → bk_ p l e rm_M_vfree s m ([.ref (r 0), .int z1] : List Value).toArray below meth c (MQ below (qi_ (dC, dI) (wd_M r cI cZ) [(cI, .int), (cZ, .boolean)] A v σ') ([.ref (r 0), .int z1] : List Value).toArray s 0 0 A) A (dC, dI) (wd_M r cI cZ) 6 46 [(0, .ref (r 0)), (1, .int x1)] [.int y1, .ref (r 0)] σ := by
    intro x1 y1 σ hf ls H locs hl hP hD hS
    unfold mm_vfree_b46 at hf
    obtain ⟨r3, σ2, hc, hf⟩ := mi_cw_el hf
    refine ca_i (va_runV (C := "MovedFramesModel") (As := [.int y1]) (rest := []) ⟨hx, hb, hml, hown, hB⟩ (kw_M_throwsBy l dC dI r cI cZ _ σ y1 r3 σ2 hc) ⟨callB_of 1 hB (gi_ lk_681) rfl rfl rfl (hB _ lk_7) (hB _ lk_678) (by decide +kernel) ⟨Nat.le_of_ble_eq_true rfl, Nat.le_of_ble_eq_true rfl⟩, hB _ lk_680, hB _ ls_26⟩ ⟨bl_, va_recv (ci := 6) (q0 := 0) hK hP rfl rfl, pre_ hP hK hD hN⟩ rfl rfl hl.1 rfl (lv_room (Nat.le_of_ble_eq_true rfl)) nd_M_vfree_46 ⟨Nat.zero_le _, Nat.zero_le _⟩) hD hS hA (fun H locs hP hD hS => ?_)
    refine lv_if_eq (tgt := 54) hx hb nd_M_vfree_49 (by decide) (fun hc => ?_) (fun hc => ?_)
    · have hf := mi_if_t hc hf
      refine lv_iload_n hx hb nd_M_vfree_54 rfl (lv_at hl 1 rfl) ?_
      refine lv_bipush (v := 16) hx hb nd_M_vfree_55 (by decide) ?_
      refine lv_idiv hx hb nd_M_vfree_57 (by decide) ?_
      refine lv_istore_n (lv' := [(3, .int (x1 / (16 : Int32))), (0, .ref (r 0)), (1, .int x1)]) hx hb nd_M_vfree_58 rfl hl (by decide) rfl (fun ls hl => ?_)
      refine lv_aload_n hx hb nd_M_vfree_59 rfl (lv_at hl 1 rfl) ?_
      refine va_get (D := (dC, dI)) (ci := 6) (v := .ref (r 7)) (C := RX6) (T := TX6) (N := 11) hx hb hB inB6 hown hK hP 0 rfl rfl 7 (by decide) (hB _ lk_636) (fun _ h9 => h9) rfl nd_M_vfree_60 ?_
      refine lv_iload_n hx hb nd_M_vfree_63 rfl (lv_at hl 0 rfl) ?_
      obtain ⟨hg, hf⟩ := mi_gd_el hf
      refine va_iald hx hb hK hP 7 0 rfl rfl hg nd_M_vfree_64 ?_
      refine lv_istore (lv' := [(4, .int ((gm_ln σ2) (x1 / (16 : Int32)).toNatClampNeg)), (3, .int (x1 / (16 : Int32))), (0, .ref (r 0)), (1, .int x1)]) hx hb nd_M_vfree_65 hl (by decide) rfl (fun ls hl => ?_)
      refine lv_iload_n hx hb nd_M_vfree_67 rfl (lv_at hl 1 rfl) ?_
      refine lv_istore (lv' := [(5, .int (x1 / (16 : Int32))), (4, .int ((gm_ln σ2) (x1 / (16 : Int32)).toNatClampNeg)), (3, .int (x1 / (16 : Int32))), (0, .ref (r 0)), (1, .int x1)]) hx hb nd_M_vfree_68 hl (by decide) rfl (fun ls hl => ?_)
      exact L70 FU (x1 / (16 : Int32)) ((gm_ln σ2) (x1 / (16 : Int32)).toNatClampNeg) (x1 / (16 : Int32)) σ2 hf _ _ _ (lv_sub hl [3, 2, 1, 0] rfl) hP hD hS
    · have hf := mi_if_f hc hf
      refine lv_iconst (v := 0) hx hb nd_M_vfree_52 (by decide) ?_
      exact re_i hx hb hr hlocks ((mi_pr hf).1) ((mi_pr hf).2) hP hK hD hS nd_M_vfree_53
  have B35 : ∀ (x1 : Int32) (y0 : Int32) (σ : MS), mm_vfree_b35 x1 y0 σ = some (v, σ') → bk_ p l e rm_M_vfree s m ([.ref (r 0), .int z1] : List Value).toArray below meth c (MQ below (qi_ (dC, dI) (wd_M r cI cZ) [(cI, .int), (cZ, .boolean)] A v σ') ([.ref (r 0), .int z1] : List Value).toArray s 0 0 A) A (dC, dI) (wd_M r cI cZ) 6 35 [(0, .ref (r 0)), (1, .int x1)] [.int y0] σ := by
    intro x1 y0 σ hf ls H locs hl hP hD hS
    unfold mm_vfree_b35 at hf
    refine lv_istore_n (lv' := [(2, .int y0), (0, .ref (r 0)), (1, .int x1)]) hx hb nd_M_vfree_35 rfl hl (by decide) rfl (fun ls hl => ?_)
    refine lv_aload_n hx hb nd_M_vfree_36 rfl (lv_at hl 1 rfl) ?_
    refine lv_iload_n hx hb nd_M_vfree_37 rfl (lv_at hl 0 rfl) ?_
    refine lv_if_eq (tgt := 45) hx hb nd_M_vfree_38 (by decide) (fun hc => ?_) (fun hc => ?_)
    · have hf := mi_if_t hc hf
      refine lv_iconst (v := 1) hx hb nd_M_vfree_45 (by decide) ?_
      exact B46 x1 (1 : Int32) σ hf _ _ _ (lv_sub hl [1, 2] rfl) hP hD hS
    · have hf := mi_if_f hc hf
      refine lv_iconst (v := 0) hx hb nd_M_vfree_41 (by decide) ?_
      refine lv_goto (tgt := 46) hx hb nd_M_vfree_42 (by decide) ?_
      exact B46 x1 (0 : Int32) σ hf _ _ _ (lv_sub hl [1, 2] rfl) hP hD hS
  have B34 : ∀ (x1 : Int32) (σ : MS), mm_vfree_b34 x1 σ = some (v, σ') → bk_ p l e rm_M_vfree s m ([.ref (r 0), .int z1] : List Value).toArray below meth c (MQ below (qi_ (dC, dI) (wd_M r cI cZ) [(cI, .int), (cZ, .boolean)] A v σ') ([.ref (r 0), .int z1] : List Value).toArray s 0 0 A) A (dC, dI) (wd_M r cI cZ) 6 34 [(0, .ref (r 0)), (1, .int x1)] [] σ := by
    intro x1 σ hf ls H locs hl hP hD hS
    unfold mm_vfree_b34 at hf
    refine lv_iconst (v := 0) hx hb nd_M_vfree_34 (by decide) ?_
    exact B35 x1 (0 : Int32) σ hf _ _ _ (lv_sub hl [0, 1] rfl) hP hD hS
  have hH : s.heap = s.heap := rfl
  unfold mm_vfree at hf
  refine lv_iload_n hx hb nd_M_vfree_0 rfl (lv_at hl 1 rfl) ?_
  refine lv_iconst (v := 0) hx hb nd_M_vfree_1 (by decide) ?_
  refine lv_sipush (v := 1023) hx hb nd_M_vfree_2 (by decide) ?_
  obtain ⟨r1, hc, hf⟩ := mi_cp_el hf
  refine ca_i (va_runS (As := [.int z1, .int (0 : Int32), .int (1023 : Int32)]) (rest := []) ⟨hx, hb, hml, hown, hB⟩ (kw_M_in l dC dI r cI cZ _ σ z1 (0 : Int32) (1023 : Int32) r1 hc) ⟨callB_of 3 hB (gi_ lk_673) rfl rfl rfl (hB _ lk_7) (hB _ lk_671) (by decide +kernel) ⟨Nat.le_of_ble_eq_true rfl, Nat.le_of_ble_eq_true rfl⟩, hB _ lk_672⟩ ⟨bl_, pre_ hP hK hD hN⟩ rfl rfl hl.1 rfl (lv_room (Nat.le_of_ble_eq_true rfl)) nd_M_vfree_5 ⟨Nat.zero_le _, Nat.zero_le _⟩) hD hS hA (fun H locs hP hD hS => ?_)
  refine lv_if_eq (tgt := 34) hx hb nd_M_vfree_8 (by decide) (fun hc => ?_) (fun hc => ?_)
  · have hf := mi_if_t hc hf
    exact B34 z1 σ hf _ _ _ (lv_sub hl [0, 1] rfl) hP hD hS
  · have hf := mi_if_f hc hf
    refine lv_iload_n hx hb nd_M_vfree_11 rfl (lv_at hl 1 rfl) ?_
    refine lv_bipush (v := 16) hx hb nd_M_vfree_12 (by decide) ?_
    refine lv_irem hx hb nd_M_vfree_14 (by decide) ?_
    refine lv_if_ne (tgt := 34) hx hb nd_M_vfree_15 (by decide) (fun hc => ?_) (fun hc => ?_)
    · have hf := mi_if_f hc hf
      exact B34 z1 σ hf _ _ _ (lv_sub hl [0, 1] rfl) hP hD hS
    · have hf := mi_if_t hc hf
      refine lv_aload_n hx hb nd_M_vfree_18 rfl (lv_at hl 0 rfl) ?_
      refine va_get (D := (dC, dI)) (ci := 6) (v := .ref (r 7)) (C := RX6) (T := TX6) (N := 11) hx hb hB inB6 hown hK hP 0 rfl rfl 7 (by decide) (hB _ lk_636) (fun _ h9 => h9) rfl nd_M_vfree_19 ?_
      refine lv_iload_n hx hb nd_M_vfree_22 rfl (lv_at hl 1 rfl) ?_
      refine lv_bipush (v := 16) hx hb nd_M_vfree_23 (by decide) ?_
      refine lv_idiv hx hb nd_M_vfree_25 (by decide) ?_
      obtain ⟨hg, hf⟩ := mi_gd_el hf
      refine va_iald hx hb hK hP 7 0 rfl rfl hg nd_M_vfree_26 ?_
      refine lv_if_le (tgt := 34) hx hb nd_M_vfree_27 (by decide) (fun hc => ?_) (fun hc => ?_)
      · have hf := mi_if_t hc hf
        exact B34 z1 σ hf _ _ _ (lv_sub hl [0, 1] rfl) hP hD hS
      · have hf := mi_if_f hc hf
        refine lv_iconst (v := 1) hx hb nd_M_vfree_30 (by decide) ?_
        refine lv_goto (tgt := 35) hx hb nd_M_vfree_31 (by decide) ?_
        exact B35 z1 (1 : Int32) σ hf _ _ _ (lv_sub hl [0, 1] rfl) hP hD hS
abbrev rm_M_isSpace : Room := { frames := 1, cells := 0, slots := 0, locals := 22 }
set_option maxHeartbeats 4000000 in
set_option maxRecDepth 100000 in
theorem kw_M_isSpace (l : Launch) (dC : Nat → ClassId) (dI : Nat → Nat → Nat) (r : Nat → Nat) (cI cZ : ClassId) (sz : Nat) (σ : MS) (z1 : Int32) (v : Int32) (hf : mm_isSpace σ z1 = some v) : Met l ny_M_isSpace nw_M_isSpace rm_M_isSpace (va_Pc [.ref (r 0), .int z1] (pr_ (dC, dI) (wd_M r cI cZ) [(cI, .int), (cZ, .boolean)] sz σ)) (qi_ (dC, dI) (wd_M r cI cZ) [(cI, .int), (cZ, .boolean)] (va_A (wd_M r cI cZ σ) sz) v σ) 0 0 (va_A (wd_M r cI cZ σ) sz) := by
  refine Met.ofW (cc := nb_M_isSpace) (maxL := 2) (ret := (some .boolean)) (by decide) rfl ?_
  intro p e s m args below meth c s₁ B hml hv
  obtain ⟨rfl, hsz, hP, hK, hD0, hN⟩ := hv
  have hx := B.exec
  have hb := B.bytes
  have hr := B.returns
  have hts := atoms_spec (ws := nw_M_isSpace) B.pre
  have hB : ∀ w ∈ BG, w.before ([.ref (r 0), .int z1] : List Value).toArray s = true := fun w h => hts w (List.mem_cons_of_mem _ h)
  have hown : s.vm.findClass "MovedFramesModel" = some m.cls := findClass_of_methodNamed B.named
  have hlocks := B.notSynchronized
  subst hsz
  have hD := hD0.self (sz := s.heap.size)
  generalize hAe : va_A (wd_M r cI cZ σ) s.heap.size = A at hD ⊢
  have hA : ∀ q : Nat, s.heap.size ≤ q → A q := fun q h => by rw [← hAe]; exact Or.inr h
  have hS : va_S A s.heap s.heap [] := va_S.rf
  have hl := lv_entry ([.ref (r 0), .int z1]) (n := 2) (Nat.le_of_ble_eq_true rfl)
  rw [lg_entry_eq]
  generalize (lg_sl ([.ref (r 0), .int z1]) ++ List.replicate (2 - (lg_sl ([.ref (r 0), .int z1])).length) Slot.unset).toArray = ls at hl ⊢
  have hl : lv_has ls 2 [(0, .ref (r 0)), (1, .int z1)] := hl
  have hH : s.heap = s.heap := rfl
  unfold mm_isSpace at hf
  refine lv_iload_n hx hb nd_M_isSpace_0 rfl (lv_at hl 1 rfl) ?_
  refine lv_iconst (v := 0) hx hb nd_M_isSpace_1 (by decide) ?_
  refine lv_iconst (v := 3) hx hb nd_M_isSpace_2 (by decide) ?_
  obtain ⟨r1, hc, hf⟩ := mi_cp_el hf
  refine ca_i (va_runS (As := [.int z1, .int (0 : Int32), .int (3 : Int32)]) (rest := []) ⟨hx, hb, hml, hown, hB⟩ (kw_M_in l dC dI r cI cZ _ σ z1 (0 : Int32) (3 : Int32) r1 hc) ⟨callB_of 3 hB (gi_ lk_673) rfl rfl rfl (hB _ lk_7) (hB _ lk_671) (by decide +kernel) ⟨Nat.le_of_ble_eq_true rfl, Nat.le_of_ble_eq_true rfl⟩, hB _ lk_672⟩ ⟨bl_, pre_ hP hK hD hN⟩ rfl rfl hl.1 rfl (lv_room (Nat.le_of_ble_eq_true rfl)) nd_M_isSpace_3 ⟨Nat.zero_le _, Nat.zero_le _⟩) hD hS hA (fun H locs hP hD hS => ?_)
  refine lv_if_eq (tgt := 22) hx hb nd_M_isSpace_6 (by decide) (fun hc => ?_) (fun hc => ?_)
  · have hf := mi_if_t hc hf
    refine lv_iconst (v := 0) hx hb nd_M_isSpace_22 (by decide) ?_
    exact re_z hx hb hr hlocks (Or.inl rfl) (mi_eq hf) (rfl) hP hK hD hS nd_M_isSpace_23
  · have hf := mi_if_f hc hf
    refine lv_aload_n hx hb nd_M_isSpace_9 rfl (lv_at hl 0 rfl) ?_
    refine va_get (D := (dC, dI)) (ci := 6) (v := .ref (r 8)) (C := RX6) (T := TX6) (N := 11) hx hb hB inB6 hown hK hP 0 rfl rfl 8 (by decide) (hB _ lk_637) (fun _ h9 => h9) rfl nd_M_isSpace_10 ?_
    refine lv_iload_n hx hb nd_M_isSpace_13 rfl (lv_at hl 1 rfl) ?_
    obtain ⟨hg, hf⟩ := mi_gd_el hf
    refine va_iald hx hb hK hP 8 0 rfl rfl hg nd_M_isSpace_14 ?_
    refine lv_if_le (tgt := 22) hx hb nd_M_isSpace_15 (by decide) (fun hc => ?_) (fun hc => ?_)
    · have hf := mi_if_t hc hf
      refine lv_iconst (v := 0) hx hb nd_M_isSpace_22 (by decide) ?_
      exact re_z hx hb hr hlocks (Or.inl rfl) (mi_eq hf) (rfl) hP hK hD hS nd_M_isSpace_23
    · have hf := mi_if_f hc hf
      refine lv_iconst (v := 1) hx hb nd_M_isSpace_18 (by decide) ?_
      refine lv_goto (tgt := 23) hx hb nd_M_isSpace_19 (by decide) ?_
      exact re_z hx hb hr hlocks (Or.inr rfl) (mi_eq hf) (rfl) hP hK hD hS nd_M_isSpace_23
abbrev rm_M_create : Room := { frames := 4, cells := 0, slots := 0, locals := 91 }
set_option maxHeartbeats 4000000 in
set_option maxRecDepth 100000 in
theorem kw_M_create (l : Launch) (dC : Nat → ClassId) (dI : Nat → Nat → Nat) (r : Nat → Nat) (cI cZ : ClassId) (sz : Nat) (σ : MS) (v : Int32) (σ' : MS) (hf : mm_create σ = some (v, σ')) : Met l ny_M_create nw_M_create rm_M_create (va_Pc [.ref (r 0)] (pr_ (dC, dI) (wd_M r cI cZ) [(cI, .int), (cZ, .boolean)] sz σ)) (qi_ (dC, dI) (wd_M r cI cZ) [(cI, .int), (cZ, .boolean)] (va_A (wd_M r cI cZ σ) sz) v σ') 0 0 (va_A (wd_M r cI cZ σ) sz) := by
  refine Met.ofW (cc := nb_M_create) (maxL := 3) (ret := (some .int)) (by decide) rfl ?_
  intro p e s m args below meth c s₁ B hml hv
  obtain ⟨rfl, hsz, hP, hK, hD0, hN⟩ := hv
  have hx := B.exec
  have hb := B.bytes
  have hr := B.returns
  have hts := atoms_spec (ws := nw_M_create) B.pre
  have hB : ∀ w ∈ BG, w.before ([.ref (r 0)] : List Value).toArray s = true := fun w h => hts w (List.mem_cons_of_mem _ h)
  have hown : s.vm.findClass "MovedFramesModel" = some m.cls := findClass_of_methodNamed B.named
  have hlocks := B.notSynchronized
  subst hsz
  have hD := hD0.self (sz := s.heap.size)
  generalize hAe : va_A (wd_M r cI cZ σ) s.heap.size = A at hD ⊢
  have hA : ∀ q : Nat, s.heap.size ≤ q → A q := fun q h => by rw [← hAe]; exact Or.inr h
  have hS : va_S A s.heap s.heap [] := va_S.rf
  have hl := lv_entry ([.ref (r 0)]) (n := 3) (Nat.le_of_ble_eq_true rfl)
  rw [lg_entry_eq]
  generalize (lg_sl ([.ref (r 0)]) ++ List.replicate (3 - (lg_sl ([.ref (r 0)])).length) Slot.unset).toArray = ls at hl ⊢
  have hl : lv_has ls 3 [(0, .ref (r 0))] := hl
  have B51 : ∀ (x1 : Int32) (y1 : Int32) (σ : MS), mm_create_b51 x1 y1 σ = some (v, σ') → bk_ p l e rm_M_create s m ([.ref (r 0)] : List Value).toArray below meth c (MQ below (qi_ (dC, dI) (wd_M r cI cZ) [(cI, .int), (cZ, .boolean)] A v σ') ([.ref (r 0)] : List Value).toArray s 0 0 A) A (dC, dI) (wd_M r cI cZ) 3 51 [(0, .ref (r 0)), (1, .int x1)] [.int y1, .ref (r 0)] σ := by
    intro x1 y1 σ hf ls H locs hl hP hD hS
    unfold mm_create_b51 at hf
    obtain ⟨r2, σ1, hc, hf⟩ := mi_cw_el hf
    refine ca_i (va_runV (C := "MovedFramesModel") (As := [.int y1]) (rest := []) ⟨hx, hb, hml, hown, hB⟩ (kw_M_throwsBy l dC dI r cI cZ _ σ y1 r2 σ1 hc) ⟨callB_of 1 hB (gi_ lk_681) rfl rfl rfl (hB _ lk_7) (hB _ lk_678) (by decide +kernel) ⟨Nat.le_of_ble_eq_true rfl, Nat.le_of_ble_eq_true rfl⟩, hB _ lk_680, hB _ ls_26⟩ ⟨bl_, va_recv (ci := 6) (q0 := 0) hK hP rfl rfl, pre_ hP hK hD hN⟩ rfl rfl hl.1 rfl (lv_room (Nat.le_of_ble_eq_true rfl)) nd_M_create_51 ⟨Nat.zero_le _, Nat.zero_le _⟩) hD hS hA (fun H locs hP hD hS => ?_)
    refine lv_if_eq (tgt := 59) hx hb nd_M_create_54 (by decide) (fun hc => ?_) (fun hc => ?_)
    · have hf := mi_if_t hc hf
      refine lv_aload_n hx hb nd_M_create_59 rfl (lv_at hl 0 rfl) ?_
      refine va_get (D := (dC, dI)) (ci := 6) (v := .ref (r 8)) (C := RX6) (T := TX6) (N := 11) hx hb hB inB6 hown hK hP 0 rfl rfl 8 (by decide) (hB _ lk_637) (fun _ h9 => h9) rfl nd_M_create_60 ?_
      refine lv_iload_n hx hb nd_M_create_63 rfl (lv_at hl 1 rfl) ?_
      refine lv_iconst (v := 1) hx hb nd_M_create_64 (by decide) ?_
      refine lv_aload_n hx hb nd_M_create_65 rfl (lv_at hl 0 rfl) ?_
      refine lv_iconst (v := 1) hx hb nd_M_create_66 (by decide) ?_
      obtain ⟨r4, σ3, hc, hf⟩ := mi_cw_el hf
      refine ca_i (va_runV (C := "MovedFramesModel") (As := [.int (1 : Int32)]) (rest := [.int (1 : Int32), .int x1, .ref (r 8)]) ⟨hx, hb, hml, hown, hB⟩ (kw_M_give l dC dI r cI cZ _ σ1 (1 : Int32) r4 σ3 hc) ⟨callB_of 1 hB (gi_ lk_685) rfl rfl rfl (hB _ lk_7) (hB _ lk_682) (by decide +kernel) ⟨Nat.le_of_ble_eq_true rfl, Nat.le_of_ble_eq_true rfl⟩, hB _ lk_684, hB _ ls_27⟩ ⟨bl_, va_recv (ci := 6) (q0 := 0) hK hP rfl rfl, pre_ hP hK hD hN⟩ rfl rfl hl.1 rfl (lv_room (Nat.le_of_ble_eq_true rfl)) nd_M_create_67 ⟨Nat.zero_le _, Nat.zero_le _⟩) hD hS hA (fun H locs hP hD hS => ?_)
      refine lv_iadd hx hb nd_M_create_70 ?_
      obtain ⟨hg, hf⟩ := mi_gd_el hf
      refine va_iast hx hb hK hP hD hS 8 0 rfl rfl hg nd_M_create_71 (fun H locs hP hD hS => ?_)
      obtain ⟨σ5, e9, hf⟩ := mi_wr_ex hf
      have hP : va_P (dC, dI) vwCl (wd_M r cI cZ σ5) H := by rw [e9]; exact hP
      have hD : va_D A (wd_M r cI cZ σ5) := by rw [e9]; exact hD
      refine lv_iload_n hx hb nd_M_create_72 rfl (lv_at hl 1 rfl) ?_
      exact re_i hx hb hr hlocks ((mi_pr hf).1) ((mi_pr hf).2) hP hK hD hS nd_M_create_73
    · have hf := mi_if_f hc hf
      refine lv_iconst (v := 0) hx hb nd_M_create_57 (by decide) ?_
      exact re_i hx hb hr hlocks ((mi_pr hf).1) ((mi_pr hf).2) hP hK hD hS nd_M_create_58
  have B29 : ∀ (x1 : Int32) (σ : MS), mm_create_b29 x1 σ = some (v, σ') → bk_ p l e rm_M_create s m ([.ref (r 0)] : List Value).toArray below meth c (MQ below (qi_ (dC, dI) (wd_M r cI cZ) [(cI, .int), (cZ, .boolean)] A v σ') ([.ref (r 0)] : List Value).toArray s 0 0 A) A (dC, dI) (wd_M r cI cZ) 3 29 [(0, .ref (r 0)), (1, .int x1)] [] σ := by
    intro x1 σ hf ls H locs hl hP hD hS
    unfold mm_create_b29 at hf
    refine lv_aload_n hx hb nd_M_create_29 rfl (lv_at hl 0 rfl) ?_
    refine lv_aload_n hx hb nd_M_create_30 rfl (lv_at hl 0 rfl) ?_
    refine va_get (D := (dC, dI)) (ci := 6) (v := .ref (r 8)) (C := RX6) (T := TX6) (N := 11) hx hb hB inB6 hown hK hP 0 rfl rfl 8 (by decide) (hB _ lk_637) (fun _ h9 => h9) rfl nd_M_create_31 ?_
    refine lv_iload_n hx hb nd_M_create_34 rfl (lv_at hl 1 rfl) ?_
    obtain ⟨hg, hf⟩ := mi_gd_el hf
    refine va_iald hx hb hK hP 8 0 rfl rfl hg nd_M_create_35 ?_
    refine lv_if_gt (tgt := 46) hx hb nd_M_create_36 (by decide) (fun hc => ?_) (fun hc => ?_)
    · have hf := mi_if_t hc hf
      refine lv_iconst (v := 1) hx hb nd_M_create_46 (by decide) ?_
      refine lv_goto (tgt := 51) hx hb nd_M_create_47 (by decide) ?_
      exact B51 x1 (1 : Int32) σ hf _ _ _ (lv_sub hl [0, 1] rfl) hP hD hS
    · have hf := mi_if_f hc hf
      refine lv_aload_n hx hb nd_M_create_39 rfl (lv_at hl 0 rfl) ?_
      obtain ⟨r6, hc, hf⟩ := mi_cp_el hf
      refine ca_i (va_runV (C := "MovedFramesModel") (As := []) (rest := [.ref (r 0)]) ⟨hx, hb, hml, hown, hB⟩ (kw_M_countFree l dC dI r cI cZ _ σ r6 hc) ⟨callB_of 0 hB (gi_ lk_677) rfl rfl rfl (hB _ lk_7) (hB _ lk_674) (by decide +kernel) ⟨Nat.le_of_ble_eq_true rfl, Nat.le_of_ble_eq_true rfl⟩, hB _ lk_676, hB _ ls_25⟩ ⟨bl_, va_recv (ci := 6) (q0 := 0) hK hP rfl rfl, pre_ hP hK hD hN⟩ rfl rfl hl.1 rfl (lv_room (Nat.le_of_ble_eq_true rfl)) nd_M_create_40 ⟨Nat.zero_le _, Nat.zero_le _⟩) hD hS hA (fun H locs hP hD hS => ?_)
      refine lv_if_ne (tgt := 50) hx hb nd_M_create_43 (by decide) (fun hc => ?_) (fun hc => ?_)
      · have hf := mi_if_f hc hf
        refine lv_iconst (v := 0) hx hb nd_M_create_50 (by decide) ?_
        exact B51 x1 (0 : Int32) σ hf _ _ _ (lv_sub hl [0, 1] rfl) hP hD hS
      · have hf := mi_if_t hc hf
        refine lv_iconst (v := 1) hx hb nd_M_create_46 (by decide) ?_
        refine lv_goto (tgt := 51) hx hb nd_M_create_47 (by decide) ?_
        exact B51 x1 (1 : Int32) σ hf _ _ _ (lv_sub hl [0, 1] rfl) hP hD hS
  have B4 : ∀ (k4 : Int32 → Int32 → MS → Option (Int32 × MS)) (hk4 : ∀ (x1 : Int32) (x2 : Int32) (σ : MS), k4 x1 x2 σ = some (v, σ') → bk_ p l e rm_M_create s m ([.ref (r 0)] : List Value).toArray below meth c (MQ below (qi_ (dC, dI) (wd_M r cI cZ) [(cI, .int), (cZ, .boolean)] A v σ') ([.ref (r 0)] : List Value).toArray s 0 0 A) A (dC, dI) (wd_M r cI cZ) 3 4 [(0, .ref (r 0)), (1, .int x1), (2, .int x2)] [] σ) (x1 : Int32) (x2 : Int32) (σ : MS), mm_create_b4 k4 x1 x2 σ = some (v, σ') → bk_ p l e rm_M_create s m ([.ref (r 0)] : List Value).toArray below meth c (MQ below (qi_ (dC, dI) (wd_M r cI cZ) [(cI, .int), (cZ, .boolean)] A v σ') ([.ref (r 0)] : List Value).toArray s 0 0 A) A (dC, dI) (wd_M r cI cZ) 3 4 [(0, .ref (r 0)), (1, .int x1), (2, .int x2)] [] σ := by
    intro k4 hk4 x1 x2 σ hf ls H locs hl hP hD hS
    unfold mm_create_b4 at hf
    refine lv_iload_n hx hb nd_M_create_4 rfl (lv_at hl 2 rfl) ?_
    refine lv_if_lt (tgt := 29) hx hb nd_M_create_5 (by decide) (fun hc => ?_) (fun hc => ?_)
    · have hf := mi_if_t hc hf
      exact B29 x1 σ hf _ _ _ (lv_sub hl [0, 1] rfl) hP hD hS
    · have hf := mi_if_f hc hf
      refine lv_aload_n hx hb nd_M_create_8 rfl (lv_at hl 0 rfl) ?_
      refine va_get (D := (dC, dI)) (ci := 6) (v := .ref (r 8)) (C := RX6) (T := TX6) (N := 11) hx hb hB inB6 hown hK hP 0 rfl rfl 8 (by decide) (hB _ lk_637) (fun _ h9 => h9) rfl nd_M_create_9 ?_
      refine lv_iload_n hx hb nd_M_create_12 rfl (lv_at hl 2 rfl) ?_
      obtain ⟨hg, hf⟩ := mi_gd_el hf
      refine va_iald hx hb hK hP 8 0 rfl rfl hg nd_M_create_13 ?_
      refine lv_if_ne (tgt := 21) hx hb nd_M_create_14 (by decide) (fun hc => ?_) (fun hc => ?_)
      · have hf := mi_if_f hc hf
        refine lv_iload_n hx hb nd_M_create_21 rfl (lv_at hl 1 rfl) ?_
        refine lv_istore_n (lv' := [(1, .int x1), (0, .ref (r 0)), (2, .int x2)]) hx hb nd_M_create_22 rfl hl (by decide) rfl (fun ls hl => ?_)
        refine lv_iinc (k := 2) (v := x2 + (-1 : Int32)) (lv' := [(2, .int (x2 + (-1 : Int32))), (1, .int x1), (0, .ref (r 0))]) hx hb nd_M_create_23 hl rfl (congrArg (fun z => x2 + z) (by decide : Int32.ofInt (-1) = (-1 : Int32))) (by decide) rfl (fun ls hl => ?_)
        refine lv_goto (tgt := 4) hx hb nd_M_create_26 (by decide) ?_
        exact hk4 x1 (x2 + (-1 : Int32)) σ hf _ _ _ (lv_sub hl [2, 1, 0] rfl) hP hD hS
      · have hf := mi_if_t hc hf
        refine lv_iload_n hx hb nd_M_create_17 rfl (lv_at hl 2 rfl) ?_
        refine lv_goto (tgt := 22) hx hb nd_M_create_18 (by decide) ?_
        refine lv_istore_n (lv' := [(1, .int x2), (0, .ref (r 0)), (2, .int x2)]) hx hb nd_M_create_22 rfl hl (by decide) rfl (fun ls hl => ?_)
        refine lv_iinc (k := 2) (v := x2 + (-1 : Int32)) (lv' := [(2, .int (x2 + (-1 : Int32))), (1, .int x2), (0, .ref (r 0))]) hx hb nd_M_create_23 hl rfl (congrArg (fun z => x2 + z) (by decide : Int32.ofInt (-1) = (-1 : Int32))) (by decide) rfl (fun ls hl => ?_)
        refine lv_goto (tgt := 4) hx hb nd_M_create_26 (by decide) ?_
        exact hk4 x2 (x2 + (-1 : Int32)) σ hf _ _ _ (lv_sub hl [2, 1, 0] rfl) hP hD hS
  have L4 : ∀ (n : Nat) (x1 : Int32) (x2 : Int32) (σ : MS), mm_create_l4 n x1 x2 σ = some (v, σ') → bk_ p l e rm_M_create s m ([.ref (r 0)] : List Value).toArray below meth c (MQ below (qi_ (dC, dI) (wd_M r cI cZ) [(cI, .int), (cZ, .boolean)] A v σ') ([.ref (r 0)] : List Value).toArray s 0 0 A) A (dC, dI) (wd_M r cI cZ) 3 4 [(0, .ref (r 0)), (1, .int x1), (2, .int x2)] [] σ := by
    intro n
    induction n with
    | zero =>
      intro x1 x2 σ hf
      exact mi_no hf
    | succ n ih =>
      intro x1 x2 σ hf
      exact B4 (mm_create_l4 n) ih x1 x2 σ hf
  have hH : s.heap = s.heap := rfl
  unfold mm_create at hf
  refine lv_iconst (v := 3) hx hb nd_M_create_0 (by decide) ?_
  refine lv_istore_n (lv' := [(1, .int (3 : Int32)), (0, .ref (r 0))]) hx hb nd_M_create_1 rfl hl (by decide) rfl (fun ls hl => ?_)
  refine lv_iconst (v := 3) hx hb nd_M_create_2 (by decide) ?_
  refine lv_istore_n (lv' := [(2, .int (3 : Int32)), (1, .int (3 : Int32)), (0, .ref (r 0))]) hx hb nd_M_create_3 rfl hl (by decide) rfl (fun ls hl => ?_)
  exact L4 FU (3 : Int32) (3 : Int32) σ hf _ _ _ (lv_sub hl [2, 1, 0] rfl) hP hD hS
abbrev rm_M_rootEntry : Room := { frames := 0, cells := 0, slots := 0, locals := 0 }
set_option maxHeartbeats 4000000 in
set_option maxRecDepth 100000 in
theorem kw_M_rootEntry (l : Launch) (dC : Nat → ClassId) (dI : Nat → Nat → Nat) (r : Nat → Nat) (cI cZ : ClassId) (sz : Nat) (σ : MS) (z1 : Int32) (z2 : Int32) (v : Int32) (hf : mm_rootEntry σ z1 z2 = some v) : Met l ny_M_rootEntry nw_M_rootEntry rm_M_rootEntry (va_Pc [.ref (r 0), .int z1, .int z2] (pr_ (dC, dI) (wd_M r cI cZ) [(cI, .int), (cZ, .boolean)] sz σ)) (qi_ (dC, dI) (wd_M r cI cZ) [(cI, .int), (cZ, .boolean)] (va_A (wd_M r cI cZ σ) sz) v σ) 0 0 (va_A (wd_M r cI cZ σ) sz) := by
  refine Met.ofW (cc := nb_M_rootEntry) (maxL := 3) (ret := (some .int)) (by decide) rfl ?_
  intro p e s m args below meth c s₁ B hml hv
  obtain ⟨rfl, hsz, hP, hK, hD0, hN⟩ := hv
  have hx := B.exec
  have hb := B.bytes
  have hr := B.returns
  have hts := atoms_spec (ws := nw_M_rootEntry) B.pre
  have hB : ∀ w ∈ BG, w.before ([.ref (r 0), .int z1, .int z2] : List Value).toArray s = true := fun w h => hts w (List.mem_cons_of_mem _ h)
  have hown : s.vm.findClass "MovedFramesModel" = some m.cls := findClass_of_methodNamed B.named
  have hlocks := B.notSynchronized
  subst hsz
  have hD := hD0.self (sz := s.heap.size)
  generalize hAe : va_A (wd_M r cI cZ σ) s.heap.size = A at hD ⊢
  have hA : ∀ q : Nat, s.heap.size ≤ q → A q := fun q h => by rw [← hAe]; exact Or.inr h
  have hS : va_S A s.heap s.heap [] := va_S.rf
  have hl := lv_entry ([.ref (r 0), .int z1, .int z2]) (n := 3) (Nat.le_of_ble_eq_true rfl)
  rw [lg_entry_eq]
  generalize (lg_sl ([.ref (r 0), .int z1, .int z2]) ++ List.replicate (3 - (lg_sl ([.ref (r 0), .int z1, .int z2])).length) Slot.unset).toArray = ls at hl ⊢
  have hl : lv_has ls 3 [(0, .ref (r 0)), (1, .int z1), (2, .int z2)] := hl
  have hH : s.heap = s.heap := rfl
  unfold mm_rootEntry at hf
  refine lv_bipush (v := 16) hx hb nd_M_rootEntry_0 (by decide) ?_
  refine lv_aload_n hx hb nd_M_rootEntry_2 rfl (lv_at hl 0 rfl) ?_
  refine va_get (D := (dC, dI)) (ci := 6) (v := .ref (r 8)) (C := RX6) (T := TX6) (N := 11) hx hb hB inB6 hown hK hP 0 rfl rfl 8 (by decide) (hB _ lk_637) (fun _ h9 => h9) rfl nd_M_rootEntry_3 ?_
  refine lv_iload_n hx hb nd_M_rootEntry_6 rfl (lv_at hl 1 rfl) ?_
  obtain ⟨hg, hf⟩ := mi_gd_el hf
  refine va_iald hx hb hK hP 8 0 rfl rfl hg nd_M_rootEntry_7 ?_
  refine lv_iconst (v := 1) hx hb nd_M_rootEntry_8 (by decide) ?_
  refine lv_isub hx hb nd_M_rootEntry_9 ?_
  refine lv_imul hx hb nd_M_rootEntry_10 ?_
  refine lv_iload_n hx hb nd_M_rootEntry_11 rfl (lv_at hl 2 rfl) ?_
  refine lv_bipush (v := 16) hx hb nd_M_rootEntry_12 (by decide) ?_
  refine lv_idiv hx hb nd_M_rootEntry_14 (by decide) ?_
  refine lv_iadd hx hb nd_M_rootEntry_15 ?_
  exact re_i hx hb hr hlocks (mi_eq hf) (rfl) hP hK hD hS nd_M_rootEntry_16
abbrev rm_M_hasTable : Room := { frames := 1, cells := 0, slots := 0, locals := 22 }
set_option maxHeartbeats 4000000 in
set_option maxRecDepth 100000 in
theorem kw_M_hasTable (l : Launch) (dC : Nat → ClassId) (dI : Nat → Nat → Nat) (r : Nat → Nat) (cI cZ : ClassId) (sz : Nat) (σ : MS) (z1 : Int32) (z2 : Int32) (v : Int32) (hf : mm_hasTable σ z1 z2 = some v) : Met l ny_M_hasTable nw_M_hasTable rm_M_hasTable (va_Pc [.ref (r 0), .int z1, .int z2] (pr_ (dC, dI) (wd_M r cI cZ) [(cI, .int), (cZ, .boolean)] sz σ)) (qi_ (dC, dI) (wd_M r cI cZ) [(cI, .int), (cZ, .boolean)] (va_A (wd_M r cI cZ σ) sz) v σ) 0 0 (va_A (wd_M r cI cZ σ) sz) := by
  refine Met.ofW (cc := nb_M_hasTable) (maxL := 3) (ret := (some .boolean)) (by decide) rfl ?_
  intro p e s m args below meth c s₁ B hml hv
  obtain ⟨rfl, hsz, hP, hK, hD0, hN⟩ := hv
  have hx := B.exec
  have hb := B.bytes
  have hr := B.returns
  have hts := atoms_spec (ws := nw_M_hasTable) B.pre
  have hB : ∀ w ∈ BG, w.before ([.ref (r 0), .int z1, .int z2] : List Value).toArray s = true := fun w h => hts w (List.mem_cons_of_mem _ h)
  have hown : s.vm.findClass "MovedFramesModel" = some m.cls := findClass_of_methodNamed B.named
  have hlocks := B.notSynchronized
  subst hsz
  have hD := hD0.self (sz := s.heap.size)
  generalize hAe : va_A (wd_M r cI cZ σ) s.heap.size = A at hD ⊢
  have hA : ∀ q : Nat, s.heap.size ≤ q → A q := fun q h => by rw [← hAe]; exact Or.inr h
  have hS : va_S A s.heap s.heap [] := va_S.rf
  have hl := lv_entry ([.ref (r 0), .int z1, .int z2]) (n := 3) (Nat.le_of_ble_eq_true rfl)
  rw [lg_entry_eq]
  generalize (lg_sl ([.ref (r 0), .int z1, .int z2]) ++ List.replicate (3 - (lg_sl ([.ref (r 0), .int z1, .int z2])).length) Slot.unset).toArray = ls at hl ⊢
  have hl : lv_has ls 3 [(0, .ref (r 0)), (1, .int z1), (2, .int z2)] := hl
  have hH : s.heap = s.heap := rfl
  unfold mm_hasTable at hf
  refine lv_aload_n hx hb nd_M_hasTable_0 rfl (lv_at hl 0 rfl) ?_
  refine va_get (D := (dC, dI)) (ci := 6) (v := .ref (r 2)) (C := RX6) (T := TX6) (N := 11) hx hb hB inB6 hown hK hP 0 rfl rfl 2 (by decide) (hB _ lk_631) (fun _ h9 => h9) rfl nd_M_hasTable_1 ?_
  refine lv_aload_n hx hb nd_M_hasTable_4 rfl (lv_at hl 0 rfl) ?_
  refine lv_iload_n hx hb nd_M_hasTable_5 rfl (lv_at hl 1 rfl) ?_
  refine lv_iload_n hx hb nd_M_hasTable_6 rfl (lv_at hl 2 rfl) ?_
  obtain ⟨r1, hc, hf⟩ := mi_cp_el hf
  refine ca_i (va_runV (C := "MovedFramesModel") (As := [.int z1, .int z2]) (rest := [.ref (r 2)]) ⟨hx, hb, hml, hown, hB⟩ (kw_M_rootEntry l dC dI r cI cZ _ σ z1 z2 r1 hc) ⟨callB_of 2 hB (gi_ lk_749) rfl rfl rfl (hB _ lk_7) (hB _ lk_746) (by decide +kernel) ⟨Nat.le_of_ble_eq_true rfl, Nat.le_of_ble_eq_true rfl⟩, hB _ lk_748, hB _ ls_38⟩ ⟨bl_, va_recv (ci := 6) (q0 := 0) hK hP rfl rfl, pre_ hP hK hD hN⟩ rfl rfl hl.1 rfl (lv_room (Nat.le_of_ble_eq_true rfl)) nd_M_hasTable_7 ⟨Nat.zero_le _, Nat.zero_le _⟩) hD hS hA (fun H locs hP hD hS => ?_)
  obtain ⟨hg, hf⟩ := mi_gd_el hf
  refine va_iald hx hb hK hP 2 0 rfl rfl hg nd_M_hasTable_10 ?_
  refine lv_if_le (tgt := 18) hx hb nd_M_hasTable_11 (by decide) (fun hc => ?_) (fun hc => ?_)
  · have hf := mi_if_t hc hf
    refine lv_iconst (v := 0) hx hb nd_M_hasTable_18 (by decide) ?_
    exact re_z hx hb hr hlocks (Or.inl rfl) (mi_eq hf) (rfl) hP hK hD hS nd_M_hasTable_19
  · have hf := mi_if_f hc hf
    refine lv_iconst (v := 1) hx hb nd_M_hasTable_14 (by decide) ?_
    refine lv_goto (tgt := 19) hx hb nd_M_hasTable_15 (by decide) ?_
    exact re_z hx hb hr hlocks (Or.inr rfl) (mi_eq hf) (rfl) hP hK hD hS nd_M_hasTable_19
abbrev rm_M_entry : Room := { frames := 1, cells := 0, slots := 0, locals := 22 }
set_option maxHeartbeats 4000000 in
set_option maxRecDepth 100000 in
theorem kw_M_entry (l : Launch) (dC : Nat → ClassId) (dI : Nat → Nat → Nat) (r : Nat → Nat) (cI cZ : ClassId) (sz : Nat) (σ : MS) (z1 : Int32) (z2 : Int32) (v : Int32) (hf : mm_entry σ z1 z2 = some v) : Met l ny_M_entry nw_M_entry rm_M_entry (va_Pc [.ref (r 0), .int z1, .int z2] (pr_ (dC, dI) (wd_M r cI cZ) [(cI, .int), (cZ, .boolean)] sz σ)) (qi_ (dC, dI) (wd_M r cI cZ) [(cI, .int), (cZ, .boolean)] (va_A (wd_M r cI cZ σ) sz) v σ) 0 0 (va_A (wd_M r cI cZ σ) sz) := by
  refine Met.ofW (cc := nb_M_entry) (maxL := 3) (ret := (some .int)) (by decide) rfl ?_
  intro p e s m args below meth c s₁ B hml hv
  obtain ⟨rfl, hsz, hP, hK, hD0, hN⟩ := hv
  have hx := B.exec
  have hb := B.bytes
  have hr := B.returns
  have hts := atoms_spec (ws := nw_M_entry) B.pre
  have hB : ∀ w ∈ BG, w.before ([.ref (r 0), .int z1, .int z2] : List Value).toArray s = true := fun w h => hts w (List.mem_cons_of_mem _ h)
  have hown : s.vm.findClass "MovedFramesModel" = some m.cls := findClass_of_methodNamed B.named
  have hlocks := B.notSynchronized
  subst hsz
  have hD := hD0.self (sz := s.heap.size)
  generalize hAe : va_A (wd_M r cI cZ σ) s.heap.size = A at hD ⊢
  have hA : ∀ q : Nat, s.heap.size ≤ q → A q := fun q h => by rw [← hAe]; exact Or.inr h
  have hS : va_S A s.heap s.heap [] := va_S.rf
  have hl := lv_entry ([.ref (r 0), .int z1, .int z2]) (n := 3) (Nat.le_of_ble_eq_true rfl)
  rw [lg_entry_eq]
  generalize (lg_sl ([.ref (r 0), .int z1, .int z2]) ++ List.replicate (3 - (lg_sl ([.ref (r 0), .int z1, .int z2])).length) Slot.unset).toArray = ls at hl ⊢
  have hl : lv_has ls 3 [(0, .ref (r 0)), (1, .int z1), (2, .int z2)] := hl
  have hH : s.heap = s.heap := rfl
  unfold mm_entry at hf
  refine lv_bipush (v := 16) hx hb nd_M_entry_0 (by decide) ?_
  refine lv_aload_n hx hb nd_M_entry_2 rfl (lv_at hl 0 rfl) ?_
  refine va_get (D := (dC, dI)) (ci := 6) (v := .ref (r 2)) (C := RX6) (T := TX6) (N := 11) hx hb hB inB6 hown hK hP 0 rfl rfl 2 (by decide) (hB _ lk_631) (fun _ h9 => h9) rfl nd_M_entry_3 ?_
  refine lv_aload_n hx hb nd_M_entry_6 rfl (lv_at hl 0 rfl) ?_
  refine lv_iload_n hx hb nd_M_entry_7 rfl (lv_at hl 1 rfl) ?_
  refine lv_iload_n hx hb nd_M_entry_8 rfl (lv_at hl 2 rfl) ?_
  obtain ⟨r1, hc, hf⟩ := mi_cp_el hf
  refine ca_i (va_runV (C := "MovedFramesModel") (As := [.int z1, .int z2]) (rest := [.ref (r 2), .int (16 : Int32)]) ⟨hx, hb, hml, hown, hB⟩ (kw_M_rootEntry l dC dI r cI cZ _ σ z1 z2 r1 hc) ⟨callB_of 2 hB (gi_ lk_749) rfl rfl rfl (hB _ lk_7) (hB _ lk_746) (by decide +kernel) ⟨Nat.le_of_ble_eq_true rfl, Nat.le_of_ble_eq_true rfl⟩, hB _ lk_748, hB _ ls_38⟩ ⟨bl_, va_recv (ci := 6) (q0 := 0) hK hP rfl rfl, pre_ hP hK hD hN⟩ rfl rfl hl.1 rfl (lv_room (Nat.le_of_ble_eq_true rfl)) nd_M_entry_9 ⟨Nat.zero_le _, Nat.zero_le _⟩) hD hS hA (fun H locs hP hD hS => ?_)
  obtain ⟨hg, hf⟩ := mi_gd_el hf
  refine va_iald hx hb hK hP 2 0 rfl rfl hg nd_M_entry_12 ?_
  refine lv_iconst (v := 1) hx hb nd_M_entry_13 (by decide) ?_
  refine lv_isub hx hb nd_M_entry_14 ?_
  refine lv_imul hx hb nd_M_entry_15 ?_
  refine lv_iload_n hx hb nd_M_entry_16 rfl (lv_at hl 2 rfl) ?_
  refine lv_bipush (v := 16) hx hb nd_M_entry_17 (by decide) ?_
  refine lv_irem hx hb nd_M_entry_19 (by decide) ?_
  refine lv_iadd hx hb nd_M_entry_20 ?_
  exact re_i hx hb hr hlocks (mi_eq hf) (rfl) hP hK hD hS nd_M_entry_21
abbrev rm_M_frameOf : Room := { frames := 2, cells := 0, slots := 0, locals := 44 }
set_option maxHeartbeats 4000000 in
set_option maxRecDepth 100000 in
theorem kw_M_frameOf (l : Launch) (dC : Nat → ClassId) (dI : Nat → Nat → Nat) (r : Nat → Nat) (cI cZ : ClassId) (sz : Nat) (σ : MS) (z1 : Int32) (z2 : Int32) (v : Int32) (hf : mm_frameOf σ z1 z2 = some v) : Met l ny_M_frameOf nw_M_frameOf rm_M_frameOf (va_Pc [.ref (r 0), .int z1, .int z2] (pr_ (dC, dI) (wd_M r cI cZ) [(cI, .int), (cZ, .boolean)] sz σ)) (qi_ (dC, dI) (wd_M r cI cZ) [(cI, .int), (cZ, .boolean)] (va_A (wd_M r cI cZ σ) sz) v σ) 0 0 (va_A (wd_M r cI cZ σ) sz) := by
  refine Met.ofW (cc := nb_M_frameOf) (maxL := 3) (ret := (some .int)) (by decide) rfl ?_
  intro p e s m args below meth c s₁ B hml hv
  obtain ⟨rfl, hsz, hP, hK, hD0, hN⟩ := hv
  have hx := B.exec
  have hb := B.bytes
  have hr := B.returns
  have hts := atoms_spec (ws := nw_M_frameOf) B.pre
  have hB : ∀ w ∈ BG, w.before ([.ref (r 0), .int z1, .int z2] : List Value).toArray s = true := fun w h => hts w (List.mem_cons_of_mem _ h)
  have hown : s.vm.findClass "MovedFramesModel" = some m.cls := findClass_of_methodNamed B.named
  have hlocks := B.notSynchronized
  subst hsz
  have hD := hD0.self (sz := s.heap.size)
  generalize hAe : va_A (wd_M r cI cZ σ) s.heap.size = A at hD ⊢
  have hA : ∀ q : Nat, s.heap.size ≤ q → A q := fun q h => by rw [← hAe]; exact Or.inr h
  have hS : va_S A s.heap s.heap [] := va_S.rf
  have hl := lv_entry ([.ref (r 0), .int z1, .int z2]) (n := 3) (Nat.le_of_ble_eq_true rfl)
  rw [lg_entry_eq]
  generalize (lg_sl ([.ref (r 0), .int z1, .int z2]) ++ List.replicate (3 - (lg_sl ([.ref (r 0), .int z1, .int z2])).length) Slot.unset).toArray = ls at hl ⊢
  have hl : lv_has ls 3 [(0, .ref (r 0)), (1, .int z1), (2, .int z2)] := hl
  have hH : s.heap = s.heap := rfl
  unfold mm_frameOf at hf
  refine lv_aload_n hx hb nd_M_frameOf_0 rfl (lv_at hl 0 rfl) ?_
  refine lv_iload_n hx hb nd_M_frameOf_1 rfl (lv_at hl 1 rfl) ?_
  refine lv_iload_n hx hb nd_M_frameOf_2 rfl (lv_at hl 2 rfl) ?_
  obtain ⟨r1, hc, hf⟩ := mi_cp_el hf
  refine ca_i (va_runV (C := "MovedFramesModel") (As := [.int z1, .int z2]) (rest := []) ⟨hx, hb, hml, hown, hB⟩ (kw_M_hasTable l dC dI r cI cZ _ σ z1 z2 r1 hc) ⟨callB_of 2 hB (gi_ lk_745) rfl rfl rfl (hB _ lk_7) (hB _ lk_742) (by decide +kernel) ⟨Nat.le_of_ble_eq_true rfl, Nat.le_of_ble_eq_true rfl⟩, hB _ lk_744, hB _ ls_37⟩ ⟨bl_, va_recv (ci := 6) (q0 := 0) hK hP rfl rfl, pre_ hP hK hD hN⟩ rfl rfl hl.1 rfl (lv_room (Nat.le_of_ble_eq_true rfl)) nd_M_frameOf_3 ⟨Nat.zero_le _, Nat.zero_le _⟩) hD hS hA (fun H locs hP hD hS => ?_)
  refine lv_if_eq (tgt := 25) hx hb nd_M_frameOf_6 (by decide) (fun hc => ?_) (fun hc => ?_)
  · have hf := mi_if_t hc hf
    refine lv_iconst (v := (-1)) hx hb nd_M_frameOf_25 (by decide) ?_
    exact re_i hx hb hr hlocks (mi_eq hf) (rfl) hP hK hD hS nd_M_frameOf_26
  · have hf := mi_if_f hc hf
    refine lv_aload_n hx hb nd_M_frameOf_9 rfl (lv_at hl 0 rfl) ?_
    refine va_get (D := (dC, dI)) (ci := 6) (v := .ref (r 2)) (C := RX6) (T := TX6) (N := 11) hx hb hB inB6 hown hK hP 0 rfl rfl 2 (by decide) (hB _ lk_631) (fun _ h9 => h9) rfl nd_M_frameOf_10 ?_
    refine lv_aload_n hx hb nd_M_frameOf_13 rfl (lv_at hl 0 rfl) ?_
    refine lv_iload_n hx hb nd_M_frameOf_14 rfl (lv_at hl 1 rfl) ?_
    refine lv_iload_n hx hb nd_M_frameOf_15 rfl (lv_at hl 2 rfl) ?_
    obtain ⟨r2, hc, hf⟩ := mi_cp_el hf
    refine ca_i (va_runV (C := "MovedFramesModel") (As := [.int z1, .int z2]) (rest := [.ref (r 2)]) ⟨hx, hb, hml, hown, hB⟩ (kw_M_entry l dC dI r cI cZ _ σ z1 z2 r2 hc) ⟨callB_of 2 hB (gi_ lk_753) rfl rfl rfl (hB _ lk_7) (hB _ lk_750) (by decide +kernel) ⟨Nat.le_of_ble_eq_true rfl, Nat.le_of_ble_eq_true rfl⟩, hB _ lk_752, hB _ ls_39⟩ ⟨bl_, va_recv (ci := 6) (q0 := 0) hK hP rfl rfl, pre_ hP hK hD hN⟩ rfl rfl hl.1 rfl (lv_room (Nat.le_of_ble_eq_true rfl)) nd_M_frameOf_16 ⟨Nat.zero_le _, Nat.zero_le _⟩) hD hS hA (fun H locs hP hD hS => ?_)
    obtain ⟨hg, hf⟩ := mi_gd_el hf
    refine va_iald hx hb hK hP 2 0 rfl rfl hg nd_M_frameOf_19 ?_
    refine lv_iconst (v := 1) hx hb nd_M_frameOf_20 (by decide) ?_
    refine lv_isub hx hb nd_M_frameOf_21 ?_
    refine lv_goto (tgt := 26) hx hb nd_M_frameOf_22 (by decide) ?_
    exact re_i hx hb hr hlocks (mi_eq hf) (rfl) hP hK hD hS nd_M_frameOf_26
abbrev rm_M_drop : Room := { frames := 3, cells := 0, slots := 0, locals := 66 }
set_option maxHeartbeats 4000000 in
set_option maxRecDepth 100000 in
theorem kw_M_drop (l : Launch) (dC : Nat → ClassId) (dI : Nat → Nat → Nat) (r : Nat → Nat) (cI cZ : ClassId) (sz : Nat) (σ : MS) (z1 : Int32) (z2 : Int32) (v : Int32) (σ' : MS) (hf : mm_drop σ z1 z2 = some (v, σ')) : Met l ny_M_drop nw_M_drop rm_M_drop (va_Pc [.ref (r 0), .int z1, .int z2] (pr_ (dC, dI) (wd_M r cI cZ) [(cI, .int), (cZ, .boolean)] sz σ)) (qi_ (dC, dI) (wd_M r cI cZ) [(cI, .int), (cZ, .boolean)] (va_A (wd_M r cI cZ σ) sz) v σ') 0 0 (va_A (wd_M r cI cZ σ) sz) := by
  refine Met.ofW (cc := nb_M_drop) (maxL := 7) (ret := (some .int)) (by decide) rfl ?_
  intro p e s m args below meth c s₁ B hml hv
  obtain ⟨rfl, hsz, hP, hK, hD0, hN⟩ := hv
  have hx := B.exec
  have hb := B.bytes
  have hr := B.returns
  have hts := atoms_spec (ws := nw_M_drop) B.pre
  have hB : ∀ w ∈ BG, w.before ([.ref (r 0), .int z1, .int z2] : List Value).toArray s = true := fun w h => hts w (List.mem_cons_of_mem _ h)
  have hown : s.vm.findClass "MovedFramesModel" = some m.cls := findClass_of_methodNamed B.named
  have hlocks := B.notSynchronized
  subst hsz
  have hD := hD0.self (sz := s.heap.size)
  generalize hAe : va_A (wd_M r cI cZ σ) s.heap.size = A at hD ⊢
  have hA : ∀ q : Nat, s.heap.size ≤ q → A q := fun q h => by rw [← hAe]; exact Or.inr h
  have hS : va_S A s.heap s.heap [] := va_S.rf
  have hl := lv_entry ([.ref (r 0), .int z1, .int z2]) (n := 7) (Nat.le_of_ble_eq_true rfl)
  rw [lg_entry_eq]
  generalize (lg_sl ([.ref (r 0), .int z1, .int z2]) ++ List.replicate (7 - (lg_sl ([.ref (r 0), .int z1, .int z2])).length) Slot.unset).toArray = ls at hl ⊢
  have hl : lv_has ls 7 [(0, .ref (r 0)), (1, .int z1), (2, .int z2)] := hl
  have B94 : ∀ (x1 : Int32) (x2 : Int32) (x4 : Int32) (x5 : Int32) (σ : MS), mm_drop_b94 x1 x2 x4 x5 σ = some (v, σ') → bk_ p l e rm_M_drop s m ([.ref (r 0), .int z1, .int z2] : List Value).toArray below meth c (MQ below (qi_ (dC, dI) (wd_M r cI cZ) [(cI, .int), (cZ, .boolean)] A v σ') ([.ref (r 0), .int z1, .int z2] : List Value).toArray s 0 0 A) A (dC, dI) (wd_M r cI cZ) 7 94 [(0, .ref (r 0)), (1, .int x1), (2, .int x2), (4, .int x4), (5, .int x5)] [] σ := by
    intro x1 x2 x4 x5 σ hf ls H locs hl hP hD hS
    unfold mm_drop_b94 at hf
    refine lv_iload hx hb nd_M_drop_94 (lv_at hl 4 rfl) ?_
    refine lv_if_ne (tgt := 101) hx hb nd_M_drop_96 (by decide) (fun hc => ?_) (fun hc => ?_)
    · have hf := mi_if_f hc hf
      refine lv_aload_n hx hb nd_M_drop_101 rfl (lv_at hl 0 rfl) ?_
      refine va_get (D := (dC, dI)) (ci := 6) (v := .ref (r 1)) (C := RX6) (T := TX6) (N := 11) hx hb hB inB6 hown hK hP 0 rfl rfl 1 (by decide) (hB _ lk_630) (fun _ h9 => h9) rfl nd_M_drop_102 ?_
      refine lv_iload hx hb nd_M_drop_105 (lv_at hl 3 rfl) ?_
      refine lv_iconst (v := 0) hx hb nd_M_drop_107 (by decide) ?_
      obtain ⟨hg, hf⟩ := mi_gd_el hf
      refine va_iast hx hb hK hP hD hS 1 0 rfl rfl hg nd_M_drop_108 (fun H locs hP hD hS => ?_)
      obtain ⟨σ6, e9, hf⟩ := mi_wr_ex hf
      have hP : va_P (dC, dI) vwCl (wd_M r cI cZ σ6) H := by rw [e9]; exact hP
      have hD : va_D A (wd_M r cI cZ σ6) := by rw [e9]; exact hD
      refine lv_aload_n hx hb nd_M_drop_109 rfl (lv_at hl 0 rfl) ?_
      refine va_get (D := (dC, dI)) (ci := 6) (v := .ref (r 2)) (C := RX6) (T := TX6) (N := 11) hx hb hB inB6 hown hK hP 0 rfl rfl 2 (by decide) (hB _ lk_631) (fun _ h9 => h9) rfl nd_M_drop_110 ?_
      refine lv_aload_n hx hb nd_M_drop_113 rfl (lv_at hl 0 rfl) ?_
      refine lv_iload_n hx hb nd_M_drop_114 rfl (lv_at hl 1 rfl) ?_
      refine lv_iload_n hx hb nd_M_drop_115 rfl (lv_at hl 2 rfl) ?_
      obtain ⟨r7, hc, hf⟩ := mi_cp_el hf
      refine ca_i (va_runV (C := "MovedFramesModel") (As := [.int x1, .int x2]) (rest := [.ref (r 2)]) ⟨hx, hb, hml, hown, hB⟩ (kw_M_rootEntry l dC dI r cI cZ _ σ6 x1 x2 r7 hc) ⟨callB_of 2 hB (gi_ lk_749) rfl rfl rfl (hB _ lk_7) (hB _ lk_746) (by decide +kernel) ⟨Nat.le_of_ble_eq_true rfl, Nat.le_of_ble_eq_true rfl⟩, hB _ lk_748, hB _ ls_38⟩ ⟨bl_, va_recv (ci := 6) (q0 := 0) hK hP rfl rfl, pre_ hP hK hD hN⟩ rfl rfl hl.1 rfl (lv_room (Nat.le_of_ble_eq_true rfl)) nd_M_drop_116 ⟨Nat.zero_le _, Nat.zero_le _⟩) hD hS hA (fun H locs hP hD hS => ?_)
      refine lv_iconst (v := 0) hx hb nd_M_drop_119 (by decide) ?_
      obtain ⟨hg, hf⟩ := mi_gd_el hf
      refine va_iast hx hb hK hP hD hS 2 0 rfl rfl hg nd_M_drop_120 (fun H locs hP hD hS => ?_)
      obtain ⟨σ8, e9, hf⟩ := mi_wr_ex hf
      have hP : va_P (dC, dI) vwCl (wd_M r cI cZ σ8) H := by rw [e9]; exact hP
      have hD : va_D A (wd_M r cI cZ σ8) := by rw [e9]; exact hD
      refine lv_iconst (v := 2) hx hb nd_M_drop_121 (by decide) ?_
      exact re_i hx hb hr hlocks ((mi_pr hf).1) ((mi_pr hf).2) hP hK hD hS nd_M_drop_122
    · have hf := mi_if_t hc hf
      refine lv_iconst (v := 1) hx hb nd_M_drop_99 (by decide) ?_
      exact re_i hx hb hr hlocks ((mi_pr hf).1) ((mi_pr hf).2) hP hK hD hS nd_M_drop_100
  have B53 : ∀ (k53 : Int32 → Int32 → Int32 → Int32 → Int32 → MS → Option (Int32 × MS)) (hk53 : ∀ (x1 : Int32) (x2 : Int32) (x4 : Int32) (x5 : Int32) (x6 : Int32) (σ : MS), k53 x1 x2 x4 x5 x6 σ = some (v, σ') → bk_ p l e rm_M_drop s m ([.ref (r 0), .int z1, .int z2] : List Value).toArray below meth c (MQ below (qi_ (dC, dI) (wd_M r cI cZ) [(cI, .int), (cZ, .boolean)] A v σ') ([.ref (r 0), .int z1, .int z2] : List Value).toArray s 0 0 A) A (dC, dI) (wd_M r cI cZ) 7 53 [(0, .ref (r 0)), (1, .int x1), (2, .int x2), (4, .int x4), (5, .int x5), (6, .int x6)] [] σ) (x1 : Int32) (x2 : Int32) (x4 : Int32) (x5 : Int32) (x6 : Int32) (σ : MS), mm_drop_b53 k53 x1 x2 x4 x5 x6 σ = some (v, σ') → bk_ p l e rm_M_drop s m ([.ref (r 0), .int z1, .int z2] : List Value).toArray below meth c (MQ below (qi_ (dC, dI) (wd_M r cI cZ) [(cI, .int), (cZ, .boolean)] A v σ') ([.ref (r 0), .int z1, .int z2] : List Value).toArray s 0 0 A) A (dC, dI) (wd_M r cI cZ) 7 53 [(0, .ref (r 0)), (1, .int x1), (2, .int x2), (4, .int x4), (5, .int x5), (6, .int x6)] [] σ := by
    intro k53 hk53 x1 x2 x4 x5 x6 σ hf ls H locs hl hP hD hS
    unfold mm_drop_b53 at hf
    refine lv_iload hx hb nd_M_drop_53 (lv_at hl 5 rfl) ?_
    refine lv_bipush (v := 16) hx hb nd_M_drop_55 (by decide) ?_
    refine lv_icmp_ge (tgt := 94) hx hb nd_M_drop_57 (by decide) (fun hc => ?_) (fun hc => ?_)
    · have hf := mi_if_t hc hf
      exact B94 x1 x2 x4 x5 σ hf _ _ _ (lv_sub hl [0, 1, 2, 3, 4] rfl) hP hD hS
    · have hf := mi_if_f hc hf
      refine lv_iload hx hb nd_M_drop_60 (lv_at hl 4 rfl) ?_
      refine lv_if_eq (tgt := 85) hx hb nd_M_drop_62 (by decide) (fun hc => ?_) (fun hc => ?_)
      · have hf := mi_if_t hc hf
        refine lv_iconst (v := 0) hx hb nd_M_drop_85 (by decide) ?_
        refine lv_istore (lv' := [(5, .int (0 : Int32)), (0, .ref (r 0)), (1, .int x1), (2, .int x2), (4, .int x4), (6, .int x6)]) hx hb nd_M_drop_86 hl (by decide) rfl (fun ls hl => ?_)
        refine lv_iinc (k := 5) (v := x6 + (1 : Int32)) (lv' := [(6, .int (x6 + (1 : Int32))), (5, .int (0 : Int32)), (0, .ref (r 0)), (1, .int x1), (2, .int x2), (4, .int x4)]) hx hb nd_M_drop_88 hl rfl (congrArg (fun z => x6 + z) (by decide : Int32.ofInt 1 = (1 : Int32))) (by decide) rfl (fun ls hl => ?_)
        refine lv_goto (tgt := 53) hx hb nd_M_drop_91 (by decide) ?_
        exact hk53 x1 x2 x4 (0 : Int32) (x6 + (1 : Int32)) σ hf _ _ _ (lv_sub hl [2, 3, 4, 5, 1, 0] rfl) hP hD hS
      · have hf := mi_if_f hc hf
        refine lv_aload_n hx hb nd_M_drop_65 rfl (lv_at hl 0 rfl) ?_
        refine va_get (D := (dC, dI)) (ci := 6) (v := .ref (r 2)) (C := RX6) (T := TX6) (N := 11) hx hb hB inB6 hown hK hP 0 rfl rfl 2 (by decide) (hB _ lk_631) (fun _ h9 => h9) rfl nd_M_drop_66 ?_
        refine lv_bipush (v := 16) hx hb nd_M_drop_69 (by decide) ?_
        refine lv_iload hx hb nd_M_drop_71 (lv_at hl 3 rfl) ?_
        refine lv_imul hx hb nd_M_drop_73 ?_
        refine lv_iload hx hb nd_M_drop_74 (lv_at hl 5 rfl) ?_
        refine lv_iadd hx hb nd_M_drop_76 ?_
        obtain ⟨hg, hf⟩ := mi_gd_el hf
        refine va_iald hx hb hK hP 2 0 rfl rfl hg nd_M_drop_77 ?_
        refine lv_if_ne (tgt := 85) hx hb nd_M_drop_78 (by decide) (fun hc => ?_) (fun hc => ?_)
        · have hf := mi_if_f hc hf
          refine lv_iconst (v := 0) hx hb nd_M_drop_85 (by decide) ?_
          refine lv_istore (lv' := [(5, .int (0 : Int32)), (0, .ref (r 0)), (1, .int x1), (2, .int x2), (4, .int x4), (6, .int x6)]) hx hb nd_M_drop_86 hl (by decide) rfl (fun ls hl => ?_)
          refine lv_iinc (k := 5) (v := x6 + (1 : Int32)) (lv' := [(6, .int (x6 + (1 : Int32))), (5, .int (0 : Int32)), (0, .ref (r 0)), (1, .int x1), (2, .int x2), (4, .int x4)]) hx hb nd_M_drop_88 hl rfl (congrArg (fun z => x6 + z) (by decide : Int32.ofInt 1 = (1 : Int32))) (by decide) rfl (fun ls hl => ?_)
          refine lv_goto (tgt := 53) hx hb nd_M_drop_91 (by decide) ?_
          exact hk53 x1 x2 x4 (0 : Int32) (x6 + (1 : Int32)) σ hf _ _ _ (lv_sub hl [2, 3, 4, 5, 1, 0] rfl) hP hD hS
        · have hf := mi_if_t hc hf
          refine lv_iconst (v := 1) hx hb nd_M_drop_81 (by decide) ?_
          refine lv_goto (tgt := 86) hx hb nd_M_drop_82 (by decide) ?_
          refine lv_istore (lv' := [(5, .int (1 : Int32)), (0, .ref (r 0)), (1, .int x1), (2, .int x2), (4, .int x4), (6, .int x6)]) hx hb nd_M_drop_86 hl (by decide) rfl (fun ls hl => ?_)
          refine lv_iinc (k := 5) (v := x6 + (1 : Int32)) (lv' := [(6, .int (x6 + (1 : Int32))), (5, .int (1 : Int32)), (0, .ref (r 0)), (1, .int x1), (2, .int x2), (4, .int x4)]) hx hb nd_M_drop_88 hl rfl (congrArg (fun z => x6 + z) (by decide : Int32.ofInt 1 = (1 : Int32))) (by decide) rfl (fun ls hl => ?_)
          refine lv_goto (tgt := 53) hx hb nd_M_drop_91 (by decide) ?_
          exact hk53 x1 x2 x4 (1 : Int32) (x6 + (1 : Int32)) σ hf _ _ _ (lv_sub hl [2, 3, 4, 5, 1, 0] rfl) hP hD hS
  have L53 : ∀ (n : Nat) (x1 : Int32) (x2 : Int32) (x4 : Int32) (x5 : Int32) (x6 : Int32) (σ : MS), mm_drop_l53 n x1 x2 x4 x5 x6 σ = some (v, σ') → bk_ p l e rm_M_drop s m ([.ref (r 0), .int z1, .int z2] : List Value).toArray below meth c (MQ below (qi_ (dC, dI) (wd_M r cI cZ) [(cI, .int), (cZ, .boolean)] A v σ') ([.ref (r 0), .int z1, .int z2] : List Value).toArray s 0 0 A) A (dC, dI) (wd_M r cI cZ) 7 53 [(0, .ref (r 0)), (1, .int x1), (2, .int x2), (4, .int x4), (5, .int x5), (6, .int x6)] [] σ := by
    intro n
    induction n with
    | zero =>
      intro x1 x2 x4 x5 x6 σ hf
      exact mi_no hf
    | succ n ih =>
      intro x1 x2 x4 x5 x6 σ hf
      exact B53 (mm_drop_l53 n) ih x1 x2 x4 x5 x6 σ hf
  have hH : s.heap = s.heap := rfl
  unfold mm_drop at hf
  refine lv_aload_n hx hb nd_M_drop_0 rfl (lv_at hl 0 rfl) ?_
  refine lv_iload_n hx hb nd_M_drop_1 rfl (lv_at hl 1 rfl) ?_
  refine lv_iload_n hx hb nd_M_drop_2 rfl (lv_at hl 2 rfl) ?_
  obtain ⟨r1, hc, hf⟩ := mi_cp_el hf
  refine ca_i (va_runV (C := "MovedFramesModel") (As := [.int z1, .int z2]) (rest := []) ⟨hx, hb, hml, hown, hB⟩ (kw_M_frameOf l dC dI r cI cZ _ σ z1 z2 r1 hc) ⟨callB_of 2 hB (gi_ lk_741) rfl rfl rfl (hB _ lk_7) (hB _ lk_738) (by decide +kernel) ⟨Nat.le_of_ble_eq_true rfl, Nat.le_of_ble_eq_true rfl⟩, hB _ lk_740, hB _ ls_36⟩ ⟨bl_, va_recv (ci := 6) (q0 := 0) hK hP rfl rfl, pre_ hP hK hD hN⟩ rfl rfl hl.1 rfl (lv_room (Nat.le_of_ble_eq_true rfl)) nd_M_drop_3 ⟨Nat.zero_le _, Nat.zero_le _⟩) hD hS hA (fun H locs hP hD hS => ?_)
  refine lv_istore_n (lv' := [(3, .int r1), (0, .ref (r 0)), (1, .int z1), (2, .int z2)]) hx hb nd_M_drop_6 rfl hl (by decide) rfl (fun ls hl => ?_)
  refine lv_iload_n hx hb nd_M_drop_7 rfl (lv_at hl 0 rfl) ?_
  refine lv_if_ge (tgt := 13) hx hb nd_M_drop_8 (by decide) (fun hc => ?_) (fun hc => ?_)
  · have hf := mi_if_t hc hf
    refine lv_aload_n hx hb nd_M_drop_13 rfl (lv_at hl 1 rfl) ?_
    refine va_get (D := (dC, dI)) (ci := 6) (v := .ref (r 2)) (C := RX6) (T := TX6) (N := 11) hx hb hB inB6 hown hK hP 0 rfl rfl 2 (by decide) (hB _ lk_631) (fun _ h9 => h9) rfl nd_M_drop_14 ?_
    refine lv_aload_n hx hb nd_M_drop_17 rfl (lv_at hl 1 rfl) ?_
    refine lv_iload_n hx hb nd_M_drop_18 rfl (lv_at hl 2 rfl) ?_
    refine lv_iload_n hx hb nd_M_drop_19 rfl (lv_at hl 3 rfl) ?_
    obtain ⟨r2, hc, hf⟩ := mi_cp_el hf
    refine ca_i (va_runV (C := "MovedFramesModel") (As := [.int z1, .int z2]) (rest := [.ref (r 2)]) ⟨hx, hb, hml, hown, hB⟩ (kw_M_rootEntry l dC dI r cI cZ _ σ z1 z2 r2 hc) ⟨callB_of 2 hB (gi_ lk_749) rfl rfl rfl (hB _ lk_7) (hB _ lk_746) (by decide +kernel) ⟨Nat.le_of_ble_eq_true rfl, Nat.le_of_ble_eq_true rfl⟩, hB _ lk_748, hB _ ls_38⟩ ⟨bl_, va_recv (ci := 6) (q0 := 0) hK hP rfl rfl, pre_ hP hK hD hN⟩ rfl rfl hl.1 rfl (lv_room (Nat.le_of_ble_eq_true rfl)) nd_M_drop_20 ⟨Nat.zero_le _, Nat.zero_le _⟩) hD hS hA (fun H locs hP hD hS => ?_)
    obtain ⟨hg, hf⟩ := mi_gd_el hf
    refine va_iald hx hb hK hP 2 0 rfl rfl hg nd_M_drop_23 ?_
    refine lv_iconst (v := 1) hx hb nd_M_drop_24 (by decide) ?_
    refine lv_isub hx hb nd_M_drop_25 ?_
    refine lv_istore (lv' := [(4, .int (((gm_w σ) r2.toNatClampNeg) - (1 : Int32))), (3, .int r1), (0, .ref (r 0)), (1, .int z1), (2, .int z2)]) hx hb nd_M_drop_26 hl (by decide) rfl (fun ls hl => ?_)
    refine lv_aload_n hx hb nd_M_drop_28 rfl (lv_at hl 2 rfl) ?_
    refine va_get (D := (dC, dI)) (ci := 6) (v := .ref (r 1)) (C := RX6) (T := TX6) (N := 11) hx hb hB inB6 hown hK hP 0 rfl rfl 1 (by decide) (hB _ lk_630) (fun _ h9 => h9) rfl nd_M_drop_29 ?_
    refine lv_iload_n hx hb nd_M_drop_32 rfl (lv_at hl 1 rfl) ?_
    refine lv_iconst (v := 0) hx hb nd_M_drop_33 (by decide) ?_
    obtain ⟨hg, hf⟩ := mi_gd_el hf
    refine va_iast hx hb hK hP hD hS 1 0 rfl rfl hg nd_M_drop_34 (fun H locs hP hD hS => ?_)
    obtain ⟨σ3, e9, hf⟩ := mi_wr_ex hf
    have hP : va_P (dC, dI) vwCl (wd_M r cI cZ σ3) H := by rw [e9]; exact hP
    have hD : va_D A (wd_M r cI cZ σ3) := by rw [e9]; exact hD
    refine lv_aload_n hx hb nd_M_drop_35 rfl (lv_at hl 2 rfl) ?_
    refine va_get (D := (dC, dI)) (ci := 6) (v := .ref (r 2)) (C := RX6) (T := TX6) (N := 11) hx hb hB inB6 hown hK hP 0 rfl rfl 2 (by decide) (hB _ lk_631) (fun _ h9 => h9) rfl nd_M_drop_36 ?_
    refine lv_aload_n hx hb nd_M_drop_39 rfl (lv_at hl 2 rfl) ?_
    refine lv_iload_n hx hb nd_M_drop_40 rfl (lv_at hl 3 rfl) ?_
    refine lv_iload_n hx hb nd_M_drop_41 rfl (lv_at hl 4 rfl) ?_
    obtain ⟨r4, hc, hf⟩ := mi_cp_el hf
    refine ca_i (va_runV (C := "MovedFramesModel") (As := [.int z1, .int z2]) (rest := [.ref (r 2)]) ⟨hx, hb, hml, hown, hB⟩ (kw_M_entry l dC dI r cI cZ _ σ3 z1 z2 r4 hc) ⟨callB_of 2 hB (gi_ lk_753) rfl rfl rfl (hB _ lk_7) (hB _ lk_750) (by decide +kernel) ⟨Nat.le_of_ble_eq_true rfl, Nat.le_of_ble_eq_true rfl⟩, hB _ lk_752, hB _ ls_39⟩ ⟨bl_, va_recv (ci := 6) (q0 := 0) hK hP rfl rfl, pre_ hP hK hD hN⟩ rfl rfl hl.1 rfl (lv_room (Nat.le_of_ble_eq_true rfl)) nd_M_drop_42 ⟨Nat.zero_le _, Nat.zero_le _⟩) hD hS hA (fun H locs hP hD hS => ?_)
    refine lv_iconst (v := 0) hx hb nd_M_drop_45 (by decide) ?_
    obtain ⟨hg, hf⟩ := mi_gd_el hf
    refine va_iast hx hb hK hP hD hS 2 0 rfl rfl hg nd_M_drop_46 (fun H locs hP hD hS => ?_)
    obtain ⟨σ5, e9, hf⟩ := mi_wr_ex hf
    have hP : va_P (dC, dI) vwCl (wd_M r cI cZ σ5) H := by rw [e9]; exact hP
    have hD : va_D A (wd_M r cI cZ σ5) := by rw [e9]; exact hD
    refine lv_iconst (v := 1) hx hb nd_M_drop_47 (by decide) ?_
    refine lv_istore (lv' := [(5, .int (1 : Int32)), (4, .int (((gm_w σ) r2.toNatClampNeg) - (1 : Int32))), (3, .int r1), (0, .ref (r 0)), (1, .int z1), (2, .int z2)]) hx hb nd_M_drop_48 hl (by decide) rfl (fun ls hl => ?_)
    refine lv_iconst (v := 0) hx hb nd_M_drop_50 (by decide) ?_
    refine lv_istore (lv' := [(6, .int (0 : Int32)), (5, .int (1 : Int32)), (4, .int (((gm_w σ) r2.toNatClampNeg) - (1 : Int32))), (3, .int r1), (0, .ref (r 0)), (1, .int z1), (2, .int z2)]) hx hb nd_M_drop_51 hl (by decide) rfl (fun ls hl => ?_)
    exact L53 FU z1 z2 (((gm_w σ) r2.toNatClampNeg) - (1 : Int32)) (1 : Int32) (0 : Int32) σ5 hf _ _ _ (lv_sub hl [4, 5, 6, 2, 1, 0] rfl) hP hD hS
  · have hf := mi_if_f hc hf
    refine lv_iconst (v := 0) hx hb nd_M_drop_11 (by decide) ?_
    exact re_i hx hb hr hlocks ((mi_pr hf).1) ((mi_pr hf).2) hP hK hD hS nd_M_drop_12
abbrev rm_M_destroy : Room := { frames := 4, cells := 0, slots := 0, locals := 92 }
set_option maxHeartbeats 4000000 in
set_option maxRecDepth 100000 in
theorem kw_M_destroy (l : Launch) (dC : Nat → ClassId) (dI : Nat → Nat → Nat) (r : Nat → Nat) (cI cZ : ClassId) (sz : Nat) (σ : MS) (z1 : Int32) (v : Int32) (σ' : MS) (hf : mm_destroy σ z1 = some (v, σ')) : Met l ny_M_destroy nw_M_destroy rm_M_destroy (va_Pc [.ref (r 0), .int z1] (pr_ (dC, dI) (wd_M r cI cZ) [(cI, .int), (cZ, .boolean)] sz σ)) (qi_ (dC, dI) (wd_M r cI cZ) [(cI, .int), (cZ, .boolean)] (va_A (wd_M r cI cZ σ) sz) v σ') 0 0 (va_A (wd_M r cI cZ σ) sz) := by
  refine Met.ofW (cc := nb_M_destroy) (maxL := 4) (ret := (some .int)) (by decide) rfl ?_
  intro p e s m args below meth c s₁ B hml hv
  obtain ⟨rfl, hsz, hP, hK, hD0, hN⟩ := hv
  have hx := B.exec
  have hb := B.bytes
  have hr := B.returns
  have hts := atoms_spec (ws := nw_M_destroy) B.pre
  have hB : ∀ w ∈ BG, w.before ([.ref (r 0), .int z1] : List Value).toArray s = true := fun w h => hts w (List.mem_cons_of_mem _ h)
  have hown : s.vm.findClass "MovedFramesModel" = some m.cls := findClass_of_methodNamed B.named
  have hlocks := B.notSynchronized
  subst hsz
  have hD := hD0.self (sz := s.heap.size)
  generalize hAe : va_A (wd_M r cI cZ σ) s.heap.size = A at hD ⊢
  have hA : ∀ q : Nat, s.heap.size ≤ q → A q := fun q h => by rw [← hAe]; exact Or.inr h
  have hS : va_S A s.heap s.heap [] := va_S.rf
  have hl := lv_entry ([.ref (r 0), .int z1]) (n := 4) (Nat.le_of_ble_eq_true rfl)
  rw [lg_entry_eq]
  generalize (lg_sl ([.ref (r 0), .int z1]) ++ List.replicate (4 - (lg_sl ([.ref (r 0), .int z1])).length) Slot.unset).toArray = ls at hl ⊢
  have hl : lv_has ls 4 [(0, .ref (r 0)), (1, .int z1)] := hl
  have B61 : ∀ (x1 : Int32) (x2 : Int32) (σ : MS), mm_destroy_b61 x1 x2 σ = some (v, σ') → bk_ p l e rm_M_destroy s m ([.ref (r 0), .int z1] : List Value).toArray below meth c (MQ below (qi_ (dC, dI) (wd_M r cI cZ) [(cI, .int), (cZ, .boolean)] A v σ') ([.ref (r 0), .int z1] : List Value).toArray s 0 0 A) A (dC, dI) (wd_M r cI cZ) 4 61 [(0, .ref (r 0)), (1, .int x1), (2, .int x2)] [] σ := by
    intro x1 x2 σ hf ls H locs hl hP hD hS
    unfold mm_destroy_b61 at hf
    refine lv_aload_n hx hb nd_M_destroy_61 rfl (lv_at hl 0 rfl) ?_
    refine va_get (D := (dC, dI)) (ci := 6) (v := .ref (r 1)) (C := RX6) (T := TX6) (N := 11) hx hb hB inB6 hown hK hP 0 rfl rfl 1 (by decide) (hB _ lk_630) (fun _ h9 => h9) rfl nd_M_destroy_62 ?_
    refine lv_aload_n hx hb nd_M_destroy_65 rfl (lv_at hl 0 rfl) ?_
    refine va_get (D := (dC, dI)) (ci := 6) (v := .ref (r 8)) (C := RX6) (T := TX6) (N := 11) hx hb hB inB6 hown hK hP 0 rfl rfl 8 (by decide) (hB _ lk_637) (fun _ h9 => h9) rfl nd_M_destroy_66 ?_
    refine lv_iload_n hx hb nd_M_destroy_69 rfl (lv_at hl 1 rfl) ?_
    obtain ⟨hg, hf⟩ := mi_gd_el hf
    refine va_iald hx hb hK hP 8 0 rfl rfl hg nd_M_destroy_70 ?_
    refine lv_iconst (v := 1) hx hb nd_M_destroy_71 (by decide) ?_
    refine lv_isub hx hb nd_M_destroy_72 ?_
    refine lv_iconst (v := 0) hx hb nd_M_destroy_73 (by decide) ?_
    obtain ⟨hg, hf⟩ := mi_gd_el hf
    refine va_iast hx hb hK hP hD hS 1 0 rfl rfl hg nd_M_destroy_74 (fun H locs hP hD hS => ?_)
    obtain ⟨σ4, e9, hf⟩ := mi_wr_ex hf
    have hP : va_P (dC, dI) vwCl (wd_M r cI cZ σ4) H := by rw [e9]; exact hP
    have hD : va_D A (wd_M r cI cZ σ4) := by rw [e9]; exact hD
    refine lv_aload_n hx hb nd_M_destroy_75 rfl (lv_at hl 0 rfl) ?_
    refine va_get (D := (dC, dI)) (ci := 6) (v := .ref (r 8)) (C := RX6) (T := TX6) (N := 11) hx hb hB inB6 hown hK hP 0 rfl rfl 8 (by decide) (hB _ lk_637) (fun _ h9 => h9) rfl nd_M_destroy_76 ?_
    refine lv_iload_n hx hb nd_M_destroy_79 rfl (lv_at hl 1 rfl) ?_
    refine lv_iconst (v := 0) hx hb nd_M_destroy_80 (by decide) ?_
    obtain ⟨hg, hf⟩ := mi_gd_el hf
    refine va_iast hx hb hK hP hD hS 8 0 rfl rfl hg nd_M_destroy_81 (fun H locs hP hD hS => ?_)
    obtain ⟨σ5, e9, hf⟩ := mi_wr_ex hf
    have hP : va_P (dC, dI) vwCl (wd_M r cI cZ σ5) H := by rw [e9]; exact hP
    have hD : va_D A (wd_M r cI cZ σ5) := by rw [e9]; exact hD
    refine lv_iload_n hx hb nd_M_destroy_82 rfl (lv_at hl 2 rfl) ?_
    exact re_i hx hb hr hlocks ((mi_pr hf).1) ((mi_pr hf).2) hP hK hD hS nd_M_destroy_83
  have B26 : ∀ (k26 : Int32 → Int32 → Int32 → MS → Option (Int32 × MS)) (hk26 : ∀ (x1 : Int32) (x2 : Int32) (x3 : Int32) (σ : MS), k26 x1 x2 x3 σ = some (v, σ') → bk_ p l e rm_M_destroy s m ([.ref (r 0), .int z1] : List Value).toArray below meth c (MQ below (qi_ (dC, dI) (wd_M r cI cZ) [(cI, .int), (cZ, .boolean)] A v σ') ([.ref (r 0), .int z1] : List Value).toArray s 0 0 A) A (dC, dI) (wd_M r cI cZ) 4 26 [(0, .ref (r 0)), (1, .int x1), (2, .int x2), (3, .int x3)] [] σ) (x1 : Int32) (x2 : Int32) (x3 : Int32) (σ : MS), mm_destroy_b26 k26 x1 x2 x3 σ = some (v, σ') → bk_ p l e rm_M_destroy s m ([.ref (r 0), .int z1] : List Value).toArray below meth c (MQ below (qi_ (dC, dI) (wd_M r cI cZ) [(cI, .int), (cZ, .boolean)] A v σ') ([.ref (r 0), .int z1] : List Value).toArray s 0 0 A) A (dC, dI) (wd_M r cI cZ) 4 26 [(0, .ref (r 0)), (1, .int x1), (2, .int x2), (3, .int x3)] [] σ := by
    intro k26 hk26 x1 x2 x3 σ hf ls H locs hl hP hD hS
    unfold mm_destroy_b26 at hf
    refine lv_iload_n hx hb nd_M_destroy_26 rfl (lv_at hl 3 rfl) ?_
    refine lv_sipush (v := 256) hx hb nd_M_destroy_27 (by decide) ?_
    refine lv_icmp_ge (tgt := 61) hx hb nd_M_destroy_30 (by decide) (fun hc => ?_) (fun hc => ?_)
    · have hf := mi_if_t hc hf
      exact B61 x1 x2 σ hf _ _ _ (lv_sub hl [0, 1, 2] rfl) hP hD hS
    · have hf := mi_if_f hc hf
      refine lv_iload_n hx hb nd_M_destroy_33 rfl (lv_at hl 2 rfl) ?_
      refine lv_aload_n hx hb nd_M_destroy_34 rfl (lv_at hl 0 rfl) ?_
      refine lv_iload_n hx hb nd_M_destroy_35 rfl (lv_at hl 1 rfl) ?_
      refine lv_iload_n hx hb nd_M_destroy_36 rfl (lv_at hl 3 rfl) ?_
      obtain ⟨r7, σ6, hc, hf⟩ := mi_cw_el hf
      refine ca_i (va_runV (C := "MovedFramesModel") (As := [.int x1, .int x3]) (rest := [.int x2]) ⟨hx, hb, hml, hown, hB⟩ (kw_M_drop l dC dI r cI cZ _ σ x1 x3 r7 σ6 hc) ⟨callB_of 2 hB (gi_ lk_737) rfl rfl rfl (hB _ lk_7) (hB _ lk_734) (by decide +kernel) ⟨Nat.le_of_ble_eq_true rfl, Nat.le_of_ble_eq_true rfl⟩, hB _ lk_736, hB _ ls_35⟩ ⟨bl_, va_recv (ci := 6) (q0 := 0) hK hP rfl rfl, pre_ hP hK hD hN⟩ rfl rfl hl.1 rfl (lv_room (Nat.le_of_ble_eq_true rfl)) nd_M_destroy_37 ⟨Nat.zero_le _, Nat.zero_le _⟩) hD hS hA (fun H locs hP hD hS => ?_)
      refine lv_iadd hx hb nd_M_destroy_40 ?_
      refine lv_istore_n (lv' := [(2, .int (x2 + r7)), (0, .ref (r 0)), (1, .int x1), (3, .int x3)]) hx hb nd_M_destroy_41 rfl hl (by decide) rfl (fun ls hl => ?_)
      refine lv_aload_n hx hb nd_M_destroy_42 rfl (lv_at hl 1 rfl) ?_
      refine va_get (D := (dC, dI)) (ci := 6) (v := .ref (r 9)) (C := RX6) (T := TX6) (N := 11) hx hb hB inB6 hown hK hP 0 rfl rfl 9 (by decide) (hB _ lk_638) (fun _ h9 => h9) rfl nd_M_destroy_43 ?_
      refine lv_sipush (v := 256) hx hb nd_M_destroy_46 (by decide) ?_
      refine lv_iload_n hx hb nd_M_destroy_49 rfl (lv_at hl 2 rfl) ?_
      refine lv_imul hx hb nd_M_destroy_50 ?_
      refine lv_iload_n hx hb nd_M_destroy_51 rfl (lv_at hl 3 rfl) ?_
      refine lv_iadd hx hb nd_M_destroy_52 ?_
      refine lv_iconst (v := 0) hx hb nd_M_destroy_53 (by decide) ?_
      obtain ⟨hg, hf⟩ := mi_gd_el hf
      refine va_zast hx hb hK hP hD hS 9 1 rfl rfl hg nd_M_destroy_54 (fun H locs hP hD hS => ?_)
      obtain ⟨σ8, e9, hf⟩ := mi_wr_ex hf
      have hP : va_P (dC, dI) vwCl (wd_M r cI cZ σ8) H := by rw [e9]; exact hP
      have hD : va_D A (wd_M r cI cZ σ8) := by rw [e9]; exact hD
      refine lv_iinc (k := 3) (v := x3 + (1 : Int32)) (lv' := [(3, .int (x3 + (1 : Int32))), (2, .int (x2 + r7)), (0, .ref (r 0)), (1, .int x1)]) hx hb nd_M_destroy_55 hl rfl (congrArg (fun z => x3 + z) (by decide : Int32.ofInt 1 = (1 : Int32))) (by decide) rfl (fun ls hl => ?_)
      refine lv_goto (tgt := 26) hx hb nd_M_destroy_58 (by decide) ?_
      exact hk26 x1 (x2 + r7) (x3 + (1 : Int32)) σ8 hf _ _ _ (lv_sub hl [2, 3, 1, 0] rfl) hP hD hS
  have L26 : ∀ (n : Nat) (x1 : Int32) (x2 : Int32) (x3 : Int32) (σ : MS), mm_destroy_l26 n x1 x2 x3 σ = some (v, σ') → bk_ p l e rm_M_destroy s m ([.ref (r 0), .int z1] : List Value).toArray below meth c (MQ below (qi_ (dC, dI) (wd_M r cI cZ) [(cI, .int), (cZ, .boolean)] A v σ') ([.ref (r 0), .int z1] : List Value).toArray s 0 0 A) A (dC, dI) (wd_M r cI cZ) 4 26 [(0, .ref (r 0)), (1, .int x1), (2, .int x2), (3, .int x3)] [] σ := by
    intro n
    induction n with
    | zero =>
      intro x1 x2 x3 σ hf
      exact mi_no hf
    | succ n ih =>
      intro x1 x2 x3 σ hf
      exact B26 (mm_destroy_l26 n) ih x1 x2 x3 σ hf
  have B14 : ∀ (x1 : Int32) (y1 : Int32) (σ : MS), mm_destroy_b14 x1 y1 σ = some (v, σ') → bk_ p l e rm_M_destroy s m ([.ref (r 0), .int z1] : List Value).toArray below meth c (MQ below (qi_ (dC, dI) (wd_M r cI cZ) [(cI, .int), (cZ, .boolean)] A v σ') ([.ref (r 0), .int z1] : List Value).toArray s 0 0 A) A (dC, dI) (wd_M r cI cZ) 4 14 [(0, .ref (r 0)), (1, .int x1)] [.int y1, .ref (r 0)] σ := by
    intro x1 y1 σ hf ls H locs hl hP hD hS
    unfold mm_destroy_b14 at hf
    obtain ⟨r3, σ2, hc, hf⟩ := mi_cw_el hf
    refine ca_i (va_runV (C := "MovedFramesModel") (As := [.int y1]) (rest := []) ⟨hx, hb, hml, hown, hB⟩ (kw_M_throwsBy l dC dI r cI cZ _ σ y1 r3 σ2 hc) ⟨callB_of 1 hB (gi_ lk_681) rfl rfl rfl (hB _ lk_7) (hB _ lk_678) (by decide +kernel) ⟨Nat.le_of_ble_eq_true rfl, Nat.le_of_ble_eq_true rfl⟩, hB _ lk_680, hB _ ls_26⟩ ⟨bl_, va_recv (ci := 6) (q0 := 0) hK hP rfl rfl, pre_ hP hK hD hN⟩ rfl rfl hl.1 rfl (lv_room (Nat.le_of_ble_eq_true rfl)) nd_M_destroy_14 ⟨Nat.zero_le _, Nat.zero_le _⟩) hD hS hA (fun H locs hP hD hS => ?_)
    refine lv_if_eq (tgt := 22) hx hb nd_M_destroy_17 (by decide) (fun hc => ?_) (fun hc => ?_)
    · have hf := mi_if_t hc hf
      refine lv_iconst (v := 1) hx hb nd_M_destroy_22 (by decide) ?_
      refine lv_istore_n (lv' := [(2, .int (1 : Int32)), (0, .ref (r 0)), (1, .int x1)]) hx hb nd_M_destroy_23 rfl hl (by decide) rfl (fun ls hl => ?_)
      refine lv_iconst (v := 0) hx hb nd_M_destroy_24 (by decide) ?_
      refine lv_istore_n (lv' := [(3, .int (0 : Int32)), (2, .int (1 : Int32)), (0, .ref (r 0)), (1, .int x1)]) hx hb nd_M_destroy_25 rfl hl (by decide) rfl (fun ls hl => ?_)
      exact L26 FU x1 (1 : Int32) (0 : Int32) σ2 hf _ _ _ (lv_sub hl [2, 3, 1, 0] rfl) hP hD hS
    · have hf := mi_if_f hc hf
      refine lv_iconst (v := 0) hx hb nd_M_destroy_20 (by decide) ?_
      exact re_i hx hb hr hlocks ((mi_pr hf).1) ((mi_pr hf).2) hP hK hD hS nd_M_destroy_21
  have hH : s.heap = s.heap := rfl
  unfold mm_destroy at hf
  refine lv_aload_n hx hb nd_M_destroy_0 rfl (lv_at hl 0 rfl) ?_
  refine lv_aload_n hx hb nd_M_destroy_1 rfl (lv_at hl 0 rfl) ?_
  refine lv_iload_n hx hb nd_M_destroy_2 rfl (lv_at hl 1 rfl) ?_
  obtain ⟨r1, hc, hf⟩ := mi_cp_el hf
  refine ca_i (va_runV (C := "MovedFramesModel") (As := [.int z1]) (rest := [.ref (r 0)]) ⟨hx, hb, hml, hown, hB⟩ (kw_M_isSpace l dC dI r cI cZ _ σ z1 r1 hc) ⟨callB_of 1 hB (gi_ lk_733) rfl rfl rfl (hB _ lk_7) (hB _ lk_730) (by decide +kernel) ⟨Nat.le_of_ble_eq_true rfl, Nat.le_of_ble_eq_true rfl⟩, hB _ lk_732, hB _ ls_34⟩ ⟨bl_, va_recv (ci := 6) (q0 := 0) hK hP rfl rfl, pre_ hP hK hD hN⟩ rfl rfl hl.1 rfl (lv_room (Nat.le_of_ble_eq_true rfl)) nd_M_destroy_3 ⟨Nat.zero_le _, Nat.zero_le _⟩) hD hS hA (fun H locs hP hD hS => ?_)
  refine lv_if_eq (tgt := 13) hx hb nd_M_destroy_6 (by decide) (fun hc => ?_) (fun hc => ?_)
  · have hf := mi_if_t hc hf
    refine lv_iconst (v := 1) hx hb nd_M_destroy_13 (by decide) ?_
    exact B14 z1 (1 : Int32) σ hf _ _ _ (lv_sub hl [0, 1] rfl) hP hD hS
  · have hf := mi_if_f hc hf
    refine lv_iconst (v := 0) hx hb nd_M_destroy_9 (by decide) ?_
    refine lv_goto (tgt := 14) hx hb nd_M_destroy_10 (by decide) ?_
    exact B14 z1 (0 : Int32) σ hf _ _ _ (lv_sub hl [0, 1] rfl) hP hD hS
abbrev rm_M_isRow : Room := { frames := 1, cells := 0, slots := 0, locals := 22 }
set_option maxHeartbeats 4000000 in
set_option maxRecDepth 100000 in
theorem kw_M_isRow (l : Launch) (dC : Nat → ClassId) (dI : Nat → Nat → Nat) (r : Nat → Nat) (cI cZ : ClassId) (sz : Nat) (σ : MS) (z0 : Int32) (z1 : Int32) (v : Int32) (hf : mm_isRow z0 z1 = some v) : Met l ny_M_isRow nw_M_isRow rm_M_isRow (va_Pc [.int z0, .int z1] (pr_ (dC, dI) (wd_M r cI cZ) [(cI, .int), (cZ, .boolean)] sz σ)) (qi_ (dC, dI) (wd_M r cI cZ) [(cI, .int), (cZ, .boolean)] (va_A (wd_M r cI cZ σ) sz) v σ) 0 0 (va_A (wd_M r cI cZ σ) sz) := by
  refine Met.ofW (cc := nb_M_isRow) (maxL := 2) (ret := (some .boolean)) (by decide) rfl ?_
  intro p e s m args below meth c s₁ B hml hv
  obtain ⟨rfl, hsz, hP, hK, hD0, hN⟩ := hv
  have hx := B.exec
  have hb := B.bytes
  have hr := B.returns
  have hts := atoms_spec (ws := nw_M_isRow) B.pre
  have hB : ∀ w ∈ BG, w.before ([.int z0, .int z1] : List Value).toArray s = true := fun w h => hts w (List.mem_cons_of_mem _ h)
  have hown : s.vm.findClass "MovedFramesModel" = some m.cls := findClass_of_methodNamed B.named
  have hlocks := B.notSynchronized
  subst hsz
  have hD := hD0.self (sz := s.heap.size)
  generalize hAe : va_A (wd_M r cI cZ σ) s.heap.size = A at hD ⊢
  have hA : ∀ q : Nat, s.heap.size ≤ q → A q := fun q h => by rw [← hAe]; exact Or.inr h
  have hS : va_S A s.heap s.heap [] := va_S.rf
  have hl := lv_entry ([.int z0, .int z1]) (n := 2) (Nat.le_of_ble_eq_true rfl)
  rw [lg_entry_eq]
  generalize (lg_sl ([.int z0, .int z1]) ++ List.replicate (2 - (lg_sl ([.int z0, .int z1])).length) Slot.unset).toArray = ls at hl ⊢
  have hl : lv_has ls 2 [(0, .int z0), (1, .int z1)] := hl
  have hH : s.heap = s.heap := rfl
  unfold mm_isRow at hf
  refine lv_iload_n hx hb nd_M_isRow_0 rfl (lv_at hl 1 rfl) ?_
  refine lv_iconst (v := 1) hx hb nd_M_isRow_1 (by decide) ?_
  refine lv_bipush (v := 64) hx hb nd_M_isRow_2 (by decide) ?_
  obtain ⟨r1, hc, hf⟩ := mi_cp_el hf
  refine ca_i (va_runS (As := [.int z1, .int (1 : Int32), .int (64 : Int32)]) (rest := []) ⟨hx, hb, hml, hown, hB⟩ (kw_M_in l dC dI r cI cZ _ σ z1 (1 : Int32) (64 : Int32) r1 hc) ⟨callB_of 3 hB (gi_ lk_673) rfl rfl rfl (hB _ lk_7) (hB _ lk_671) (by decide +kernel) ⟨Nat.le_of_ble_eq_true rfl, Nat.le_of_ble_eq_true rfl⟩, hB _ lk_672⟩ ⟨bl_, pre_ hP hK hD hN⟩ rfl rfl hl.1 rfl (lv_room (Nat.le_of_ble_eq_true rfl)) nd_M_isRow_4 ⟨Nat.zero_le _, Nat.zero_le _⟩) hD hS hA (fun H locs hP hD hS => ?_)
  refine lv_if_eq (tgt := 27) hx hb nd_M_isRow_7 (by decide) (fun hc => ?_) (fun hc => ?_)
  · have hf := mi_if_t hc hf
    refine lv_iconst (v := 0) hx hb nd_M_isRow_27 (by decide) ?_
    exact re_z hx hb hr hlocks (Or.inl rfl) (mi_eq hf) (rfl) hP hK hD hS nd_M_isRow_28
  · have hf := mi_if_f hc hf
    refine lv_iload_n hx hb nd_M_isRow_10 rfl (lv_at hl 0 rfl) ?_
    refine lv_iconst (v := 0) hx hb nd_M_isRow_11 (by decide) ?_
    refine lv_sipush (v := 256) hx hb nd_M_isRow_12 (by decide) ?_
    refine lv_iload_n hx hb nd_M_isRow_15 rfl (lv_at hl 1 rfl) ?_
    refine lv_isub hx hb nd_M_isRow_16 ?_
    obtain ⟨r2, hc, hf⟩ := mi_cp_el hf
    refine ca_i (va_runS (As := [.int z0, .int (0 : Int32), .int ((256 : Int32) - z1)]) (rest := []) ⟨hx, hb, hml, hown, hB⟩ (kw_M_in l dC dI r cI cZ _ σ z0 (0 : Int32) ((256 : Int32) - z1) r2 hc) ⟨callB_of 3 hB (gi_ lk_673) rfl rfl rfl (hB _ lk_7) (hB _ lk_671) (by decide +kernel) ⟨Nat.le_of_ble_eq_true rfl, Nat.le_of_ble_eq_true rfl⟩, hB _ lk_672⟩ ⟨bl_, pre_ hP hK hD hN⟩ rfl rfl hl.1 rfl (lv_room (Nat.le_of_ble_eq_true rfl)) nd_M_isRow_17 ⟨Nat.zero_le _, Nat.zero_le _⟩) hD hS hA (fun H locs hP hD hS => ?_)
    refine lv_if_eq (tgt := 27) hx hb nd_M_isRow_20 (by decide) (fun hc => ?_) (fun hc => ?_)
    · have hf := mi_if_t hc hf
      refine lv_iconst (v := 0) hx hb nd_M_isRow_27 (by decide) ?_
      exact re_z hx hb hr hlocks (Or.inl rfl) (mi_eq hf) (rfl) hP hK hD hS nd_M_isRow_28
    · have hf := mi_if_f hc hf
      refine lv_iconst (v := 1) hx hb nd_M_isRow_23 (by decide) ?_
      refine lv_goto (tgt := 28) hx hb nd_M_isRow_24 (by decide) ?_
      exact re_z hx hb hr hlocks (Or.inr rfl) (mi_eq hf) (rfl) hP hK hD hS nd_M_isRow_28
abbrev rm_M_mmap : Room := { frames := 2, cells := 0, slots := 0, locals := 43 }
set_option maxHeartbeats 4000000 in
set_option maxRecDepth 100000 in
theorem kw_M_mmap (l : Launch) (dC : Nat → ClassId) (dI : Nat → Nat → Nat) (r : Nat → Nat) (cI cZ : ClassId) (sz : Nat) (σ : MS) (z1 : Int32) (z2 : Int32) (z3 : Int32) (σ' : MS) (hf : mm_mmap σ z1 z2 z3 = some σ') : Met l ny_M_mmap nw_M_mmap rm_M_mmap (va_Pc [.ref (r 0), .int z1, .int z2, .int z3] (pr_ (dC, dI) (wd_M r cI cZ) [(cI, .int), (cZ, .boolean)] sz σ)) (qv_ (dC, dI) (wd_M r cI cZ) [(cI, .int), (cZ, .boolean)] (va_A (wd_M r cI cZ σ) sz) σ') 0 0 (va_A (wd_M r cI cZ σ) sz) := by
  refine Met.ofW (cc := nb_M_mmap) (maxL := 6) (ret := none) (by decide) rfl ?_
  intro p e s m args below meth c s₁ B hml hv
  obtain ⟨rfl, hsz, hP, hK, hD0, hN⟩ := hv
  have hx := B.exec
  have hb := B.bytes
  have hr := B.returns
  have hts := atoms_spec (ws := nw_M_mmap) B.pre
  have hB : ∀ w ∈ BG, w.before ([.ref (r 0), .int z1, .int z2, .int z3] : List Value).toArray s = true := fun w h => hts w (List.mem_cons_of_mem _ h)
  have hown : s.vm.findClass "MovedFramesModel" = some m.cls := findClass_of_methodNamed B.named
  have hlocks := B.notSynchronized
  subst hsz
  have hD := hD0.self (sz := s.heap.size)
  generalize hAe : va_A (wd_M r cI cZ σ) s.heap.size = A at hD ⊢
  have hA : ∀ q : Nat, s.heap.size ≤ q → A q := fun q h => by rw [← hAe]; exact Or.inr h
  have hS : va_S A s.heap s.heap [] := va_S.rf
  have hl := lv_entry ([.ref (r 0), .int z1, .int z2, .int z3]) (n := 6) (Nat.le_of_ble_eq_true rfl)
  rw [lg_entry_eq]
  generalize (lg_sl ([.ref (r 0), .int z1, .int z2, .int z3]) ++ List.replicate (6 - (lg_sl ([.ref (r 0), .int z1, .int z2, .int z3])).length) Slot.unset).toArray = ls at hl ⊢
  have hl : lv_has ls 6 [(0, .ref (r 0)), (1, .int z1), (2, .int z2), (3, .int z3)] := hl
  have B89 : ∀ (k89 : Int32 → Int32 → Int32 → Int32 → MS → Option (MS)) (hk89 : ∀ (x1 : Int32) (x2 : Int32) (x3 : Int32) (x5 : Int32) (σ : MS), k89 x1 x2 x3 x5 σ = some σ' → bk_ p l e rm_M_mmap s m ([.ref (r 0), .int z1, .int z2, .int z3] : List Value).toArray below meth c (MQ below (qv_ (dC, dI) (wd_M r cI cZ) [(cI, .int), (cZ, .boolean)] A σ') ([.ref (r 0), .int z1, .int z2, .int z3] : List Value).toArray s 0 0 A) A (dC, dI) (wd_M r cI cZ) 6 89 [(0, .ref (r 0)), (1, .int x1), (2, .int x2), (3, .int x3), (5, .int x5)] [] σ) (x1 : Int32) (x2 : Int32) (x3 : Int32) (x5 : Int32) (σ : MS), mm_mmap_b89 k89 x1 x2 x3 x5 σ = some σ' → bk_ p l e rm_M_mmap s m ([.ref (r 0), .int z1, .int z2, .int z3] : List Value).toArray below meth c (MQ below (qv_ (dC, dI) (wd_M r cI cZ) [(cI, .int), (cZ, .boolean)] A σ') ([.ref (r 0), .int z1, .int z2, .int z3] : List Value).toArray s 0 0 A) A (dC, dI) (wd_M r cI cZ) 6 89 [(0, .ref (r 0)), (1, .int x1), (2, .int x2), (3, .int x3), (5, .int x5)] [] σ := by
    intro k89 hk89 x1 x2 x3 x5 σ hf ls H locs hl hP hD hS
    unfold mm_mmap_b89 at hf
    refine lv_iload hx hb nd_M_mmap_89 (lv_at hl 4 rfl) ?_
    refine lv_iload_n hx hb nd_M_mmap_91 rfl (lv_at hl 2 rfl) ?_
    refine lv_iload_n hx hb nd_M_mmap_92 rfl (lv_at hl 3 rfl) ?_
    refine lv_iadd hx hb nd_M_mmap_93 ?_
    refine lv_icmp_ge (tgt := 117) hx hb nd_M_mmap_94 (by decide) (fun hc => ?_) (fun hc => ?_)
    · have hf := mi_if_t hc hf
      exact re_v hx hb hr hlocks (mi_eq hf) hP hK hD hS nd_M_mmap_117
    · have hf := mi_if_f hc hf
      refine lv_aload_n hx hb nd_M_mmap_97 rfl (lv_at hl 0 rfl) ?_
      refine va_get (D := (dC, dI)) (ci := 6) (v := .ref (r 9)) (C := RX6) (T := TX6) (N := 11) hx hb hB inB6 hown hK hP 0 rfl rfl 9 (by decide) (hB _ lk_638) (fun _ h9 => h9) rfl nd_M_mmap_98 ?_
      refine lv_sipush (v := 256) hx hb nd_M_mmap_101 (by decide) ?_
      refine lv_iload_n hx hb nd_M_mmap_104 rfl (lv_at hl 1 rfl) ?_
      refine lv_imul hx hb nd_M_mmap_105 ?_
      refine lv_iload hx hb nd_M_mmap_106 (lv_at hl 4 rfl) ?_
      refine lv_iadd hx hb nd_M_mmap_108 ?_
      refine lv_iconst (v := 1) hx hb nd_M_mmap_109 (by decide) ?_
      obtain ⟨hg, hf⟩ := mi_gd_el hf
      refine va_zast hx hb hK hP hD hS 9 1 rfl rfl hg nd_M_mmap_110 (fun H locs hP hD hS => ?_)
      obtain ⟨σ4, e9, hf⟩ := mi_wr_ex hf
      have hP : va_P (dC, dI) vwCl (wd_M r cI cZ σ4) H := by rw [e9]; exact hP
      have hD : va_D A (wd_M r cI cZ σ4) := by rw [e9]; exact hD
      refine lv_iinc (k := 4) (v := x5 + (1 : Int32)) (lv' := [(5, .int (x5 + (1 : Int32))), (0, .ref (r 0)), (1, .int x1), (2, .int x2), (3, .int x3)]) hx hb nd_M_mmap_111 hl rfl (congrArg (fun z => x5 + z) (by decide : Int32.ofInt 1 = (1 : Int32))) (by decide) rfl (fun ls hl => ?_)
      refine lv_goto (tgt := 89) hx hb nd_M_mmap_114 (by decide) ?_
      exact hk89 x1 x2 x3 (x5 + (1 : Int32)) σ4 hf _ _ _ (lv_sub hl [1, 2, 3, 4, 0] rfl) hP hD hS
  have L89 : ∀ (n : Nat) (x1 : Int32) (x2 : Int32) (x3 : Int32) (x5 : Int32) (σ : MS), mm_mmap_l89 n x1 x2 x3 x5 σ = some σ' → bk_ p l e rm_M_mmap s m ([.ref (r 0), .int z1, .int z2, .int z3] : List Value).toArray below meth c (MQ below (qv_ (dC, dI) (wd_M r cI cZ) [(cI, .int), (cZ, .boolean)] A σ') ([.ref (r 0), .int z1, .int z2, .int z3] : List Value).toArray s 0 0 A) A (dC, dI) (wd_M r cI cZ) 6 89 [(0, .ref (r 0)), (1, .int x1), (2, .int x2), (3, .int x3), (5, .int x5)] [] σ := by
    intro n
    induction n with
    | zero =>
      intro x1 x2 x3 x5 σ hf
      exact mi_no hf
    | succ n ih =>
      intro x1 x2 x3 x5 σ hf
      exact B89 (mm_mmap_l89 n) ih x1 x2 x3 x5 σ hf
  have B79 : ∀ (x1 : Int32) (x2 : Int32) (x3 : Int32) (y1 : Int32) (σ : MS), mm_mmap_b79 x1 x2 x3 y1 σ = some σ' → bk_ p l e rm_M_mmap s m ([.ref (r 0), .int z1, .int z2, .int z3] : List Value).toArray below meth c (MQ below (qv_ (dC, dI) (wd_M r cI cZ) [(cI, .int), (cZ, .boolean)] A σ') ([.ref (r 0), .int z1, .int z2, .int z3] : List Value).toArray s 0 0 A) A (dC, dI) (wd_M r cI cZ) 6 79 [(0, .ref (r 0)), (1, .int x1), (2, .int x2), (3, .int x3)] [.int y1, .ref (r 0)] σ := by
    intro x1 x2 x3 y1 σ hf ls H locs hl hP hD hS
    unfold mm_mmap_b79 at hf
    obtain ⟨r3, σ2, hc, hf⟩ := mi_cw_el hf
    refine ca_i (va_runV (C := "MovedFramesModel") (As := [.int y1]) (rest := []) ⟨hx, hb, hml, hown, hB⟩ (kw_M_throwsBy l dC dI r cI cZ _ σ y1 r3 σ2 hc) ⟨callB_of 1 hB (gi_ lk_681) rfl rfl rfl (hB _ lk_7) (hB _ lk_678) (by decide +kernel) ⟨Nat.le_of_ble_eq_true rfl, Nat.le_of_ble_eq_true rfl⟩, hB _ lk_680, hB _ ls_26⟩ ⟨bl_, va_recv (ci := 6) (q0 := 0) hK hP rfl rfl, pre_ hP hK hD hN⟩ rfl rfl hl.1 rfl (lv_room (Nat.le_of_ble_eq_true rfl)) nd_M_mmap_79 ⟨Nat.zero_le _, Nat.zero_le _⟩) hD hS hA (fun H locs hP hD hS => ?_)
    refine lv_if_eq (tgt := 86) hx hb nd_M_mmap_82 (by decide) (fun hc => ?_) (fun hc => ?_)
    · have hf := mi_if_t hc hf
      refine lv_iload_n hx hb nd_M_mmap_86 rfl (lv_at hl 2 rfl) ?_
      refine lv_istore (lv' := [(5, .int x2), (0, .ref (r 0)), (1, .int x1), (2, .int x2), (3, .int x3)]) hx hb nd_M_mmap_87 hl (by decide) rfl (fun ls hl => ?_)
      exact L89 FU x1 x2 x3 x2 σ2 hf _ _ _ (lv_sub hl [1, 2, 3, 4, 0] rfl) hP hD hS
    · have hf := mi_if_f hc hf
      exact re_v hx hb hr hlocks (mi_eq hf) hP hK hD hS nd_M_mmap_85
  have B68 : ∀ (x1 : Int32) (x2 : Int32) (x3 : Int32) (x4 : Int32) (σ : MS), mm_mmap_b68 x1 x2 x3 x4 σ = some σ' → bk_ p l e rm_M_mmap s m ([.ref (r 0), .int z1, .int z2, .int z3] : List Value).toArray below meth c (MQ below (qv_ (dC, dI) (wd_M r cI cZ) [(cI, .int), (cZ, .boolean)] A σ') ([.ref (r 0), .int z1, .int z2, .int z3] : List Value).toArray s 0 0 A) A (dC, dI) (wd_M r cI cZ) 6 68 [(0, .ref (r 0)), (1, .int x1), (2, .int x2), (3, .int x3), (4, .int x4)] [] σ := by
    intro x1 x2 x3 x4 σ hf ls H locs hl hP hD hS
    unfold mm_mmap_b68 at hf
    refine lv_aload_n hx hb nd_M_mmap_68 rfl (lv_at hl 0 rfl) ?_
    refine lv_iload hx hb nd_M_mmap_69 (lv_at hl 4 rfl) ?_
    refine lv_if_eq (tgt := 78) hx hb nd_M_mmap_71 (by decide) (fun hc => ?_) (fun hc => ?_)
    · have hf := mi_if_t hc hf
      refine lv_iconst (v := 1) hx hb nd_M_mmap_78 (by decide) ?_
      exact B79 x1 x2 x3 (1 : Int32) σ hf _ _ _ (lv_sub hl [0, 1, 2, 3] rfl) hP hD hS
    · have hf := mi_if_f hc hf
      refine lv_iconst (v := 0) hx hb nd_M_mmap_74 (by decide) ?_
      refine lv_goto (tgt := 79) hx hb nd_M_mmap_75 (by decide) ?_
      exact B79 x1 x2 x3 (0 : Int32) σ hf _ _ _ (lv_sub hl [0, 1, 2, 3] rfl) hP hD hS
  have B26 : ∀ (k26 : Int32 → Int32 → Int32 → Int32 → Int32 → MS → Option (MS)) (hk26 : ∀ (x1 : Int32) (x2 : Int32) (x3 : Int32) (x4 : Int32) (x5 : Int32) (σ : MS), k26 x1 x2 x3 x4 x5 σ = some σ' → bk_ p l e rm_M_mmap s m ([.ref (r 0), .int z1, .int z2, .int z3] : List Value).toArray below meth c (MQ below (qv_ (dC, dI) (wd_M r cI cZ) [(cI, .int), (cZ, .boolean)] A σ') ([.ref (r 0), .int z1, .int z2, .int z3] : List Value).toArray s 0 0 A) A (dC, dI) (wd_M r cI cZ) 6 26 [(0, .ref (r 0)), (1, .int x1), (2, .int x2), (3, .int x3), (4, .int x4), (5, .int x5)] [] σ) (x1 : Int32) (x2 : Int32) (x3 : Int32) (x4 : Int32) (x5 : Int32) (σ : MS), mm_mmap_b26 k26 x1 x2 x3 x4 x5 σ = some σ' → bk_ p l e rm_M_mmap s m ([.ref (r 0), .int z1, .int z2, .int z3] : List Value).toArray below meth c (MQ below (qv_ (dC, dI) (wd_M r cI cZ) [(cI, .int), (cZ, .boolean)] A σ') ([.ref (r 0), .int z1, .int z2, .int z3] : List Value).toArray s 0 0 A) A (dC, dI) (wd_M r cI cZ) 6 26 [(0, .ref (r 0)), (1, .int x1), (2, .int x2), (3, .int x3), (4, .int x4), (5, .int x5)] [] σ := by
    intro k26 hk26 x1 x2 x3 x4 x5 σ hf ls H locs hl hP hD hS
    unfold mm_mmap_b26 at hf
    refine lv_iload hx hb nd_M_mmap_26 (lv_at hl 4 rfl) ?_
    refine lv_if_eq (tgt := 68) hx hb nd_M_mmap_28 (by decide) (fun hc => ?_) (fun hc => ?_)
    · have hf := mi_if_t hc hf
      exact B68 x1 x2 x3 x4 σ hf _ _ _ (lv_sub hl [0, 1, 2, 3, 4] rfl) hP hD hS
    · have hf := mi_if_f hc hf
      refine lv_iload hx hb nd_M_mmap_31 (lv_at hl 5 rfl) ?_
      refine lv_iload_n hx hb nd_M_mmap_33 rfl (lv_at hl 2 rfl) ?_
      refine lv_iload_n hx hb nd_M_mmap_34 rfl (lv_at hl 3 rfl) ?_
      refine lv_iadd hx hb nd_M_mmap_35 ?_
      refine lv_icmp_ge (tgt := 68) hx hb nd_M_mmap_36 (by decide) (fun hc => ?_) (fun hc => ?_)
      · have hf := mi_if_t hc hf
        exact B68 x1 x2 x3 x4 σ hf _ _ _ (lv_sub hl [0, 1, 2, 3, 4] rfl) hP hD hS
      · have hf := mi_if_f hc hf
        refine lv_aload_n hx hb nd_M_mmap_39 rfl (lv_at hl 0 rfl) ?_
        refine va_get (D := (dC, dI)) (ci := 6) (v := .ref (r 9)) (C := RX6) (T := TX6) (N := 11) hx hb hB inB6 hown hK hP 0 rfl rfl 9 (by decide) (hB _ lk_638) (fun _ h9 => h9) rfl nd_M_mmap_40 ?_
        refine lv_sipush (v := 256) hx hb nd_M_mmap_43 (by decide) ?_
        refine lv_iload_n hx hb nd_M_mmap_46 rfl (lv_at hl 1 rfl) ?_
        refine lv_imul hx hb nd_M_mmap_47 ?_
        refine lv_iload hx hb nd_M_mmap_48 (lv_at hl 5 rfl) ?_
        refine lv_iadd hx hb nd_M_mmap_50 ?_
        obtain ⟨hg, hf⟩ := mi_gd_el hf
        refine va_zald hx hb hK hP 9 1 rfl rfl hg nd_M_mmap_51 ?_
        refine lv_if_ne (tgt := 59) hx hb nd_M_mmap_52 (by decide) (fun hc => ?_) (fun hc => ?_)
        · have hf := mi_if_f hc hf
          refine lv_iconst (v := 0) hx hb nd_M_mmap_59 (by decide) ?_
          refine lv_istore (lv' := [(4, .int (0 : Int32)), (0, .ref (r 0)), (1, .int x1), (2, .int x2), (3, .int x3), (5, .int x5)]) hx hb nd_M_mmap_60 hl (by decide) rfl (fun ls hl => ?_)
          refine lv_iinc (k := 5) (v := x5 + (1 : Int32)) (lv' := [(5, .int (x5 + (1 : Int32))), (4, .int (0 : Int32)), (0, .ref (r 0)), (1, .int x1), (2, .int x2), (3, .int x3)]) hx hb nd_M_mmap_62 hl rfl (congrArg (fun z => x5 + z) (by decide : Int32.ofInt 1 = (1 : Int32))) (by decide) rfl (fun ls hl => ?_)
          refine lv_goto (tgt := 26) hx hb nd_M_mmap_65 (by decide) ?_
          exact hk26 x1 x2 x3 (0 : Int32) (x5 + (1 : Int32)) σ hf _ _ _ (lv_sub hl [2, 3, 4, 5, 1, 0] rfl) hP hD hS
        · have hf := mi_if_t hc hf
          refine lv_iconst (v := 1) hx hb nd_M_mmap_55 (by decide) ?_
          refine lv_goto (tgt := 60) hx hb nd_M_mmap_56 (by decide) ?_
          refine lv_istore (lv' := [(4, .int (1 : Int32)), (0, .ref (r 0)), (1, .int x1), (2, .int x2), (3, .int x3), (5, .int x5)]) hx hb nd_M_mmap_60 hl (by decide) rfl (fun ls hl => ?_)
          refine lv_iinc (k := 5) (v := x5 + (1 : Int32)) (lv' := [(5, .int (x5 + (1 : Int32))), (4, .int (1 : Int32)), (0, .ref (r 0)), (1, .int x1), (2, .int x2), (3, .int x3)]) hx hb nd_M_mmap_62 hl rfl (congrArg (fun z => x5 + z) (by decide : Int32.ofInt 1 = (1 : Int32))) (by decide) rfl (fun ls hl => ?_)
          refine lv_goto (tgt := 26) hx hb nd_M_mmap_65 (by decide) ?_
          exact hk26 x1 x2 x3 (1 : Int32) (x5 + (1 : Int32)) σ hf _ _ _ (lv_sub hl [2, 3, 4, 5, 1, 0] rfl) hP hD hS
  have L26 : ∀ (n : Nat) (x1 : Int32) (x2 : Int32) (x3 : Int32) (x4 : Int32) (x5 : Int32) (σ : MS), mm_mmap_l26 n x1 x2 x3 x4 x5 σ = some σ' → bk_ p l e rm_M_mmap s m ([.ref (r 0), .int z1, .int z2, .int z3] : List Value).toArray below meth c (MQ below (qv_ (dC, dI) (wd_M r cI cZ) [(cI, .int), (cZ, .boolean)] A σ') ([.ref (r 0), .int z1, .int z2, .int z3] : List Value).toArray s 0 0 A) A (dC, dI) (wd_M r cI cZ) 6 26 [(0, .ref (r 0)), (1, .int x1), (2, .int x2), (3, .int x3), (4, .int x4), (5, .int x5)] [] σ := by
    intro n
    induction n with
    | zero =>
      intro x1 x2 x3 x4 x5 σ hf
      exact mi_no hf
    | succ n ih =>
      intro x1 x2 x3 x4 x5 σ hf
      exact B26 (mm_mmap_l26 n) ih x1 x2 x3 x4 x5 σ hf
  have hH : s.heap = s.heap := rfl
  unfold mm_mmap at hf
  refine lv_aload_n hx hb nd_M_mmap_0 rfl (lv_at hl 0 rfl) ?_
  refine lv_iload_n hx hb nd_M_mmap_1 rfl (lv_at hl 1 rfl) ?_
  obtain ⟨r1, hc, hf⟩ := mi_cp_el hf
  refine ca_i (va_runV (C := "MovedFramesModel") (As := [.int z1]) (rest := []) ⟨hx, hb, hml, hown, hB⟩ (kw_M_isSpace l dC dI r cI cZ _ σ z1 r1 hc) ⟨callB_of 1 hB (gi_ lk_733) rfl rfl rfl (hB _ lk_7) (hB _ lk_730) (by decide +kernel) ⟨Nat.le_of_ble_eq_true rfl, Nat.le_of_ble_eq_true rfl⟩, hB _ lk_732, hB _ ls_34⟩ ⟨bl_, va_recv (ci := 6) (q0 := 0) hK hP rfl rfl, pre_ hP hK hD hN⟩ rfl rfl hl.1 rfl (lv_room (Nat.le_of_ble_eq_true rfl)) nd_M_mmap_2 ⟨Nat.zero_le _, Nat.zero_le _⟩) hD hS hA (fun H locs hP hD hS => ?_)
  refine lv_if_eq (tgt := 20) hx hb nd_M_mmap_5 (by decide) (fun hc => ?_) (fun hc => ?_)
  · have hf := mi_if_t hc hf
    refine lv_iconst (v := 0) hx hb nd_M_mmap_20 (by decide) ?_
    refine lv_istore (lv' := [(4, .int (0 : Int32)), (0, .ref (r 0)), (1, .int z1), (2, .int z2), (3, .int z3)]) hx hb nd_M_mmap_21 hl (by decide) rfl (fun ls hl => ?_)
    refine lv_iload_n hx hb nd_M_mmap_23 rfl (lv_at hl 3 rfl) ?_
    refine lv_istore (lv' := [(5, .int z2), (4, .int (0 : Int32)), (0, .ref (r 0)), (1, .int z1), (2, .int z2), (3, .int z3)]) hx hb nd_M_mmap_24 hl (by decide) rfl (fun ls hl => ?_)
    exact L26 FU z1 z2 z3 (0 : Int32) z2 σ hf _ _ _ (lv_sub hl [2, 3, 4, 5, 1, 0] rfl) hP hD hS
  · have hf := mi_if_f hc hf
    refine lv_iload_n hx hb nd_M_mmap_8 rfl (lv_at hl 2 rfl) ?_
    refine lv_iload_n hx hb nd_M_mmap_9 rfl (lv_at hl 3 rfl) ?_
    obtain ⟨r5, hc, hf⟩ := mi_cp_el hf
    refine ca_i (va_runS (As := [.int z2, .int z3]) (rest := []) ⟨hx, hb, hml, hown, hB⟩ (kw_M_isRow l dC dI r cI cZ _ σ z2 z3 r5 hc) ⟨callB_of 2 hB (gi_ lk_760) rfl rfl rfl (hB _ lk_7) (hB _ lk_758) (by decide +kernel) ⟨Nat.le_of_ble_eq_true rfl, Nat.le_of_ble_eq_true rfl⟩, hB _ lk_759⟩ ⟨bl_, pre_ hP hK hD hN⟩ rfl rfl hl.1 rfl (lv_room (Nat.le_of_ble_eq_true rfl)) nd_M_mmap_10 ⟨Nat.zero_le _, Nat.zero_le _⟩) hD hS hA (fun H locs hP hD hS => ?_)
    refine lv_if_eq (tgt := 20) hx hb nd_M_mmap_13 (by decide) (fun hc => ?_) (fun hc => ?_)
    · have hf := mi_if_t hc hf
      refine lv_iconst (v := 0) hx hb nd_M_mmap_20 (by decide) ?_
      refine lv_istore (lv' := [(4, .int (0 : Int32)), (0, .ref (r 0)), (1, .int z1), (2, .int z2), (3, .int z3)]) hx hb nd_M_mmap_21 hl (by decide) rfl (fun ls hl => ?_)
      refine lv_iload_n hx hb nd_M_mmap_23 rfl (lv_at hl 3 rfl) ?_
      refine lv_istore (lv' := [(5, .int z2), (4, .int (0 : Int32)), (0, .ref (r 0)), (1, .int z1), (2, .int z2), (3, .int z3)]) hx hb nd_M_mmap_24 hl (by decide) rfl (fun ls hl => ?_)
      exact L26 FU z1 z2 z3 (0 : Int32) z2 σ hf _ _ _ (lv_sub hl [2, 3, 4, 5, 1, 0] rfl) hP hD hS
    · have hf := mi_if_f hc hf
      refine lv_iconst (v := 1) hx hb nd_M_mmap_16 (by decide) ?_
      refine lv_goto (tgt := 21) hx hb nd_M_mmap_17 (by decide) ?_
      refine lv_istore (lv' := [(4, .int (1 : Int32)), (0, .ref (r 0)), (1, .int z1), (2, .int z2), (3, .int z3)]) hx hb nd_M_mmap_21 hl (by decide) rfl (fun ls hl => ?_)
      refine lv_iload_n hx hb nd_M_mmap_23 rfl (lv_at hl 3 rfl) ?_
      refine lv_istore (lv' := [(5, .int z2), (4, .int (1 : Int32)), (0, .ref (r 0)), (1, .int z1), (2, .int z2), (3, .int z3)]) hx hb nd_M_mmap_24 hl (by decide) rfl (fun ls hl => ?_)
      exact L26 FU z1 z2 z3 (1 : Int32) z2 σ hf _ _ _ (lv_sub hl [2, 3, 4, 5, 1, 0] rfl) hP hD hS
abbrev rm_M_munmap : Room := { frames := 4, cells := 0, slots := 0, locals := 92 }
set_option maxHeartbeats 4000000 in
set_option maxRecDepth 100000 in
theorem kw_M_munmap (l : Launch) (dC : Nat → ClassId) (dI : Nat → Nat → Nat) (r : Nat → Nat) (cI cZ : ClassId) (sz : Nat) (σ : MS) (z1 : Int32) (z2 : Int32) (z3 : Int32) (v : Int32) (σ' : MS) (hf : mm_munmap σ z1 z2 z3 = some (v, σ')) : Met l ny_M_munmap nw_M_munmap rm_M_munmap (va_Pc [.ref (r 0), .int z1, .int z2, .int z3] (pr_ (dC, dI) (wd_M r cI cZ) [(cI, .int), (cZ, .boolean)] sz σ)) (qi_ (dC, dI) (wd_M r cI cZ) [(cI, .int), (cZ, .boolean)] (va_A (wd_M r cI cZ σ) sz) v σ') 0 0 (va_A (wd_M r cI cZ σ) sz) := by
  refine Met.ofW (cc := nb_M_munmap) (maxL := 6) (ret := (some .int)) (by decide) rfl ?_
  intro p e s m args below meth c s₁ B hml hv
  obtain ⟨rfl, hsz, hP, hK, hD0, hN⟩ := hv
  have hx := B.exec
  have hb := B.bytes
  have hr := B.returns
  have hts := atoms_spec (ws := nw_M_munmap) B.pre
  have hB : ∀ w ∈ BG, w.before ([.ref (r 0), .int z1, .int z2, .int z3] : List Value).toArray s = true := fun w h => hts w (List.mem_cons_of_mem _ h)
  have hown : s.vm.findClass "MovedFramesModel" = some m.cls := findClass_of_methodNamed B.named
  have hlocks := B.notSynchronized
  subst hsz
  have hD := hD0.self (sz := s.heap.size)
  generalize hAe : va_A (wd_M r cI cZ σ) s.heap.size = A at hD ⊢
  have hA : ∀ q : Nat, s.heap.size ≤ q → A q := fun q h => by rw [← hAe]; exact Or.inr h
  have hS : va_S A s.heap s.heap [] := va_S.rf
  have hl := lv_entry ([.ref (r 0), .int z1, .int z2, .int z3]) (n := 6) (Nat.le_of_ble_eq_true rfl)
  rw [lg_entry_eq]
  generalize (lg_sl ([.ref (r 0), .int z1, .int z2, .int z3]) ++ List.replicate (6 - (lg_sl ([.ref (r 0), .int z1, .int z2, .int z3])).length) Slot.unset).toArray = ls at hl ⊢
  have hl : lv_has ls 6 [(0, .ref (r 0)), (1, .int z1), (2, .int z2), (3, .int z3)] := hl
  have B63 : ∀ (k36 : Int32 → Int32 → Int32 → Int32 → Int32 → MS → Option (Int32 × MS)) (hk36 : ∀ (x1 : Int32) (x2 : Int32) (x3 : Int32) (x4 : Int32) (x5 : Int32) (σ : MS), k36 x1 x2 x3 x4 x5 σ = some (v, σ') → bk_ p l e rm_M_munmap s m ([.ref (r 0), .int z1, .int z2, .int z3] : List Value).toArray below meth c (MQ below (qi_ (dC, dI) (wd_M r cI cZ) [(cI, .int), (cZ, .boolean)] A v σ') ([.ref (r 0), .int z1, .int z2, .int z3] : List Value).toArray s 0 0 A) A (dC, dI) (wd_M r cI cZ) 6 36 [(0, .ref (r 0)), (1, .int x1), (2, .int x2), (3, .int x3), (4, .int x4), (5, .int x5)] [] σ) (x1 : Int32) (x2 : Int32) (x3 : Int32) (x5 : Int32) (y0 : Int32) (σ : MS), mm_munmap_b63 k36 x1 x2 x3 x5 y0 σ = some (v, σ') → bk_ p l e rm_M_munmap s m ([.ref (r 0), .int z1, .int z2, .int z3] : List Value).toArray below meth c (MQ below (qi_ (dC, dI) (wd_M r cI cZ) [(cI, .int), (cZ, .boolean)] A v σ') ([.ref (r 0), .int z1, .int z2, .int z3] : List Value).toArray s 0 0 A) A (dC, dI) (wd_M r cI cZ) 6 63 [(0, .ref (r 0)), (1, .int x1), (2, .int x2), (3, .int x3), (5, .int x5)] [.int y0] σ := by
    intro k36 hk36 x1 x2 x3 x5 y0 σ hf ls H locs hl hP hD hS
    unfold mm_munmap_b63 at hf
    refine lv_istore (lv' := [(4, .int y0), (0, .ref (r 0)), (1, .int x1), (2, .int x2), (3, .int x3), (5, .int x5)]) hx hb nd_M_munmap_63 hl (by decide) rfl (fun ls hl => ?_)
    refine lv_aload_n hx hb nd_M_munmap_65 rfl (lv_at hl 1 rfl) ?_
    refine va_get (D := (dC, dI)) (ci := 6) (v := .ref (r 9)) (C := RX6) (T := TX6) (N := 11) hx hb hB inB6 hown hK hP 0 rfl rfl 9 (by decide) (hB _ lk_638) (fun _ h9 => h9) rfl nd_M_munmap_66 ?_
    refine lv_sipush (v := 256) hx hb nd_M_munmap_69 (by decide) ?_
    refine lv_iload_n hx hb nd_M_munmap_72 rfl (lv_at hl 2 rfl) ?_
    refine lv_imul hx hb nd_M_munmap_73 ?_
    refine lv_iload hx hb nd_M_munmap_74 (lv_at hl 5 rfl) ?_
    refine lv_iadd hx hb nd_M_munmap_76 ?_
    refine lv_iconst (v := 0) hx hb nd_M_munmap_77 (by decide) ?_
    obtain ⟨hg, hf⟩ := mi_gd_el hf
    refine va_zast hx hb hK hP hD hS 9 1 rfl rfl hg nd_M_munmap_78 (fun H locs hP hD hS => ?_)
    obtain ⟨σ6, e9, hf⟩ := mi_wr_ex hf
    have hP : va_P (dC, dI) vwCl (wd_M r cI cZ σ6) H := by rw [e9]; exact hP
    have hD : va_D A (wd_M r cI cZ σ6) := by rw [e9]; exact hD
    refine lv_iinc (k := 5) (v := x5 + (1 : Int32)) (lv' := [(5, .int (x5 + (1 : Int32))), (4, .int y0), (0, .ref (r 0)), (1, .int x1), (2, .int x2), (3, .int x3)]) hx hb nd_M_munmap_79 hl rfl (congrArg (fun z => x5 + z) (by decide : Int32.ofInt 1 = (1 : Int32))) (by decide) rfl (fun ls hl => ?_)
    refine lv_goto (tgt := 36) hx hb nd_M_munmap_82 (by decide) ?_
    exact hk36 x1 x2 x3 y0 (x5 + (1 : Int32)) σ6 hf _ _ _ (lv_sub hl [2, 3, 4, 5, 1, 0] rfl) hP hD hS
  have B36 : ∀ (k36 : Int32 → Int32 → Int32 → Int32 → Int32 → MS → Option (Int32 × MS)) (hk36 : ∀ (x1 : Int32) (x2 : Int32) (x3 : Int32) (x4 : Int32) (x5 : Int32) (σ : MS), k36 x1 x2 x3 x4 x5 σ = some (v, σ') → bk_ p l e rm_M_munmap s m ([.ref (r 0), .int z1, .int z2, .int z3] : List Value).toArray below meth c (MQ below (qi_ (dC, dI) (wd_M r cI cZ) [(cI, .int), (cZ, .boolean)] A v σ') ([.ref (r 0), .int z1, .int z2, .int z3] : List Value).toArray s 0 0 A) A (dC, dI) (wd_M r cI cZ) 6 36 [(0, .ref (r 0)), (1, .int x1), (2, .int x2), (3, .int x3), (4, .int x4), (5, .int x5)] [] σ) (x1 : Int32) (x2 : Int32) (x3 : Int32) (x4 : Int32) (x5 : Int32) (σ : MS), mm_munmap_b36 k36 x1 x2 x3 x4 x5 σ = some (v, σ') → bk_ p l e rm_M_munmap s m ([.ref (r 0), .int z1, .int z2, .int z3] : List Value).toArray below meth c (MQ below (qi_ (dC, dI) (wd_M r cI cZ) [(cI, .int), (cZ, .boolean)] A v σ') ([.ref (r 0), .int z1, .int z2, .int z3] : List Value).toArray s 0 0 A) A (dC, dI) (wd_M r cI cZ) 6 36 [(0, .ref (r 0)), (1, .int x1), (2, .int x2), (3, .int x3), (4, .int x4), (5, .int x5)] [] σ := by
    intro k36 hk36 x1 x2 x3 x4 x5 σ hf ls H locs hl hP hD hS
    unfold mm_munmap_b36 at hf
    refine lv_iload hx hb nd_M_munmap_36 (lv_at hl 5 rfl) ?_
    refine lv_iload_n hx hb nd_M_munmap_38 rfl (lv_at hl 2 rfl) ?_
    refine lv_iload_n hx hb nd_M_munmap_39 rfl (lv_at hl 3 rfl) ?_
    refine lv_iadd hx hb nd_M_munmap_40 ?_
    refine lv_icmp_ge (tgt := 85) hx hb nd_M_munmap_41 (by decide) (fun hc => ?_) (fun hc => ?_)
    · have hf := mi_if_t hc hf
      refine lv_iload hx hb nd_M_munmap_85 (lv_at hl 4 rfl) ?_
      exact re_i hx hb hr hlocks ((mi_pr hf).1) ((mi_pr hf).2) hP hK hD hS nd_M_munmap_87
    · have hf := mi_if_f hc hf
      refine lv_aload_n hx hb nd_M_munmap_44 rfl (lv_at hl 0 rfl) ?_
      refine lv_iload_n hx hb nd_M_munmap_45 rfl (lv_at hl 1 rfl) ?_
      refine lv_iload hx hb nd_M_munmap_46 (lv_at hl 5 rfl) ?_
      obtain ⟨r5, σ4, hc, hf⟩ := mi_cw_el hf
      refine ca_i (va_runV (C := "MovedFramesModel") (As := [.int x1, .int x5]) (rest := []) ⟨hx, hb, hml, hown, hB⟩ (kw_M_drop l dC dI r cI cZ _ σ x1 x5 r5 σ4 hc) ⟨callB_of 2 hB (gi_ lk_737) rfl rfl rfl (hB _ lk_7) (hB _ lk_734) (by decide +kernel) ⟨Nat.le_of_ble_eq_true rfl, Nat.le_of_ble_eq_true rfl⟩, hB _ lk_736, hB _ ls_35⟩ ⟨bl_, va_recv (ci := 6) (q0 := 0) hK hP rfl rfl, pre_ hP hK hD hN⟩ rfl rfl hl.1 rfl (lv_room (Nat.le_of_ble_eq_true rfl)) nd_M_munmap_48 ⟨Nat.zero_le _, Nat.zero_le _⟩) hD hS hA (fun H locs hP hD hS => ?_)
      refine lv_if_le (tgt := 61) hx hb nd_M_munmap_51 (by decide) (fun hc => ?_) (fun hc => ?_)
      · have hf := mi_if_t hc hf
        refine lv_iload hx hb nd_M_munmap_61 (lv_at hl 4 rfl) ?_
        exact B63 k36 hk36 x1 x2 x3 x5 x4 σ4 hf _ _ _ (lv_sub hl [0, 1, 2, 3, 5] rfl) hP hD hS
      · have hf := mi_if_f hc hf
        refine lv_iload hx hb nd_M_munmap_54 (lv_at hl 4 rfl) ?_
        refine lv_iconst (v := 1) hx hb nd_M_munmap_56 (by decide) ?_
        refine lv_iadd hx hb nd_M_munmap_57 ?_
        refine lv_goto (tgt := 63) hx hb nd_M_munmap_58 (by decide) ?_
        exact B63 k36 hk36 x1 x2 x3 x5 (x4 + (1 : Int32)) σ4 hf _ _ _ (lv_sub hl [0, 1, 2, 3, 5] rfl) hP hD hS
  have L36 : ∀ (n : Nat) (x1 : Int32) (x2 : Int32) (x3 : Int32) (x4 : Int32) (x5 : Int32) (σ : MS), mm_munmap_l36 n x1 x2 x3 x4 x5 σ = some (v, σ') → bk_ p l e rm_M_munmap s m ([.ref (r 0), .int z1, .int z2, .int z3] : List Value).toArray below meth c (MQ below (qi_ (dC, dI) (wd_M r cI cZ) [(cI, .int), (cZ, .boolean)] A v σ') ([.ref (r 0), .int z1, .int z2, .int z3] : List Value).toArray s 0 0 A) A (dC, dI) (wd_M r cI cZ) 6 36 [(0, .ref (r 0)), (1, .int x1), (2, .int x2), (3, .int x3), (4, .int x4), (5, .int x5)] [] σ := by
    intro n
    induction n with
    | zero =>
      intro x1 x2 x3 x4 x5 σ hf
      exact mi_no hf
    | succ n ih =>
      intro x1 x2 x3 x4 x5 σ hf
      exact B36 (mm_munmap_l36 n) ih x1 x2 x3 x4 x5 σ hf
  have B22 : ∀ (x1 : Int32) (x2 : Int32) (x3 : Int32) (y1 : Int32) (σ : MS), mm_munmap_b22 x1 x2 x3 y1 σ = some (v, σ') → bk_ p l e rm_M_munmap s m ([.ref (r 0), .int z1, .int z2, .int z3] : List Value).toArray below meth c (MQ below (qi_ (dC, dI) (wd_M r cI cZ) [(cI, .int), (cZ, .boolean)] A v σ') ([.ref (r 0), .int z1, .int z2, .int z3] : List Value).toArray s 0 0 A) A (dC, dI) (wd_M r cI cZ) 6 22 [(0, .ref (r 0)), (1, .int x1), (2, .int x2), (3, .int x3)] [.int y1, .ref (r 0)] σ := by
    intro x1 x2 x3 y1 σ hf ls H locs hl hP hD hS
    unfold mm_munmap_b22 at hf
    obtain ⟨r3, σ2, hc, hf⟩ := mi_cw_el hf
    refine ca_i (va_runV (C := "MovedFramesModel") (As := [.int y1]) (rest := []) ⟨hx, hb, hml, hown, hB⟩ (kw_M_throwsBy l dC dI r cI cZ _ σ y1 r3 σ2 hc) ⟨callB_of 1 hB (gi_ lk_681) rfl rfl rfl (hB _ lk_7) (hB _ lk_678) (by decide +kernel) ⟨Nat.le_of_ble_eq_true rfl, Nat.le_of_ble_eq_true rfl⟩, hB _ lk_680, hB _ ls_26⟩ ⟨bl_, va_recv (ci := 6) (q0 := 0) hK hP rfl rfl, pre_ hP hK hD hN⟩ rfl rfl hl.1 rfl (lv_room (Nat.le_of_ble_eq_true rfl)) nd_M_munmap_22 ⟨Nat.zero_le _, Nat.zero_le _⟩) hD hS hA (fun H locs hP hD hS => ?_)
    refine lv_if_eq (tgt := 30) hx hb nd_M_munmap_25 (by decide) (fun hc => ?_) (fun hc => ?_)
    · have hf := mi_if_t hc hf
      refine lv_iconst (v := 0) hx hb nd_M_munmap_30 (by decide) ?_
      refine lv_istore (lv' := [(4, .int (0 : Int32)), (0, .ref (r 0)), (1, .int x1), (2, .int x2), (3, .int x3)]) hx hb nd_M_munmap_31 hl (by decide) rfl (fun ls hl => ?_)
      refine lv_iload_n hx hb nd_M_munmap_33 rfl (lv_at hl 3 rfl) ?_
      refine lv_istore (lv' := [(5, .int x2), (4, .int (0 : Int32)), (0, .ref (r 0)), (1, .int x1), (2, .int x2), (3, .int x3)]) hx hb nd_M_munmap_34 hl (by decide) rfl (fun ls hl => ?_)
      exact L36 FU x1 x2 x3 (0 : Int32) x2 σ2 hf _ _ _ (lv_sub hl [2, 3, 4, 5, 1, 0] rfl) hP hD hS
    · have hf := mi_if_f hc hf
      refine lv_iconst (v := 0) hx hb nd_M_munmap_28 (by decide) ?_
      exact re_i hx hb hr hlocks ((mi_pr hf).1) ((mi_pr hf).2) hP hK hD hS nd_M_munmap_29
  have B21 : ∀ (x1 : Int32) (x2 : Int32) (x3 : Int32) (σ : MS), mm_munmap_b21 x1 x2 x3 σ = some (v, σ') → bk_ p l e rm_M_munmap s m ([.ref (r 0), .int z1, .int z2, .int z3] : List Value).toArray below meth c (MQ below (qi_ (dC, dI) (wd_M r cI cZ) [(cI, .int), (cZ, .boolean)] A v σ') ([.ref (r 0), .int z1, .int z2, .int z3] : List Value).toArray s 0 0 A) A (dC, dI) (wd_M r cI cZ) 6 21 [(0, .ref (r 0)), (1, .int x1), (2, .int x2), (3, .int x3)] [.ref (r 0)] σ := by
    intro x1 x2 x3 σ hf ls H locs hl hP hD hS
    unfold mm_munmap_b21 at hf
    refine lv_iconst (v := 1) hx hb nd_M_munmap_21 (by decide) ?_
    exact B22 x1 x2 x3 (1 : Int32) σ hf _ _ _ (lv_sub hl [0, 1, 2, 3] rfl) hP hD hS
  have hH : s.heap = s.heap := rfl
  unfold mm_munmap at hf
  refine lv_aload_n hx hb nd_M_munmap_0 rfl (lv_at hl 0 rfl) ?_
  refine lv_aload_n hx hb nd_M_munmap_1 rfl (lv_at hl 0 rfl) ?_
  refine lv_iload_n hx hb nd_M_munmap_2 rfl (lv_at hl 1 rfl) ?_
  obtain ⟨r1, hc, hf⟩ := mi_cp_el hf
  refine ca_i (va_runV (C := "MovedFramesModel") (As := [.int z1]) (rest := [.ref (r 0)]) ⟨hx, hb, hml, hown, hB⟩ (kw_M_isSpace l dC dI r cI cZ _ σ z1 r1 hc) ⟨callB_of 1 hB (gi_ lk_733) rfl rfl rfl (hB _ lk_7) (hB _ lk_730) (by decide +kernel) ⟨Nat.le_of_ble_eq_true rfl, Nat.le_of_ble_eq_true rfl⟩, hB _ lk_732, hB _ ls_34⟩ ⟨bl_, va_recv (ci := 6) (q0 := 0) hK hP rfl rfl, pre_ hP hK hD hN⟩ rfl rfl hl.1 rfl (lv_room (Nat.le_of_ble_eq_true rfl)) nd_M_munmap_3 ⟨Nat.zero_le _, Nat.zero_le _⟩) hD hS hA (fun H locs hP hD hS => ?_)
  refine lv_if_eq (tgt := 21) hx hb nd_M_munmap_6 (by decide) (fun hc => ?_) (fun hc => ?_)
  · have hf := mi_if_t hc hf
    exact B21 z1 z2 z3 σ hf _ _ _ (lv_sub hl [0, 1, 2, 3] rfl) hP hD hS
  · have hf := mi_if_f hc hf
    refine lv_iload_n hx hb nd_M_munmap_9 rfl (lv_at hl 2 rfl) ?_
    refine lv_iload_n hx hb nd_M_munmap_10 rfl (lv_at hl 3 rfl) ?_
    obtain ⟨r7, hc, hf⟩ := mi_cp_el hf
    refine ca_i (va_runS (As := [.int z2, .int z3]) (rest := [.ref (r 0)]) ⟨hx, hb, hml, hown, hB⟩ (kw_M_isRow l dC dI r cI cZ _ σ z2 z3 r7 hc) ⟨callB_of 2 hB (gi_ lk_760) rfl rfl rfl (hB _ lk_7) (hB _ lk_758) (by decide +kernel) ⟨Nat.le_of_ble_eq_true rfl, Nat.le_of_ble_eq_true rfl⟩, hB _ lk_759⟩ ⟨bl_, pre_ hP hK hD hN⟩ rfl rfl hl.1 rfl (lv_room (Nat.le_of_ble_eq_true rfl)) nd_M_munmap_11 ⟨Nat.zero_le _, Nat.zero_le _⟩) hD hS hA (fun H locs hP hD hS => ?_)
    refine lv_if_eq (tgt := 21) hx hb nd_M_munmap_14 (by decide) (fun hc => ?_) (fun hc => ?_)
    · have hf := mi_if_t hc hf
      exact B21 z1 z2 z3 σ hf _ _ _ (lv_sub hl [0, 1, 2, 3] rfl) hP hD hS
    · have hf := mi_if_f hc hf
      refine lv_iconst (v := 0) hx hb nd_M_munmap_17 (by decide) ?_
      refine lv_goto (tgt := 22) hx hb nd_M_munmap_18 (by decide) ?_
      exact B22 z1 z2 z3 (0 : Int32) σ hf _ _ _ (lv_sub hl [0, 1, 2, 3] rfl) hP hD hS
abbrev rm_M_wrong : Room := { frames := 3, cells := 0, slots := 0, locals := 66 }
set_option maxHeartbeats 4000000 in
set_option maxRecDepth 100000 in
theorem kw_M_wrong (l : Launch) (dC : Nat → ClassId) (dI : Nat → Nat → Nat) (r : Nat → Nat) (cI cZ : ClassId) (sz : Nat) (σ : MS) (z1 : Int32) (z2 : Int32) (v : Int32) (hf : mm_wrong σ z1 z2 = some v) : Met l ny_M_wrong nw_M_wrong rm_M_wrong (va_Pc [.ref (r 0), .int z1, .int z2] (pr_ (dC, dI) (wd_M r cI cZ) [(cI, .int), (cZ, .boolean)] sz σ)) (qi_ (dC, dI) (wd_M r cI cZ) [(cI, .int), (cZ, .boolean)] (va_A (wd_M r cI cZ σ) sz) v σ) 0 0 (va_A (wd_M r cI cZ σ) sz) := by
  refine Met.ofW (cc := nb_M_wrong) (maxL := 4) (ret := (some .int)) (by decide) rfl ?_
  intro p e s m args below meth c s₁ B hml hv
  obtain ⟨rfl, hsz, hP, hK, hD0, hN⟩ := hv
  have hx := B.exec
  have hb := B.bytes
  have hr := B.returns
  have hts := atoms_spec (ws := nw_M_wrong) B.pre
  have hB : ∀ w ∈ BG, w.before ([.ref (r 0), .int z1, .int z2] : List Value).toArray s = true := fun w h => hts w (List.mem_cons_of_mem _ h)
  have hown : s.vm.findClass "MovedFramesModel" = some m.cls := findClass_of_methodNamed B.named
  have hlocks := B.notSynchronized
  subst hsz
  have hD := hD0.self (sz := s.heap.size)
  generalize hAe : va_A (wd_M r cI cZ σ) s.heap.size = A at hD ⊢
  have hA : ∀ q : Nat, s.heap.size ≤ q → A q := fun q h => by rw [← hAe]; exact Or.inr h
  have hS : va_S A s.heap s.heap [] := va_S.rf
  have hl := lv_entry ([.ref (r 0), .int z1, .int z2]) (n := 4) (Nat.le_of_ble_eq_true rfl)
  rw [lg_entry_eq]
  generalize (lg_sl ([.ref (r 0), .int z1, .int z2]) ++ List.replicate (4 - (lg_sl ([.ref (r 0), .int z1, .int z2])).length) Slot.unset).toArray = ls at hl ⊢
  have hl : lv_has ls 4 [(0, .ref (r 0)), (1, .int z1), (2, .int z2)] := hl
  have B128 : ∀ (y0 : Int32), mm_wrong_b128 y0 σ = some v → bk_ p l e rm_M_wrong s m ([.ref (r 0), .int z1, .int z2] : List Value).toArray below meth c (MQ below (qi_ (dC, dI) (wd_M r cI cZ) [(cI, .int), (cZ, .boolean)] A v σ) ([.ref (r 0), .int z1, .int z2] : List Value).toArray s 0 0 A) A (dC, dI) (wd_M r cI cZ) 4 128 [(0, .ref (r 0))] [.int y0] σ := by
    intro y0 hf ls H locs hl hP hD hS
    unfold mm_wrong_b128 at hf
    refine lv_istore_n (lv' := [(3, .int y0), (0, .ref (r 0))]) hx hb nd_M_wrong_128 rfl hl (by decide) rfl (fun ls hl => ?_)
    refine lv_aload_n hx hb nd_M_wrong_129 rfl (lv_at hl 1 rfl) ?_
    obtain ⟨r5, hc, hf⟩ := mi_cp_el hf
    refine ca_i (va_runV (C := "MovedFramesModel") (As := []) (rest := []) ⟨hx, hb, hml, hown, hB⟩ (kw_M_countFree l dC dI r cI cZ _ σ r5 hc) ⟨callB_of 0 hB (gi_ lk_677) rfl rfl rfl (hB _ lk_7) (hB _ lk_674) (by decide +kernel) ⟨Nat.le_of_ble_eq_true rfl, Nat.le_of_ble_eq_true rfl⟩, hB _ lk_676, hB _ ls_25⟩ ⟨bl_, va_recv (ci := 6) (q0 := 0) hK hP rfl rfl, pre_ hP hK hD hN⟩ rfl rfl hl.1 rfl (lv_room (Nat.le_of_ble_eq_true rfl)) nd_M_wrong_130 ⟨Nat.zero_le _, Nat.zero_le _⟩) hD hS hA (fun H locs hP hD hS => ?_)
    refine lv_iload_n hx hb nd_M_wrong_133 rfl (lv_at hl 0 rfl) ?_
    refine lv_icmp_ge (tgt := 141) hx hb nd_M_wrong_134 (by decide) (fun hc => ?_) (fun hc => ?_)
    · have hf := mi_if_t hc hf
      refine lv_iconst (v := 0) hx hb nd_M_wrong_141 (by decide) ?_
      exact re_i hx hb hr hlocks (mi_eq hf) (rfl) hP hK hD hS nd_M_wrong_142
    · have hf := mi_if_f hc hf
      refine lv_iconst (v := 3) hx hb nd_M_wrong_137 (by decide) ?_
      refine lv_goto (tgt := 142) hx hb nd_M_wrong_138 (by decide) ?_
      exact re_i hx hb hr hlocks (mi_eq hf) (rfl) hP hK hD hS nd_M_wrong_142
  have hH : s.heap = s.heap := rfl
  unfold mm_wrong at hf
  refine lv_iload_n hx hb nd_M_wrong_0 rfl (lv_at hl 1 rfl) ?_
  refine lv_iconst (v := (-1)) hx hb nd_M_wrong_1 (by decide) ?_
  refine lv_icmp_ne (tgt := 19) hx hb nd_M_wrong_2 (by decide) (fun hc => ?_) (fun hc => ?_)
  · have hf := mi_if_f hc hf
    refine lv_iload_n hx hb nd_M_wrong_19 rfl (lv_at hl 1 rfl) ?_
    refine lv_bipush (v := (-2)) hx hb nd_M_wrong_20 (by decide) ?_
    refine lv_icmp_ne (tgt := 54) hx hb nd_M_wrong_22 (by decide) (fun hc => ?_) (fun hc => ?_)
    · have hf := mi_if_f hc hf
      refine lv_aload_n hx hb nd_M_wrong_54 rfl (lv_at hl 0 rfl) ?_
      refine lv_iload_n hx hb nd_M_wrong_55 rfl (lv_at hl 1 rfl) ?_
      obtain ⟨r1, hc, hf⟩ := mi_cp_el hf
      refine ca_i (va_runV (C := "MovedFramesModel") (As := [.int z1]) (rest := []) ⟨hx, hb, hml, hown, hB⟩ (kw_M_isSpace l dC dI r cI cZ _ σ z1 r1 hc) ⟨callB_of 1 hB (gi_ lk_733) rfl rfl rfl (hB _ lk_7) (hB _ lk_730) (by decide +kernel) ⟨Nat.le_of_ble_eq_true rfl, Nat.le_of_ble_eq_true rfl⟩, hB _ lk_732, hB _ ls_34⟩ ⟨bl_, va_recv (ci := 6) (q0 := 0) hK hP rfl rfl, pre_ hP hK hD hN⟩ rfl rfl hl.1 rfl (lv_room (Nat.le_of_ble_eq_true rfl)) nd_M_wrong_56 ⟨Nat.zero_le _, Nat.zero_le _⟩) hD hS hA (fun H locs hP hD hS => ?_)
      refine lv_if_ne (tgt := 64) hx hb nd_M_wrong_59 (by decide) (fun hc => ?_) (fun hc => ?_)
      · have hf := mi_if_f hc hf
        refine lv_iload_n hx hb nd_M_wrong_64 rfl (lv_at hl 2 rfl) ?_
        refine lv_iconst (v := 0) hx hb nd_M_wrong_65 (by decide) ?_
        refine lv_sipush (v := 4095) hx hb nd_M_wrong_66 (by decide) ?_
        obtain ⟨r2, hc, hf⟩ := mi_cp_el hf
        refine ca_i (va_runS (As := [.int z2, .int (0 : Int32), .int (4095 : Int32)]) (rest := []) ⟨hx, hb, hml, hown, hB⟩ (kw_M_in l dC dI r cI cZ _ σ z2 (0 : Int32) (4095 : Int32) r2 hc) ⟨callB_of 3 hB (gi_ lk_673) rfl rfl rfl (hB _ lk_7) (hB _ lk_671) (by decide +kernel) ⟨Nat.le_of_ble_eq_true rfl, Nat.le_of_ble_eq_true rfl⟩, hB _ lk_672⟩ ⟨bl_, pre_ hP hK hD hN⟩ rfl rfl hl.1 rfl (lv_room (Nat.le_of_ble_eq_true rfl)) nd_M_wrong_69 ⟨Nat.zero_le _, Nat.zero_le _⟩) hD hS hA (fun H locs hP hD hS => ?_)
        refine lv_if_eq (tgt := 93) hx hb nd_M_wrong_72 (by decide) (fun hc => ?_) (fun hc => ?_)
        · have hf := mi_if_t hc hf
          refine lv_iconst (v := 2) hx hb nd_M_wrong_93 (by decide) ?_
          exact re_i hx hb hr hlocks (mi_eq hf) (rfl) hP hK hD hS nd_M_wrong_94
        · have hf := mi_if_f hc hf
          refine lv_aload_n hx hb nd_M_wrong_75 rfl (lv_at hl 0 rfl) ?_
          refine va_get (D := (dC, dI)) (ci := 6) (v := .ref (r 9)) (C := RX6) (T := TX6) (N := 11) hx hb hB inB6 hown hK hP 0 rfl rfl 9 (by decide) (hB _ lk_638) (fun _ h9 => h9) rfl nd_M_wrong_76 ?_
          refine lv_sipush (v := 256) hx hb nd_M_wrong_79 (by decide) ?_
          refine lv_iload_n hx hb nd_M_wrong_82 rfl (lv_at hl 1 rfl) ?_
          refine lv_imul hx hb nd_M_wrong_83 ?_
          refine lv_iload_n hx hb nd_M_wrong_84 rfl (lv_at hl 2 rfl) ?_
          refine lv_bipush (v := 16) hx hb nd_M_wrong_85 (by decide) ?_
          refine lv_idiv hx hb nd_M_wrong_87 (by decide) ?_
          refine lv_iadd hx hb nd_M_wrong_88 ?_
          obtain ⟨hg, hf⟩ := mi_gd_el hf
          refine va_zald hx hb hK hP 9 1 rfl rfl hg nd_M_wrong_89 ?_
          refine lv_if_ne (tgt := 95) hx hb nd_M_wrong_90 (by decide) (fun hc => ?_) (fun hc => ?_)
          · have hf := mi_if_f hc hf
            refine lv_aload_n hx hb nd_M_wrong_95 rfl (lv_at hl 0 rfl) ?_
            refine lv_iload_n hx hb nd_M_wrong_96 rfl (lv_at hl 1 rfl) ?_
            refine lv_iload_n hx hb nd_M_wrong_97 rfl (lv_at hl 2 rfl) ?_
            refine lv_bipush (v := 16) hx hb nd_M_wrong_98 (by decide) ?_
            refine lv_idiv hx hb nd_M_wrong_100 (by decide) ?_
            obtain ⟨r3, hc, hf⟩ := mi_cp_el hf
            refine ca_i (va_runV (C := "MovedFramesModel") (As := [.int z1, .int (z2 / (16 : Int32))]) (rest := []) ⟨hx, hb, hml, hown, hB⟩ (kw_M_frameOf l dC dI r cI cZ _ σ z1 (z2 / (16 : Int32)) r3 hc) ⟨callB_of 2 hB (gi_ lk_741) rfl rfl rfl (hB _ lk_7) (hB _ lk_738) (by decide +kernel) ⟨Nat.le_of_ble_eq_true rfl, Nat.le_of_ble_eq_true rfl⟩, hB _ lk_740, hB _ ls_36⟩ ⟨bl_, va_recv (ci := 6) (q0 := 0) hK hP rfl rfl, pre_ hP hK hD hN⟩ rfl rfl hl.1 rfl (lv_room (Nat.le_of_ble_eq_true rfl)) nd_M_wrong_101 ⟨Nat.zero_le _, Nat.zero_le _⟩) hD hS hA (fun H locs hP hD hS => ?_)
            refine lv_if_lt (tgt := 111) hx hb nd_M_wrong_104 (by decide) (fun hc => ?_) (fun hc => ?_)
            · have hf := mi_if_t hc hf
              refine lv_aload_n hx hb nd_M_wrong_111 rfl (lv_at hl 0 rfl) ?_
              refine lv_iload_n hx hb nd_M_wrong_112 rfl (lv_at hl 1 rfl) ?_
              refine lv_iload_n hx hb nd_M_wrong_113 rfl (lv_at hl 2 rfl) ?_
              refine lv_bipush (v := 16) hx hb nd_M_wrong_114 (by decide) ?_
              refine lv_idiv hx hb nd_M_wrong_116 (by decide) ?_
              obtain ⟨r4, hc, hf⟩ := mi_cp_el hf
              refine ca_i (va_runV (C := "MovedFramesModel") (As := [.int z1, .int (z2 / (16 : Int32))]) (rest := []) ⟨hx, hb, hml, hown, hB⟩ (kw_M_hasTable l dC dI r cI cZ _ σ z1 (z2 / (16 : Int32)) r4 hc) ⟨callB_of 2 hB (gi_ lk_745) rfl rfl rfl (hB _ lk_7) (hB _ lk_742) (by decide +kernel) ⟨Nat.le_of_ble_eq_true rfl, Nat.le_of_ble_eq_true rfl⟩, hB _ lk_744, hB _ ls_37⟩ ⟨bl_, va_recv (ci := 6) (q0 := 0) hK hP rfl rfl, pre_ hP hK hD hN⟩ rfl rfl hl.1 rfl (lv_room (Nat.le_of_ble_eq_true rfl)) nd_M_wrong_117 ⟨Nat.zero_le _, Nat.zero_le _⟩) hD hS hA (fun H locs hP hD hS => ?_)
              refine lv_if_eq (tgt := 127) hx hb nd_M_wrong_120 (by decide) (fun hc => ?_) (fun hc => ?_)
              · have hf := mi_if_t hc hf
                refine lv_iconst (v := 2) hx hb nd_M_wrong_127 (by decide) ?_
                exact B128 (2 : Int32) hf _ _ _ (lv_sub hl [0] rfl) hP hD hS
              · have hf := mi_if_f hc hf
                refine lv_iconst (v := 1) hx hb nd_M_wrong_123 (by decide) ?_
                refine lv_goto (tgt := 128) hx hb nd_M_wrong_124 (by decide) ?_
                exact B128 (1 : Int32) hf _ _ _ (lv_sub hl [0] rfl) hP hD hS
            · have hf := mi_if_f hc hf
              refine lv_iconst (v := 0) hx hb nd_M_wrong_107 (by decide) ?_
              refine lv_goto (tgt := 128) hx hb nd_M_wrong_108 (by decide) ?_
              exact B128 (0 : Int32) hf _ _ _ (lv_sub hl [0] rfl) hP hD hS
          · have hf := mi_if_t hc hf
            refine lv_iconst (v := 2) hx hb nd_M_wrong_93 (by decide) ?_
            exact re_i hx hb hr hlocks (mi_eq hf) (rfl) hP hK hD hS nd_M_wrong_94
      · have hf := mi_if_t hc hf
        refine lv_iconst (v := 1) hx hb nd_M_wrong_62 (by decide) ?_
        exact re_i hx hb hr hlocks (mi_eq hf) (rfl) hP hK hD hS nd_M_wrong_63
    · have hf := mi_if_t hc hf
      refine lv_iload_n hx hb nd_M_wrong_25 rfl (lv_at hl 2 rfl) ?_
      refine lv_iconst (v := 0) hx hb nd_M_wrong_26 (by decide) ?_
      refine lv_sipush (v := 1023) hx hb nd_M_wrong_27 (by decide) ?_
      obtain ⟨r6, hc, hf⟩ := mi_cp_el hf
      refine ca_i (va_runS (As := [.int z2, .int (0 : Int32), .int (1023 : Int32)]) (rest := []) ⟨hx, hb, hml, hown, hB⟩ (kw_M_in l dC dI r cI cZ _ σ z2 (0 : Int32) (1023 : Int32) r6 hc) ⟨callB_of 3 hB (gi_ lk_673) rfl rfl rfl (hB _ lk_7) (hB _ lk_671) (by decide +kernel) ⟨Nat.le_of_ble_eq_true rfl, Nat.le_of_ble_eq_true rfl⟩, hB _ lk_672⟩ ⟨bl_, pre_ hP hK hD hN⟩ rfl rfl hl.1 rfl (lv_room (Nat.le_of_ble_eq_true rfl)) nd_M_wrong_30 ⟨Nat.zero_le _, Nat.zero_le _⟩) hD hS hA (fun H locs hP hD hS => ?_)
      refine lv_if_eq (tgt := 52) hx hb nd_M_wrong_33 (by decide) (fun hc => ?_) (fun hc => ?_)
      · have hf := mi_if_t hc hf
        refine lv_iconst (v := 2) hx hb nd_M_wrong_52 (by decide) ?_
        exact re_i hx hb hr hlocks (mi_eq hf) (rfl) hP hK hD hS nd_M_wrong_53
      · have hf := mi_if_f hc hf
        refine lv_aload_n hx hb nd_M_wrong_36 rfl (lv_at hl 0 rfl) ?_
        refine va_get (D := (dC, dI)) (ci := 6) (v := .ref (r 6)) (C := RX6) (T := TX6) (N := 11) hx hb hB inB6 hown hK hP 0 rfl rfl 6 (by decide) (hB _ lk_635) (fun _ h9 => h9) rfl nd_M_wrong_37 ?_
        refine lv_iload_n hx hb nd_M_wrong_40 rfl (lv_at hl 2 rfl) ?_
        refine lv_bipush (v := 16) hx hb nd_M_wrong_41 (by decide) ?_
        refine lv_idiv hx hb nd_M_wrong_43 (by decide) ?_
        obtain ⟨hg, hf⟩ := mi_gd_el hf
        refine va_iald hx hb hK hP 6 0 rfl rfl hg nd_M_wrong_44 ?_
        refine lv_if_le (tgt := 52) hx hb nd_M_wrong_45 (by decide) (fun hc => ?_) (fun hc => ?_)
        · have hf := mi_if_t hc hf
          refine lv_iconst (v := 2) hx hb nd_M_wrong_52 (by decide) ?_
          exact re_i hx hb hr hlocks (mi_eq hf) (rfl) hP hK hD hS nd_M_wrong_53
        · have hf := mi_if_f hc hf
          refine lv_iconst (v := 0) hx hb nd_M_wrong_48 (by decide) ?_
          refine lv_goto (tgt := 53) hx hb nd_M_wrong_49 (by decide) ?_
          exact re_i hx hb hr hlocks (mi_eq hf) (rfl) hP hK hD hS nd_M_wrong_53
  · have hf := mi_if_t hc hf
    refine lv_aload_n hx hb nd_M_wrong_5 rfl (lv_at hl 0 rfl) ?_
    refine lv_iload_n hx hb nd_M_wrong_6 rfl (lv_at hl 2 rfl) ?_
    obtain ⟨r7, hc, hf⟩ := mi_cp_el hf
    refine ca_i (va_runV (C := "MovedFramesModel") (As := [.int z2]) (rest := []) ⟨hx, hb, hml, hown, hB⟩ (kw_M_isObject l dC dI r cI cZ _ σ z2 r7 hc) ⟨callB_of 1 hB (gi_ lk_709) rfl rfl rfl (hB _ lk_7) (hB _ lk_706) (by decide +kernel) ⟨Nat.le_of_ble_eq_true rfl, Nat.le_of_ble_eq_true rfl⟩, hB _ lk_708, hB _ ls_32⟩ ⟨bl_, va_recv (ci := 6) (q0 := 0) hK hP rfl rfl, pre_ hP hK hD hN⟩ rfl rfl hl.1 rfl (lv_room (Nat.le_of_ble_eq_true rfl)) nd_M_wrong_7 ⟨Nat.zero_le _, Nat.zero_le _⟩) hD hS hA (fun H locs hP hD hS => ?_)
    refine lv_if_eq (tgt := 17) hx hb nd_M_wrong_10 (by decide) (fun hc => ?_) (fun hc => ?_)
    · have hf := mi_if_t hc hf
      refine lv_iconst (v := 2) hx hb nd_M_wrong_17 (by decide) ?_
      exact re_i hx hb hr hlocks (mi_eq hf) (rfl) hP hK hD hS nd_M_wrong_18
    · have hf := mi_if_f hc hf
      refine lv_iconst (v := 0) hx hb nd_M_wrong_13 (by decide) ?_
      refine lv_goto (tgt := 18) hx hb nd_M_wrong_14 (by decide) ?_
      exact re_i hx hb hr hlocks (mi_eq hf) (rfl) hP hK hD hS nd_M_wrong_18
