abbrev rm_M_blocks : Room := { frames := 2, cells := 0, slots := 0, locals := 46 }
set_option maxHeartbeats 4000000 in
set_option maxRecDepth 100000 in
theorem kw_M_blocks (l : Launch) (dC : Nat → ClassId) (dI : Nat → Nat → Nat) (r : Nat → Nat) (cI cZ : ClassId) (sz : Nat) (σ : MS) (z1 : Int32) (v : Int32) (σ' : MS) (hf : mm_blocks σ z1 = some (v, σ')) : Met l ny_M_blocks nw_M_blocks rm_M_blocks (va_Pc [.ref (r 0), .int z1] (pr_ (dC, dI) (wd_M r cI cZ) [(cI, .int), (cZ, .boolean)] sz σ)) (qi_ (dC, dI) (wd_M r cI cZ) [(cI, .int), (cZ, .boolean)] (va_A (wd_M r cI cZ σ) sz) v σ') 0 0 (va_A (wd_M r cI cZ σ) sz) := by
  refine Met.ofW (cc := nb_M_blocks) (maxL := 5) (ret := (some .int)) (by decide) rfl ?_
  intro p e s m args below meth c s₁ B hml hv
  obtain ⟨rfl, hsz, hP, hK, hD0, hN⟩ := hv
  have hx := B.exec
  have hb := B.bytes
  have hr := B.returns
  have hts := atoms_spec (ws := nw_M_blocks) B.pre
  have hB : ∀ w ∈ BG, w.before ([.ref (r 0), .int z1] : List Value).toArray s = true := fun w h => hts w (List.mem_cons_of_mem _ h)
  have hown : s.vm.findClass "MovedFramesModel" = some m.cls := findClass_of_methodNamed B.named
  have hlocks := B.notSynchronized
  subst hsz
  have hD := hD0.self (sz := s.heap.size)
  generalize hAe : va_A (wd_M r cI cZ σ) s.heap.size = A at hD ⊢
  have hA : ∀ q : Nat, s.heap.size ≤ q → A q := fun q h => by rw [← hAe]; exact Or.inr h
  have hS : va_S A s.heap s.heap [] := va_S.rf
  have hl := lv_entry ([.ref (r 0), .int z1]) (n := 5) (Nat.le_of_ble_eq_true rfl)
  rw [lg_entry_eq]
  generalize (lg_sl ([.ref (r 0), .int z1]) ++ List.replicate (5 - (lg_sl ([.ref (r 0), .int z1])).length) Slot.unset).toArray = ls at hl ⊢
  have hl : lv_has ls 5 [(0, .ref (r 0)), (1, .int z1)] := hl
  have B63 : ∀ (k29 : Int32 → Int32 → Int32 → Int32 → MS → Option (Int32 × MS)) (hk29 : ∀ (x1 : Int32) (x2 : Int32) (x3 : Int32) (x4 : Int32) (σ : MS), k29 x1 x2 x3 x4 σ = some (v, σ') → bk_ p l e rm_M_blocks s m ([.ref (r 0), .int z1] : List Value).toArray below meth c (MQ below (qi_ (dC, dI) (wd_M r cI cZ) [(cI, .int), (cZ, .boolean)] A v σ') ([.ref (r 0), .int z1] : List Value).toArray s 0 0 A) A (dC, dI) (wd_M r cI cZ) 5 29 [(0, .ref (r 0)), (1, .int x1), (2, .int x2), (3, .int x3), (4, .int x4)] [] σ) (x1 : Int32) (x3 : Int32) (x4 : Int32) (y0 : Int32) (σ : MS), mm_blocks_b63 k29 x1 x3 x4 y0 σ = some (v, σ') → bk_ p l e rm_M_blocks s m ([.ref (r 0), .int z1] : List Value).toArray below meth c (MQ below (qi_ (dC, dI) (wd_M r cI cZ) [(cI, .int), (cZ, .boolean)] A v σ') ([.ref (r 0), .int z1] : List Value).toArray s 0 0 A) A (dC, dI) (wd_M r cI cZ) 5 63 [(0, .ref (r 0)), (1, .int x1), (3, .int x3), (4, .int x4)] [.int y0] σ := by
    intro k29 hk29 x1 x3 x4 y0 σ hf ls H locs hl hP hD hS
    unfold mm_blocks_b63 at hf
    refine lv_istore_n (lv' := [(2, .int y0), (0, .ref (r 0)), (1, .int x1), (3, .int x3), (4, .int x4)]) hx hb nd_M_blocks_63 rfl hl (by decide) rfl (fun ls hl => ?_)
    refine lv_iload hx hb nd_M_blocks_64 (lv_at hl 4 rfl) ?_
    refine lv_iload_n hx hb nd_M_blocks_66 rfl (lv_at hl 3 rfl) ?_
    refine lv_iadd hx hb nd_M_blocks_67 ?_
    refine lv_istore (lv' := [(4, .int (x4 + x3)), (2, .int y0), (0, .ref (r 0)), (1, .int x1), (3, .int x3)]) hx hb nd_M_blocks_68 hl (by decide) rfl (fun ls hl => ?_)
    refine lv_goto (tgt := 29) hx hb nd_M_blocks_70 (by decide) ?_
    exact hk29 x1 y0 x3 (x4 + x3) σ hf _ _ _ (lv_sub hl [2, 3, 1, 4, 0] rfl) hP hD hS
  have B62 : ∀ (k29 : Int32 → Int32 → Int32 → Int32 → MS → Option (Int32 × MS)) (hk29 : ∀ (x1 : Int32) (x2 : Int32) (x3 : Int32) (x4 : Int32) (σ : MS), k29 x1 x2 x3 x4 σ = some (v, σ') → bk_ p l e rm_M_blocks s m ([.ref (r 0), .int z1] : List Value).toArray below meth c (MQ below (qi_ (dC, dI) (wd_M r cI cZ) [(cI, .int), (cZ, .boolean)] A v σ') ([.ref (r 0), .int z1] : List Value).toArray s 0 0 A) A (dC, dI) (wd_M r cI cZ) 5 29 [(0, .ref (r 0)), (1, .int x1), (2, .int x2), (3, .int x3), (4, .int x4)] [] σ) (x1 : Int32) (x2 : Int32) (x3 : Int32) (x4 : Int32) (σ : MS), mm_blocks_b62 k29 x1 x2 x3 x4 σ = some (v, σ') → bk_ p l e rm_M_blocks s m ([.ref (r 0), .int z1] : List Value).toArray below meth c (MQ below (qi_ (dC, dI) (wd_M r cI cZ) [(cI, .int), (cZ, .boolean)] A v σ') ([.ref (r 0), .int z1] : List Value).toArray s 0 0 A) A (dC, dI) (wd_M r cI cZ) 5 62 [(0, .ref (r 0)), (1, .int x1), (2, .int x2), (3, .int x3), (4, .int x4)] [] σ := by
    intro k29 hk29 x1 x2 x3 x4 σ hf ls H locs hl hP hD hS
    unfold mm_blocks_b62 at hf
    refine lv_iload_n hx hb nd_M_blocks_62 rfl (lv_at hl 2 rfl) ?_
    exact B63 k29 hk29 x1 x3 x4 x2 σ hf _ _ _ (lv_sub hl [0, 1, 3, 4] rfl) hP hD hS
  have B29 : ∀ (k29 : Int32 → Int32 → Int32 → Int32 → MS → Option (Int32 × MS)) (hk29 : ∀ (x1 : Int32) (x2 : Int32) (x3 : Int32) (x4 : Int32) (σ : MS), k29 x1 x2 x3 x4 σ = some (v, σ') → bk_ p l e rm_M_blocks s m ([.ref (r 0), .int z1] : List Value).toArray below meth c (MQ below (qi_ (dC, dI) (wd_M r cI cZ) [(cI, .int), (cZ, .boolean)] A v σ') ([.ref (r 0), .int z1] : List Value).toArray s 0 0 A) A (dC, dI) (wd_M r cI cZ) 5 29 [(0, .ref (r 0)), (1, .int x1), (2, .int x2), (3, .int x3), (4, .int x4)] [] σ) (x1 : Int32) (x2 : Int32) (x3 : Int32) (x4 : Int32) (σ : MS), mm_blocks_b29 k29 x1 x2 x3 x4 σ = some (v, σ') → bk_ p l e rm_M_blocks s m ([.ref (r 0), .int z1] : List Value).toArray below meth c (MQ below (qi_ (dC, dI) (wd_M r cI cZ) [(cI, .int), (cZ, .boolean)] A v σ') ([.ref (r 0), .int z1] : List Value).toArray s 0 0 A) A (dC, dI) (wd_M r cI cZ) 5 29 [(0, .ref (r 0)), (1, .int x1), (2, .int x2), (3, .int x3), (4, .int x4)] [] σ := by
    intro k29 hk29 x1 x2 x3 x4 σ hf ls H locs hl hP hD hS
    unfold mm_blocks_b29 at hf
    refine lv_iload hx hb nd_M_blocks_29 (lv_at hl 4 rfl) ?_
    refine lv_bipush (v := 64) hx hb nd_M_blocks_31 (by decide) ?_
    refine lv_icmp_ge (tgt := 73) hx hb nd_M_blocks_33 (by decide) (fun hc => ?_) (fun hc => ?_)
    · have hf := mi_if_t hc hf
      refine lv_iload_n hx hb nd_M_blocks_73 rfl (lv_at hl 2 rfl) ?_
      exact re_i hx hb hr hlocks ((mi_pr hf).1) ((mi_pr hf).2) hP hK hD hS nd_M_blocks_74
    · have hf := mi_if_f hc hf
      refine lv_aload_n hx hb nd_M_blocks_36 rfl (lv_at hl 0 rfl) ?_
      refine lv_iload hx hb nd_M_blocks_37 (lv_at hl 4 rfl) ?_
      refine lv_iload_n hx hb nd_M_blocks_39 rfl (lv_at hl 3 rfl) ?_
      obtain ⟨r3, hc, hf⟩ := mi_cp_el hf
      refine ca_i (va_runV (C := "MovedFramesModel") (As := [.int x4, .int x3]) (rest := []) ⟨hx, hb, hml, hown, hB⟩ (kw_M_isBlock l dC dI r cI cZ _ σ x4 x3 r3 hc) ⟨callB_of 2 hB (gi_ lk_693) rfl rfl rfl (hB _ lk_7) (hB _ lk_690) (by decide +kernel) ⟨Nat.le_of_ble_eq_true rfl, Nat.le_of_ble_eq_true rfl⟩, hB _ lk_692, hB _ ls_29⟩ ⟨bl_, va_recv (ci := 6) (q0 := 0) hK hP rfl rfl, pre_ hP hK hD hN⟩ rfl rfl hl.1 rfl (lv_room (Nat.le_of_ble_eq_true rfl)) nd_M_blocks_40 ⟨Nat.zero_le _, Nat.zero_le _⟩) hD hS hA (fun H locs hP hD hS => ?_)
      refine lv_if_eq (tgt := 62) hx hb nd_M_blocks_43 (by decide) (fun hc => ?_) (fun hc => ?_)
      · have hf := mi_if_t hc hf
        exact B62 k29 hk29 x1 x2 x3 x4 σ hf _ _ _ (lv_sub hl [0, 1, 2, 3, 4] rfl) hP hD hS
      · have hf := mi_if_f hc hf
        refine lv_iload_n hx hb nd_M_blocks_46 rfl (lv_at hl 1 rfl) ?_
        refine lv_iconst (v := 0) hx hb nd_M_blocks_47 (by decide) ?_
        refine lv_bipush (v := 6) hx hb nd_M_blocks_48 (by decide) ?_
        obtain ⟨r4, hc, hf⟩ := mi_cp_el hf
        refine ca_i (va_runS (As := [.int x1, .int (0 : Int32), .int (6 : Int32)]) (rest := []) ⟨hx, hb, hml, hown, hB⟩ (kw_M_in l dC dI r cI cZ _ σ x1 (0 : Int32) (6 : Int32) r4 hc) ⟨callB_of 3 hB (gi_ lk_673) rfl rfl rfl (hB _ lk_7) (hB _ lk_671) (by decide +kernel) ⟨Nat.le_of_ble_eq_true rfl, Nat.le_of_ble_eq_true rfl⟩, hB _ lk_672⟩ ⟨bl_, pre_ hP hK hD hN⟩ rfl rfl hl.1 rfl (lv_room (Nat.le_of_ble_eq_true rfl)) nd_M_blocks_50 ⟨Nat.zero_le _, Nat.zero_le _⟩) hD hS hA (fun H locs hP hD hS => ?_)
        refine lv_if_eq (tgt := 62) hx hb nd_M_blocks_53 (by decide) (fun hc => ?_) (fun hc => ?_)
        · have hf := mi_if_t hc hf
          exact B62 k29 hk29 x1 x2 x3 x4 σ hf _ _ _ (lv_sub hl [0, 1, 2, 3, 4] rfl) hP hD hS
        · have hf := mi_if_f hc hf
          refine lv_iload_n hx hb nd_M_blocks_56 rfl (lv_at hl 2 rfl) ?_
          refine lv_iconst (v := 1) hx hb nd_M_blocks_57 (by decide) ?_
          refine lv_iadd hx hb nd_M_blocks_58 ?_
          refine lv_goto (tgt := 63) hx hb nd_M_blocks_59 (by decide) ?_
          exact B63 k29 hk29 x1 x3 x4 (x2 + (1 : Int32)) σ hf _ _ _ (lv_sub hl [0, 1, 3, 4] rfl) hP hD hS
  have L29 : ∀ (n : Nat) (x1 : Int32) (x2 : Int32) (x3 : Int32) (x4 : Int32) (σ : MS), mm_blocks_l29 n x1 x2 x3 x4 σ = some (v, σ') → bk_ p l e rm_M_blocks s m ([.ref (r 0), .int z1] : List Value).toArray below meth c (MQ below (qi_ (dC, dI) (wd_M r cI cZ) [(cI, .int), (cZ, .boolean)] A v σ') ([.ref (r 0), .int z1] : List Value).toArray s 0 0 A) A (dC, dI) (wd_M r cI cZ) 5 29 [(0, .ref (r 0)), (1, .int x1), (2, .int x2), (3, .int x3), (4, .int x4)] [] σ := by
    intro n
    induction n with
    | zero =>
      intro x1 x2 x3 x4 σ hf
      exact mi_no hf
    | succ n ih =>
      intro x1 x2 x3 x4 σ hf
      exact B29 (mm_blocks_l29 n) ih x1 x2 x3 x4 σ hf
  have hH : s.heap = s.heap := rfl
  unfold mm_blocks at hf
  refine lv_aload_n hx hb nd_M_blocks_0 rfl (lv_at hl 0 rfl) ?_
  refine lv_iconst (v := 0) hx hb nd_M_blocks_1 (by decide) ?_
  refine va_put (D := (dC, dI)) (ci := 6) (v := .int (0 : Int32)) (ty := .int) (C := RX6) (T := TX6) (N := 11) hx hb hB inB6 tyX6 tyX6_ok nX6 hown hK hP hD hS 0 rfl rfl 0 (by decide) (hB _ lk_629) (fun _ h9 => h9) rfl (by decide +kernel) rfl rfl (Nat.le_of_ble_eq_true rfl) nd_M_blocks_2 (fun H locs hP hD hS => ?_)
  obtain ⟨σ1, e9, hf⟩ := mi_wr_ex hf
  have hP : va_P (dC, dI) vwCl (wd_M r cI cZ σ1) H := by rw [e9]; exact hP
  have hD : va_D A (wd_M r cI cZ σ1) := by rw [e9]; exact hD
  refine lv_iconst (v := 0) hx hb nd_M_blocks_5 (by decide) ?_
  refine lv_istore_n (lv' := [(2, .int (0 : Int32)), (0, .ref (r 0)), (1, .int z1)]) hx hb nd_M_blocks_6 rfl hl (by decide) rfl (fun ls hl => ?_)
  refine lv_iload_n hx hb nd_M_blocks_7 rfl (lv_at hl 2 rfl) ?_
  refine lv_iconst (v := 0) hx hb nd_M_blocks_8 (by decide) ?_
  refine lv_bipush (v := 6) hx hb nd_M_blocks_9 (by decide) ?_
  obtain ⟨r2, hc, hf⟩ := mi_cp_el hf
  refine ca_i (va_runS (As := [.int z1, .int (0 : Int32), .int (6 : Int32)]) (rest := []) ⟨hx, hb, hml, hown, hB⟩ (kw_M_in l dC dI r cI cZ _ σ1 z1 (0 : Int32) (6 : Int32) r2 hc) ⟨callB_of 3 hB (gi_ lk_673) rfl rfl rfl (hB _ lk_7) (hB _ lk_671) (by decide +kernel) ⟨Nat.le_of_ble_eq_true rfl, Nat.le_of_ble_eq_true rfl⟩, hB _ lk_672⟩ ⟨bl_, pre_ hP hK hD hN⟩ rfl rfl hl.1 rfl (lv_room (Nat.le_of_ble_eq_true rfl)) nd_M_blocks_11 ⟨Nat.zero_le _, Nat.zero_le _⟩) hD hS hA (fun H locs hP hD hS => ?_)
  refine lv_if_eq (tgt := 23) hx hb nd_M_blocks_14 (by decide) (fun hc => ?_) (fun hc => ?_)
  · have hf := mi_if_t hc hf
    refine lv_bipush (v := 64) hx hb nd_M_blocks_23 (by decide) ?_
    refine lv_istore_n (lv' := [(3, .int (64 : Int32)), (2, .int (0 : Int32)), (0, .ref (r 0)), (1, .int z1)]) hx hb nd_M_blocks_25 rfl hl (by decide) rfl (fun ls hl => ?_)
    refine lv_iconst (v := 0) hx hb nd_M_blocks_26 (by decide) ?_
    refine lv_istore (lv' := [(4, .int (0 : Int32)), (3, .int (64 : Int32)), (2, .int (0 : Int32)), (0, .ref (r 0)), (1, .int z1)]) hx hb nd_M_blocks_27 hl (by decide) rfl (fun ls hl => ?_)
    exact L29 FU z1 (0 : Int32) (64 : Int32) (0 : Int32) σ1 hf _ _ _ (lv_sub hl [3, 4, 2, 1, 0] rfl) hP hD hS
  · have hf := mi_if_f hc hf
    refine lv_iconst (v := 1) hx hb nd_M_blocks_17 (by decide) ?_
    refine lv_iload_n hx hb nd_M_blocks_18 rfl (lv_at hl 2 rfl) ?_
    refine lv_ishl hx hb nd_M_blocks_19 ?_
    refine lv_goto (tgt := 25) hx hb nd_M_blocks_20 (by decide) ?_
    refine lv_istore_n (lv' := [(3, .int ((1 : Int32) <<< (z1 &&& 31))), (2, .int (0 : Int32)), (0, .ref (r 0)), (1, .int z1)]) hx hb nd_M_blocks_25 rfl hl (by decide) rfl (fun ls hl => ?_)
    refine lv_iconst (v := 0) hx hb nd_M_blocks_26 (by decide) ?_
    refine lv_istore (lv' := [(4, .int (0 : Int32)), (3, .int ((1 : Int32) <<< (z1 &&& 31))), (2, .int (0 : Int32)), (0, .ref (r 0)), (1, .int z1)]) hx hb nd_M_blocks_27 hl (by decide) rfl (fun ls hl => ?_)
    exact L29 FU z1 (0 : Int32) ((1 : Int32) <<< (z1 &&& 31)) (0 : Int32) σ1 hf _ _ _ (lv_sub hl [3, 4, 2, 1, 0] rfl) hP hD hS
abbrev rm_M_free : Room := { frames := 1, cells := 0, slots := 0, locals := 22 }
set_option maxHeartbeats 4000000 in
set_option maxRecDepth 100000 in
theorem kw_M_free (l : Launch) (dC : Nat → ClassId) (dI : Nat → Nat → Nat) (r : Nat → Nat) (cI cZ : ClassId) (sz : Nat) (σ : MS) (v : Int32) (σ' : MS) (hf : mm_free σ = some (v, σ')) : Met l ny_M_free nw_M_free rm_M_free (va_Pc [.ref (r 0)] (pr_ (dC, dI) (wd_M r cI cZ) [(cI, .int), (cZ, .boolean)] sz σ)) (qi_ (dC, dI) (wd_M r cI cZ) [(cI, .int), (cZ, .boolean)] (va_A (wd_M r cI cZ σ) sz) v σ') 0 0 (va_A (wd_M r cI cZ σ) sz) := by
  refine Met.ofW (cc := nb_M_free) (maxL := 1) (ret := (some .int)) (by decide) rfl ?_
  intro p e s m args below meth c s₁ B hml hv
  obtain ⟨rfl, hsz, hP, hK, hD0, hN⟩ := hv
  have hx := B.exec
  have hb := B.bytes
  have hr := B.returns
  have hts := atoms_spec (ws := nw_M_free) B.pre
  have hB : ∀ w ∈ BG, w.before ([.ref (r 0)] : List Value).toArray s = true := fun w h => hts w (List.mem_cons_of_mem _ h)
  have hown : s.vm.findClass "MovedFramesModel" = some m.cls := findClass_of_methodNamed B.named
  have hlocks := B.notSynchronized
  subst hsz
  have hD := hD0.self (sz := s.heap.size)
  generalize hAe : va_A (wd_M r cI cZ σ) s.heap.size = A at hD ⊢
  have hA : ∀ q : Nat, s.heap.size ≤ q → A q := fun q h => by rw [← hAe]; exact Or.inr h
  have hS : va_S A s.heap s.heap [] := va_S.rf
  have hl := lv_entry ([.ref (r 0)]) (n := 1) (Nat.le_of_ble_eq_true rfl)
  rw [lg_entry_eq]
  generalize (lg_sl ([.ref (r 0)]) ++ List.replicate (1 - (lg_sl ([.ref (r 0)])).length) Slot.unset).toArray = ls at hl ⊢
  have hl : lv_has ls 1 [(0, .ref (r 0))] := hl
  have hH : s.heap = s.heap := rfl
  unfold mm_free at hf
  refine lv_aload_n hx hb nd_M_free_0 rfl (lv_at hl 0 rfl) ?_
  refine lv_iconst (v := 0) hx hb nd_M_free_1 (by decide) ?_
  refine va_put (D := (dC, dI)) (ci := 6) (v := .int (0 : Int32)) (ty := .int) (C := RX6) (T := TX6) (N := 11) hx hb hB inB6 tyX6 tyX6_ok nX6 hown hK hP hD hS 0 rfl rfl 0 (by decide) (hB _ lk_629) (fun _ h9 => h9) rfl (by decide +kernel) rfl rfl (Nat.le_of_ble_eq_true rfl) nd_M_free_2 (fun H locs hP hD hS => ?_)
  obtain ⟨σ1, e9, hf⟩ := mi_wr_ex hf
  have hP : va_P (dC, dI) vwCl (wd_M r cI cZ σ1) H := by rw [e9]; exact hP
  have hD : va_D A (wd_M r cI cZ σ1) := by rw [e9]; exact hD
  refine lv_aload_n hx hb nd_M_free_5 rfl (lv_at hl 0 rfl) ?_
  obtain ⟨r2, hc, hf⟩ := mi_cp_el hf
  refine ca_i (va_runV (C := "MovedFramesModel") (As := []) (rest := []) ⟨hx, hb, hml, hown, hB⟩ (kw_M_countFree l dC dI r cI cZ _ σ1 r2 hc) ⟨callB_of 0 hB (gi_ lk_677) rfl rfl rfl (hB _ lk_7) (hB _ lk_674) (by decide +kernel) ⟨Nat.le_of_ble_eq_true rfl, Nat.le_of_ble_eq_true rfl⟩, hB _ lk_676, hB _ ls_25⟩ ⟨bl_, va_recv (ci := 6) (q0 := 0) hK hP rfl rfl, pre_ hP hK hD hN⟩ rfl rfl hl.1 rfl (lv_room (Nat.le_of_ble_eq_true rfl)) nd_M_free_6 ⟨Nat.zero_le _, Nat.zero_le _⟩) hD hS hA (fun H locs hP hD hS => ?_)
  exact re_i hx hb hr hlocks ((mi_pr hf).1) ((mi_pr hf).2) hP hK hD hS nd_M_free_9
abbrev rm_M_moved : Room := { frames := 0, cells := 0, slots := 0, locals := 0 }
set_option maxHeartbeats 4000000 in
set_option maxRecDepth 100000 in
theorem kw_M_moved (l : Launch) (dC : Nat → ClassId) (dI : Nat → Nat → Nat) (r : Nat → Nat) (cI cZ : ClassId) (sz : Nat) (σ : MS) (v : Int32) (σ' : MS) (hf : mm_moved σ = some (v, σ')) : Met l ny_M_moved nw_M_moved rm_M_moved (va_Pc [.ref (r 0)] (pr_ (dC, dI) (wd_M r cI cZ) [(cI, .int), (cZ, .boolean)] sz σ)) (qi_ (dC, dI) (wd_M r cI cZ) [(cI, .int), (cZ, .boolean)] (va_A (wd_M r cI cZ σ) sz) v σ') 0 0 (va_A (wd_M r cI cZ σ) sz) := by
  refine Met.ofW (cc := nb_M_moved) (maxL := 1) (ret := (some .int)) (by decide) rfl ?_
  intro p e s m args below meth c s₁ B hml hv
  obtain ⟨rfl, hsz, hP, hK, hD0, hN⟩ := hv
  have hx := B.exec
  have hb := B.bytes
  have hr := B.returns
  have hts := atoms_spec (ws := nw_M_moved) B.pre
  have hB : ∀ w ∈ BG, w.before ([.ref (r 0)] : List Value).toArray s = true := fun w h => hts w (List.mem_cons_of_mem _ h)
  have hown : s.vm.findClass "MovedFramesModel" = some m.cls := findClass_of_methodNamed B.named
  have hlocks := B.notSynchronized
  subst hsz
  have hD := hD0.self (sz := s.heap.size)
  generalize hAe : va_A (wd_M r cI cZ σ) s.heap.size = A at hD ⊢
  have hA : ∀ q : Nat, s.heap.size ≤ q → A q := fun q h => by rw [← hAe]; exact Or.inr h
  have hS : va_S A s.heap s.heap [] := va_S.rf
  have hl := lv_entry ([.ref (r 0)]) (n := 1) (Nat.le_of_ble_eq_true rfl)
  rw [lg_entry_eq]
  generalize (lg_sl ([.ref (r 0)]) ++ List.replicate (1 - (lg_sl ([.ref (r 0)])).length) Slot.unset).toArray = ls at hl ⊢
  have hl : lv_has ls 1 [(0, .ref (r 0))] := hl
  have hH : s.heap = s.heap := rfl
  unfold mm_moved at hf
  refine lv_aload_n hx hb nd_M_moved_0 rfl (lv_at hl 0 rfl) ?_
  refine lv_iconst (v := 0) hx hb nd_M_moved_1 (by decide) ?_
  refine va_put (D := (dC, dI)) (ci := 6) (v := .int (0 : Int32)) (ty := .int) (C := RX6) (T := TX6) (N := 11) hx hb hB inB6 tyX6 tyX6_ok nX6 hown hK hP hD hS 0 rfl rfl 0 (by decide) (hB _ lk_629) (fun _ h9 => h9) rfl (by decide +kernel) rfl rfl (Nat.le_of_ble_eq_true rfl) nd_M_moved_2 (fun H locs hP hD hS => ?_)
  obtain ⟨σ1, e9, hf⟩ := mi_wr_ex hf
  have hP : va_P (dC, dI) vwCl (wd_M r cI cZ σ1) H := by rw [e9]; exact hP
  have hD : va_D A (wd_M r cI cZ σ1) := by rw [e9]; exact hD
  refine lv_aload_n hx hb nd_M_moved_5 rfl (lv_at hl 0 rfl) ?_
  refine va_get (D := (dC, dI)) (ci := 6) (v := .int (gm_mv σ1)) (C := RX6) (T := TX6) (N := 11) hx hb hB inB6 hown hK hP 0 rfl rfl 10 (by decide) (hB _ lk_639) (fun _ h9 => h9) rfl nd_M_moved_6 ?_
  exact re_i hx hb hr hlocks ((mi_pr hf).1) ((mi_pr hf).2) hP hK hD hS nd_M_moved_9
