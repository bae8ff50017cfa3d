abbrev rm_Runs_movePagesOut : Room := { frames := 3, cells := 0, slots := 0, locals := 67 }
set_option maxHeartbeats 4000000 in
set_option maxRecDepth 100000 in
theorem kw_Runs_movePagesOut (l : Launch) (dC : Nat → ClassId) (dI : Nat → Nat → Nat) (q : Nat → Nat) (cI cZ : ClassId) (sz : Nat) (σ : CS) (z1 : Int32) (z2 : Int32) (σ' : CS) (hf : mc_Runs_movePagesOut σ z1 z2 = some σ') : Met l ny_Runs_movePagesOut nw_Runs_movePagesOut rm_Runs_movePagesOut (va_Pc [.ref (q 5), .int z1, .int z2] (pr_ (dC, dI) (wd_C q cI cZ) [(cI, .int), (cZ, .boolean)] sz σ)) (qv_ (dC, dI) (wd_C q cI cZ) [(cI, .int), (cZ, .boolean)] (va_A (wd_C q cI cZ σ) sz) σ') 0 0 (va_A (wd_C q cI cZ σ) sz) := by
  refine Met.ofW (cc := nb_Runs_movePagesOut) (maxL := 4) (ret := none) (by decide) rfl ?_
  intro p e s m args below meth c s₁ B hml hv
  obtain ⟨rfl, hsz, hP, hK, hD0, hN⟩ := hv
  have hx := B.exec
  have hb := B.bytes
  have hr := B.returns
  have hts := atoms_spec (ws := nw_Runs_movePagesOut) B.pre
  have hB : ∀ w ∈ BG, w.before ([.ref (q 5), .int z1, .int z2] : List Value).toArray s = true := fun w h => hts w (List.mem_cons_of_mem _ h)
  have hown : s.vm.findClass "MovedFrames$Runs" = some m.cls := findClass_of_methodNamed B.named
  have hlocks := B.notSynchronized
  subst hsz
  have hD := hD0.self (sz := s.heap.size)
  generalize hAe : va_A (wd_C q cI cZ σ) s.heap.size = A at hD ⊢
  have hA : ∀ q : Nat, s.heap.size ≤ q → A q := fun q h => by rw [← hAe]; exact Or.inr h
  have hS : va_S A s.heap s.heap [] := va_S.rf
  have hl := lv_entry ([.ref (q 5), .int z1, .int z2]) (n := 4) (Nat.le_of_ble_eq_true rfl)
  rw [lg_entry_eq]
  generalize (lg_sl ([.ref (q 5), .int z1, .int z2]) ++ List.replicate (4 - (lg_sl ([.ref (q 5), .int z1, .int z2])).length) Slot.unset).toArray = ls at hl ⊢
  have hl : lv_has ls 4 [(0, .ref (q 5)), (1, .int z1), (2, .int z2)] := hl
  have B2 : ∀ (k2 : Int32 → Int32 → Int32 → CS → Option (CS)) (hk2 : ∀ (x1 : Int32) (x2 : Int32) (x3 : Int32) (σ : CS), k2 x1 x2 x3 σ = some σ' → bk_ p l e rm_Runs_movePagesOut s m ([.ref (q 5), .int z1, .int z2] : List Value).toArray below meth c (MQ below (qv_ (dC, dI) (wd_C q cI cZ) [(cI, .int), (cZ, .boolean)] A σ') ([.ref (q 5), .int z1, .int z2] : List Value).toArray s 0 0 A) A (dC, dI) (wd_C q cI cZ) 4 2 [(0, .ref (q 5)), (1, .int x1), (2, .int x2), (3, .int x3)] [] σ) (x1 : Int32) (x2 : Int32) (x3 : Int32) (σ : CS), mc_Runs_movePagesOut_b2 k2 x1 x2 x3 σ = some σ' → bk_ p l e rm_Runs_movePagesOut s m ([.ref (q 5), .int z1, .int z2] : List Value).toArray below meth c (MQ below (qv_ (dC, dI) (wd_C q cI cZ) [(cI, .int), (cZ, .boolean)] A σ') ([.ref (q 5), .int z1, .int z2] : List Value).toArray s 0 0 A) A (dC, dI) (wd_C q cI cZ) 4 2 [(0, .ref (q 5)), (1, .int x1), (2, .int x2), (3, .int x3)] [] σ := by
    intro k2 hk2 x1 x2 x3 σ hf ls H locs hl hP hD hS
    unfold mc_Runs_movePagesOut_b2 at hf
    refine lv_iload_n hx hb nd_Runs_movePagesOut_2 rfl (lv_at hl 3 rfl) ?_
    refine lv_iload_n hx hb nd_Runs_movePagesOut_3 rfl (lv_at hl 1 rfl) ?_
    refine lv_iload_n hx hb nd_Runs_movePagesOut_4 rfl (lv_at hl 2 rfl) ?_
    refine lv_iadd hx hb nd_Runs_movePagesOut_5 ?_
    refine lv_icmp_ge (tgt := 51) hx hb nd_Runs_movePagesOut_6 (by decide) (fun hc => ?_) (fun hc => ?_)
    · have hf := mi_if_t hc hf
      exact re_v hx hb hr hlocks (mi_eq hf) hP hK hD hS nd_Runs_movePagesOut_51
    · have hf := mi_if_f hc hf
      refine lv_aload_n hx hb nd_Runs_movePagesOut_9 rfl (lv_at hl 0 rfl) ?_
      refine va_get (D := (dC, dI)) (ci := 2) (v := .ref (q 1)) (C := RX2) (T := TX2) (N := 4) hx hb hB inB2 hown hK hP 5 rfl rfl 0 (by decide) (hB _ lk_100) (fun _ h9 => h9) rfl nd_Runs_movePagesOut_10 ?_
      refine lv_iload_n hx hb nd_Runs_movePagesOut_13 rfl (lv_at hl 3 rfl) ?_
      obtain ⟨r1, hc, hf⟩ := mi_cp_el hf
      refine ca_i (va_runV (C := "MovedFrames$Frames") (As := [.int x3]) (rest := []) ⟨hx, hb, hml, hown, hB⟩ (kw_Frames_ownerOf l dC dI q cI cZ _ σ x3 r1 hc) ⟨callB_of 1 hB (gi_ lk_136) rfl rfl rfl (hB _ lk_2) (hB _ lk_594) (by decide +kernel) ⟨Nat.le_of_ble_eq_true rfl, Nat.le_of_ble_eq_true rfl⟩, hB _ lk_134, hB _ lk_135⟩ ⟨bl_, va_recv (ci := 0) (q0 := 1) hK hP rfl rfl, pre_ hP hK hD hN⟩ rfl rfl hl.1 rfl (lv_room (Nat.le_of_ble_eq_true rfl)) nd_Runs_movePagesOut_14 ⟨Nat.zero_le _, Nat.zero_le _⟩) hD hS hA (fun H locs hP hD hS => ?_)
      refine lv_iconst (v := 4) hx hb nd_Runs_movePagesOut_17 (by decide) ?_
      refine lv_icmp_ne (tgt := 45) hx hb nd_Runs_movePagesOut_18 (by decide) (fun hc => ?_) (fun hc => ?_)
      · have hf := mi_if_f hc hf
        refine lv_iinc (k := 3) (v := x3 + (1 : Int32)) (lv' := [(3, .int (x3 + (1 : Int32))), (0, .ref (q 5)), (1, .int x1), (2, .int x2)]) hx hb nd_Runs_movePagesOut_45 hl rfl (congrArg (fun z => x3 + z) (by decide : Int32.ofInt 1 = (1 : Int32))) (by decide) rfl (fun ls hl => ?_)
        refine lv_goto (tgt := 2) hx hb nd_Runs_movePagesOut_48 (by decide) ?_
        exact hk2 x1 x2 (x3 + (1 : Int32)) σ hf _ _ _ (lv_sub hl [1, 2, 3, 0] rfl) hP hD hS
      · have hf := mi_if_t hc hf
        refine lv_aload_n hx hb nd_Runs_movePagesOut_21 rfl (lv_at hl 0 rfl) ?_
        refine va_get (D := (dC, dI)) (ci := 2) (v := .ref (q 4)) (C := RX2) (T := TX2) (N := 4) hx hb hB inB2 hown hK hP 5 rfl rfl 1 (by decide) (hB _ lk_101) (fun _ h9 => h9) rfl nd_Runs_movePagesOut_22 ?_
        refine lv_iload_n hx hb nd_Runs_movePagesOut_25 rfl (lv_at hl 3 rfl) ?_
        refine lv_aload_n hx hb nd_Runs_movePagesOut_26 rfl (lv_at hl 0 rfl) ?_
        refine lv_iload_n hx hb nd_Runs_movePagesOut_27 rfl (lv_at hl 1 rfl) ?_
        refine lv_iload_n hx hb nd_Runs_movePagesOut_28 rfl (lv_at hl 2 rfl) ?_
        obtain ⟨r2, hc, hf⟩ := mi_cp_el hf
        refine ca_i (va_runV (C := "MovedFrames$Runs") (As := [.int x1, .int x2]) (rest := [.int x3, .ref (q 4)]) ⟨hx, hb, hml, hown, hB⟩ (kw_Runs_lowestFreeOutside l dC dI q cI cZ _ σ x1 x2 r2 hc) ⟨callB_of 2 hB (gi_ lk_598) rfl rfl rfl (hB _ lk_6) (hB _ lk_595) (by decide +kernel) ⟨Nat.le_of_ble_eq_true rfl, Nat.le_of_ble_eq_true rfl⟩, hB _ lk_597, hB _ ls_24⟩ ⟨bl_, va_recv (ci := 2) (q0 := 5) hK hP rfl rfl, pre_ hP hK hD hN⟩ rfl rfl hl.1 rfl (lv_room (Nat.le_of_ble_eq_true rfl)) nd_Runs_movePagesOut_29 ⟨Nat.zero_le _, Nat.zero_le _⟩) hD hS hA (fun H locs hP hD hS => ?_)
        obtain ⟨σ3, hc, hf⟩ := mi_cv_el hf
        refine ca_v (va_runV (C := "MovedFrames$Spaces") (As := [.int x3, .int r2]) (rest := []) ⟨hx, hb, hml, hown, hB⟩ (kw_Spaces_movePage l dC dI q cI cZ _ σ x3 r2 σ3 hc) ⟨callB_of 2 hB (gi_ lk_602) rfl rfl rfl (hB _ lk_5) (hB _ lk_599) (by decide +kernel) ⟨Nat.le_of_ble_eq_true rfl, Nat.le_of_ble_eq_true rfl⟩, hB _ lk_600, hB _ lk_601⟩ ⟨bl_, va_recv (ci := 4) (q0 := 4) hK hP rfl rfl, pre_ hP hK hD hN⟩ rfl rfl hl.1 rfl (lv_room (Nat.le_of_ble_eq_true rfl)) nd_Runs_movePagesOut_32 ⟨Nat.zero_le _, Nat.zero_le _⟩) hD hS hA (fun H locs hP hD hS => ?_)
        refine lv_aload_n hx hb nd_Runs_movePagesOut_35 rfl (lv_at hl 0 rfl) ?_
        refine lv_dup hx hb nd_Runs_movePagesOut_36 rfl ?_
        refine va_get (D := (dC, dI)) (ci := 2) (v := .int (gc_mv σ3)) (C := RX2) (T := TX2) (N := 4) hx hb hB inB2 hown hK hP 5 rfl rfl 3 (by decide) (hB _ lk_103) (fun _ h9 => h9) rfl nd_Runs_movePagesOut_37 ?_
        refine lv_iconst (v := 1) hx hb nd_Runs_movePagesOut_40 (by decide) ?_
        refine lv_iadd hx hb nd_Runs_movePagesOut_41 ?_
        refine va_put (D := (dC, dI)) (ci := 2) (v := .int ((gc_mv σ3) + (1 : Int32))) (ty := .int) (C := RX2) (T := TX2) (N := 4) hx hb hB inB2 tyX2 tyX2_ok nX2 hown hK hP hD hS 5 rfl rfl 3 (by decide) (hB _ lk_103) (fun _ h9 => h9) rfl (by decide +kernel) rfl rfl (Nat.le_of_ble_eq_true rfl) nd_Runs_movePagesOut_42 (fun H locs hP hD hS => ?_)
        obtain ⟨σ4, e9, hf⟩ := mi_wr_ex hf
        have hP : va_P (dC, dI) vwCl (wd_C q cI cZ σ4) H := by rw [e9]; exact hP
        have hD : va_D A (wd_C q cI cZ σ4) := by rw [e9]; exact hD
        refine lv_iinc (k := 3) (v := x3 + (1 : Int32)) (lv' := [(3, .int (x3 + (1 : Int32))), (0, .ref (q 5)), (1, .int x1), (2, .int x2)]) hx hb nd_Runs_movePagesOut_45 hl rfl (congrArg (fun z => x3 + z) (by decide : Int32.ofInt 1 = (1 : Int32))) (by decide) rfl (fun ls hl => ?_)
        refine lv_goto (tgt := 2) hx hb nd_Runs_movePagesOut_48 (by decide) ?_
        exact hk2 x1 x2 (x3 + (1 : Int32)) σ4 hf _ _ _ (lv_sub hl [1, 2, 3, 0] rfl) hP hD hS
  have L2 : ∀ (n : Nat) (x1 : Int32) (x2 : Int32) (x3 : Int32) (σ : CS), mc_Runs_movePagesOut_l2 n x1 x2 x3 σ = some σ' → bk_ p l e rm_Runs_movePagesOut s m ([.ref (q 5), .int z1, .int z2] : List Value).toArray below meth c (MQ below (qv_ (dC, dI) (wd_C q cI cZ) [(cI, .int), (cZ, .boolean)] A σ') ([.ref (q 5), .int z1, .int z2] : List Value).toArray s 0 0 A) A (dC, dI) (wd_C q cI cZ) 4 2 [(0, .ref (q 5)), (1, .int x1), (2, .int x2), (3, .int x3)] [] σ := by
    intro n
    induction n with
    | zero =>
      intro x1 x2 x3 σ hf
      exact mi_no hf
    | succ n ih =>
      intro x1 x2 x3 σ hf
      exact B2 (mc_Runs_movePagesOut_l2 n) ih x1 x2 x3 σ hf
  have hH : s.heap = s.heap := rfl
  unfold mc_Runs_movePagesOut at hf
  refine lv_iload_n hx hb nd_Runs_movePagesOut_0 rfl (lv_at hl 1 rfl) ?_
  refine lv_istore_n (lv' := [(3, .int z1), (0, .ref (q 5)), (1, .int z1), (2, .int z2)]) hx hb nd_Runs_movePagesOut_1 rfl hl (by decide) rfl (fun ls hl => ?_)
  exact L2 FU z1 z2 z1 σ hf _ _ _ (lv_sub hl [1, 2, 3, 0] rfl) hP hD hS
abbrev rm_Runs_add : Room := { frames := 5, cells := 0, slots := 0, locals := 112 }
set_option maxHeartbeats 4000000 in
set_option maxRecDepth 100000 in
theorem kw_Runs_add (l : Launch) (dC : Nat → ClassId) (dI : Nat → Nat → Nat) (q : Nat → Nat) (cI cZ : ClassId) (sz : Nat) (σ : CS) (z1 : Int32) (v : Int32) (σ' : CS) (hf : mc_Runs_add σ z1 = some (v, σ')) : Met l ny_Runs_add nw_Runs_add rm_Runs_add (va_Pc [.ref (q 5), .int z1] (pr_ (dC, dI) (wd_C q cI cZ) [(cI, .int), (cZ, .boolean)] sz σ)) (qi_ (dC, dI) (wd_C q cI cZ) [(cI, .int), (cZ, .boolean)] (va_A (wd_C q cI cZ σ) sz) v σ') 0 0 (va_A (wd_C q cI cZ σ) sz) := by
  refine Met.ofW (cc := nb_Runs_add) (maxL := 5) (ret := (some .int)) (by decide) rfl ?_
  intro p e s m args below meth c s₁ B hml hv
  obtain ⟨rfl, hsz, hP, hK, hD0, hN⟩ := hv
  have hx := B.exec
  have hb := B.bytes
  have hr := B.returns
  have hts := atoms_spec (ws := nw_Runs_add) B.pre
  have hB : ∀ w ∈ BG, w.before ([.ref (q 5), .int z1] : List Value).toArray s = true := fun w h => hts w (List.mem_cons_of_mem _ h)
  have hown : s.vm.findClass "MovedFrames$Runs" = some m.cls := findClass_of_methodNamed B.named
  have hlocks := B.notSynchronized
  subst hsz
  have hD := hD0.self (sz := s.heap.size)
  generalize hAe : va_A (wd_C q cI cZ σ) s.heap.size = A at hD ⊢
  have hA : ∀ q : Nat, s.heap.size ≤ q → A q := fun q h => by rw [← hAe]; exact Or.inr h
  have hS : va_S A s.heap s.heap [] := va_S.rf
  have hl := lv_entry ([.ref (q 5), .int z1]) (n := 5) (Nat.le_of_ble_eq_true rfl)
  rw [lg_entry_eq]
  generalize (lg_sl ([.ref (q 5), .int z1]) ++ List.replicate (5 - (lg_sl ([.ref (q 5), .int z1])).length) Slot.unset).toArray = ls at hl ⊢
  have hl : lv_has ls 5 [(0, .ref (q 5)), (1, .int z1)] := hl
  have B50 : ∀ (x2 : Int32) (x3 : Int32) (σ : CS), mc_Runs_add_b50 x2 x3 σ = some (v, σ') → bk_ p l e rm_Runs_add s m ([.ref (q 5), .int z1] : List Value).toArray below meth c (MQ below (qi_ (dC, dI) (wd_C q cI cZ) [(cI, .int), (cZ, .boolean)] A v σ') ([.ref (q 5), .int z1] : List Value).toArray s 0 0 A) A (dC, dI) (wd_C q cI cZ) 5 50 [(0, .ref (q 5)), (2, .int x2), (3, .int x3)] [] σ := by
    intro x2 x3 σ hf ls H locs hl hP hD hS
    unfold mc_Runs_add_b50 at hf
    refine lv_aload_n hx hb nd_Runs_add_50 rfl (lv_at hl 0 rfl) ?_
    refine va_get (D := (dC, dI)) (ci := 2) (v := .ref (q 15)) (C := RX2) (T := TX2) (N := 4) hx hb hB inB2 hown hK hP 5 rfl rfl 2 (by decide) (hB _ lk_102) (fun _ h9 => h9) rfl nd_Runs_add_51 ?_
    refine lv_iload_n hx hb nd_Runs_add_54 rfl (lv_at hl 2 rfl) ?_
    refine lv_iload_n hx hb nd_Runs_add_55 rfl (lv_at hl 1 rfl) ?_
    obtain ⟨hg, hf⟩ := mi_gd_el hf
    refine va_iast hx hb hK hP hD hS 15 0 rfl rfl hg nd_Runs_add_56 (fun H locs hP hD hS => ?_)
    obtain ⟨σ3, e9, hf⟩ := mi_wr_ex hf
    have hP : va_P (dC, dI) vwCl (wd_C q cI cZ σ3) H := by rw [e9]; exact hP
    have hD : va_D A (wd_C q cI cZ σ3) := by rw [e9]; exact hD
    refine lv_iload_n hx hb nd_Runs_add_57 rfl (lv_at hl 2 rfl) ?_
    exact re_i hx hb hr hlocks ((mi_pr hf).1) ((mi_pr hf).2) hP hK hD hS nd_Runs_add_58
  have B26 : ∀ (k26 : Int32 → Int32 → Int32 → CS → Option (Int32 × CS)) (hk26 : ∀ (x2 : Int32) (x3 : Int32) (x4 : Int32) (σ : CS), k26 x2 x3 x4 σ = some (v, σ') → bk_ p l e rm_Runs_add s m ([.ref (q 5), .int z1] : List Value).toArray below meth c (MQ below (qi_ (dC, dI) (wd_C q cI cZ) [(cI, .int), (cZ, .boolean)] A v σ') ([.ref (q 5), .int z1] : List Value).toArray s 0 0 A) A (dC, dI) (wd_C q cI cZ) 5 26 [(0, .ref (q 5)), (2, .int x2), (3, .int x3), (4, .int x4)] [] σ) (x2 : Int32) (x3 : Int32) (x4 : Int32) (σ : CS), mc_Runs_add_b26 k26 x2 x3 x4 σ = some (v, σ') → bk_ p l e rm_Runs_add s m ([.ref (q 5), .int z1] : List Value).toArray below meth c (MQ below (qi_ (dC, dI) (wd_C q cI cZ) [(cI, .int), (cZ, .boolean)] A v σ') ([.ref (q 5), .int z1] : List Value).toArray s 0 0 A) A (dC, dI) (wd_C q cI cZ) 5 26 [(0, .ref (q 5)), (2, .int x2), (3, .int x3), (4, .int x4)] [] σ := by
    intro k26 hk26 x2 x3 x4 σ hf ls H locs hl hP hD hS
    unfold mc_Runs_add_b26 at hf
    refine lv_iload hx hb nd_Runs_add_26 (lv_at hl 3 rfl) ?_
    refine lv_iload_n hx hb nd_Runs_add_28 rfl (lv_at hl 2 rfl) ?_
    refine lv_iload_n hx hb nd_Runs_add_29 rfl (lv_at hl 1 rfl) ?_
    refine lv_iadd hx hb nd_Runs_add_30 ?_
    refine lv_icmp_ge (tgt := 50) hx hb nd_Runs_add_31 (by decide) (fun hc => ?_) (fun hc => ?_)
    · have hf := mi_if_t hc hf
      exact B50 x2 x3 σ hf _ _ _ (lv_sub hl [0, 1, 2] rfl) hP hD hS
    · have hf := mi_if_f hc hf
      refine lv_aload_n hx hb nd_Runs_add_34 rfl (lv_at hl 0 rfl) ?_
      refine va_get (D := (dC, dI)) (ci := 2) (v := .ref (q 1)) (C := RX2) (T := TX2) (N := 4) hx hb hB inB2 hown hK hP 5 rfl rfl 0 (by decide) (hB _ lk_100) (fun _ h9 => h9) rfl nd_Runs_add_35 ?_
      refine lv_iload hx hb nd_Runs_add_38 (lv_at hl 3 rfl) ?_
      refine lv_iconst (v := 5) hx hb nd_Runs_add_40 (by decide) ?_
      obtain ⟨σ4, hc, hf⟩ := mi_cv_el hf
      refine ca_v (va_runV (C := "MovedFrames$Frames") (As := [.int x4, .int (5 : Int32)]) (rest := []) ⟨hx, hb, hml, hown, hB⟩ (kw_Frames_giveTo l dC dI q cI cZ _ σ x4 (5 : Int32) σ4 hc) ⟨callB_of 2 hB (gi_ lk_326) rfl rfl rfl (hB _ lk_2) (hB _ lk_609) (by decide +kernel) ⟨Nat.le_of_ble_eq_true rfl, Nat.le_of_ble_eq_true rfl⟩, hB _ lk_324, hB _ lk_325⟩ ⟨bl_, va_recv (ci := 0) (q0 := 1) hK hP rfl rfl, pre_ hP hK hD hN⟩ rfl rfl hl.1 rfl (lv_room (Nat.le_of_ble_eq_true rfl)) nd_Runs_add_41 ⟨Nat.zero_le _, Nat.zero_le _⟩) hD hS hA (fun H locs hP hD hS => ?_)
      refine lv_iinc (k := 3) (v := x4 + (1 : Int32)) (lv' := [(4, .int (x4 + (1 : Int32))), (0, .ref (q 5)), (2, .int x2), (3, .int x3)]) hx hb nd_Runs_add_44 hl rfl (congrArg (fun z => x4 + z) (by decide : Int32.ofInt 1 = (1 : Int32))) (by decide) rfl (fun ls hl => ?_)
      refine lv_goto (tgt := 26) hx hb nd_Runs_add_47 (by decide) ?_
      exact hk26 x2 x3 (x4 + (1 : Int32)) σ4 hf _ _ _ (lv_sub hl [1, 2, 3, 0] rfl) hP hD hS
  have L26 : ∀ (n : Nat) (x2 : Int32) (x3 : Int32) (x4 : Int32) (σ : CS), mc_Runs_add_l26 n x2 x3 x4 σ = some (v, σ') → bk_ p l e rm_Runs_add s m ([.ref (q 5), .int z1] : List Value).toArray below meth c (MQ below (qi_ (dC, dI) (wd_C q cI cZ) [(cI, .int), (cZ, .boolean)] A v σ') ([.ref (q 5), .int z1] : List Value).toArray s 0 0 A) A (dC, dI) (wd_C q cI cZ) 5 26 [(0, .ref (q 5)), (2, .int x2), (3, .int x3), (4, .int x4)] [] σ := by
    intro n
    induction n with
    | zero =>
      intro x2 x3 x4 σ hf
      exact mi_no hf
    | succ n ih =>
      intro x2 x3 x4 σ hf
      exact B26 (mc_Runs_add_l26 n) ih x2 x3 x4 σ hf
  have hH : s.heap = s.heap := rfl
  unfold mc_Runs_add at hf
  refine lv_iconst (v := 1) hx hb nd_Runs_add_0 (by decide) ?_
  refine lv_iload_n hx hb nd_Runs_add_1 rfl (lv_at hl 1 rfl) ?_
  refine lv_ishl hx hb nd_Runs_add_2 ?_
  refine lv_istore_n (lv' := [(2, .int ((1 : Int32) <<< (z1 &&& 31))), (0, .ref (q 5)), (1, .int z1)]) hx hb nd_Runs_add_3 rfl hl (by decide) rfl (fun ls hl => ?_)
  refine lv_aload_n hx hb nd_Runs_add_4 rfl (lv_at hl 1 rfl) ?_
  refine lv_iload_n hx hb nd_Runs_add_5 rfl (lv_at hl 2 rfl) ?_
  obtain ⟨r1, hc, hf⟩ := mi_cp_el hf
  refine ca_i (va_runV (C := "MovedFrames$Runs") (As := [.int z1]) (rest := []) ⟨hx, hb, hml, hown, hB⟩ (kw_Runs_lowestAble l dC dI q cI cZ _ σ z1 r1 hc) ⟨callB_of 1 hB (gi_ lk_579) rfl rfl rfl (hB _ lk_6) (hB _ lk_576) (by decide +kernel) ⟨Nat.le_of_ble_eq_true rfl, Nat.le_of_ble_eq_true rfl⟩, hB _ lk_578, hB _ ls_21⟩ ⟨bl_, va_recv (ci := 2) (q0 := 5) hK hP rfl rfl, pre_ hP hK hD hN⟩ rfl rfl hl.1 rfl (lv_room (Nat.le_of_ble_eq_true rfl)) nd_Runs_add_6 ⟨Nat.zero_le _, Nat.zero_le _⟩) hD hS hA (fun H locs hP hD hS => ?_)
  refine lv_istore_n (lv' := [(3, .int r1), (2, .int ((1 : Int32) <<< (z1 &&& 31))), (0, .ref (q 5)), (1, .int z1)]) hx hb nd_Runs_add_9 rfl hl (by decide) rfl (fun ls hl => ?_)
  refine lv_iload_n hx hb nd_Runs_add_10 rfl (lv_at hl 0 rfl) ?_
  refine lv_iconst (v := (-1)) hx hb nd_Runs_add_11 (by decide) ?_
  refine lv_icmp_ne (tgt := 17) hx hb nd_Runs_add_12 (by decide) (fun hc => ?_) (fun hc => ?_)
  · have hf := mi_if_f hc hf
    refine lv_aload_n hx hb nd_Runs_add_17 rfl (lv_at hl 2 rfl) ?_
    refine lv_iload_n hx hb nd_Runs_add_18 rfl (lv_at hl 0 rfl) ?_
    refine lv_iload_n hx hb nd_Runs_add_19 rfl (lv_at hl 1 rfl) ?_
    obtain ⟨σ2, hc, hf⟩ := mi_cv_el hf
    refine ca_v (va_runV (C := "MovedFrames$Runs") (As := [.int r1, .int ((1 : Int32) <<< (z1 &&& 31))]) (rest := []) ⟨hx, hb, hml, hown, hB⟩ (kw_Runs_movePagesOut l dC dI q cI cZ _ σ r1 ((1 : Int32) <<< (z1 &&& 31)) σ2 hc) ⟨callB_of 2 hB (gi_ lk_593) rfl rfl rfl (hB _ lk_6) (hB _ lk_590) (by decide +kernel) ⟨Nat.le_of_ble_eq_true rfl, Nat.le_of_ble_eq_true rfl⟩, hB _ lk_592, hB _ ls_23⟩ ⟨bl_, va_recv (ci := 2) (q0 := 5) hK hP rfl rfl, pre_ hP hK hD hN⟩ rfl rfl hl.1 rfl (lv_room (Nat.le_of_ble_eq_true rfl)) nd_Runs_add_20 ⟨Nat.zero_le _, Nat.zero_le _⟩) hD hS hA (fun H locs hP hD hS => ?_)
    refine lv_iload_n hx hb nd_Runs_add_23 rfl (lv_at hl 0 rfl) ?_
    refine lv_istore (lv' := [(4, .int r1), (3, .int r1), (2, .int ((1 : Int32) <<< (z1 &&& 31))), (0, .ref (q 5)), (1, .int z1)]) hx hb nd_Runs_add_24 hl (by decide) rfl (fun ls hl => ?_)
    exact L26 FU ((1 : Int32) <<< (z1 &&& 31)) r1 r1 σ2 hf _ _ _ (lv_sub hl [3, 2, 1, 0] rfl) hP hD hS
  · have hf := mi_if_t hc hf
    refine lv_iconst (v := (-1)) hx hb nd_Runs_add_15 (by decide) ?_
    exact re_i hx hb hr hlocks ((mi_pr hf).1) ((mi_pr hf).2) hP hK hD hS nd_Runs_add_16
abbrev rm_F_contig : Room := { frames := 7, cells := 0, slots := 0, locals := 136 }
set_option maxHeartbeats 4000000 in
set_option maxRecDepth 100000 in
theorem kw_F_contig (l : Launch) (dC : Nat → ClassId) (dI : Nat → Nat → Nat) (q : Nat → Nat) (cI cZ : ClassId) (sz : Nat) (σ : CS) (z1 : Int32) (v : Int32) (σ' : CS) (hf : mc_contig σ z1 = some (v, 0, σ')) : Met l ny_F_contig nw_F_contig rm_F_contig (va_Pc [.ref (q 0), .int z1] (pr_ (dC, dI) (wd_C q cI cZ) [(cI, .int), (cZ, .boolean)] sz σ)) (qi_ (dC, dI) (wd_C q cI cZ) [(cI, .int), (cZ, .boolean)] (va_A (wd_C q cI cZ σ) sz) v σ') 0 0 (va_A (wd_C q cI cZ σ) sz) := by
  refine Met.ofW (cc := nb_F_contig) (maxL := 2) (ret := (some .int)) (by decide) rfl ?_
  intro p e s m args below meth c s₁ B hml hv
  obtain ⟨rfl, hsz, hP, hK, hD0, hN⟩ := hv
  have hx := B.exec
  have hb := B.bytes
  have hr := B.returns
  have hts := atoms_spec (ws := nw_F_contig) B.pre
  have hB : ∀ w ∈ BG, w.before ([.ref (q 0), .int z1] : List Value).toArray s = true := fun w h => hts w (List.mem_cons_of_mem _ h)
  have hown : s.vm.findClass "MovedFrames" = some m.cls := findClass_of_methodNamed B.named
  have hlocks := B.notSynchronized
  subst hsz
  have hD := hD0.self (sz := s.heap.size)
  generalize hAe : va_A (wd_C q cI cZ σ) s.heap.size = A at hD ⊢
  have hA : ∀ q : Nat, s.heap.size ≤ q → A q := fun q h => by rw [← hAe]; exact Or.inr h
  have hS : va_S A s.heap s.heap [] := va_S.rf
  have hl := lv_entry ([.ref (q 0), .int z1]) (n := 2) (Nat.le_of_ble_eq_true rfl)
  rw [lg_entry_eq]
  generalize (lg_sl ([.ref (q 0), .int z1]) ++ List.replicate (2 - (lg_sl ([.ref (q 0), .int z1])).length) Slot.unset).toArray = ls at hl ⊢
  have hl : lv_has ls 2 [(0, .ref (q 0)), (1, .int z1)] := hl
  have B9 : ∀ (σ : CS), mc_contig_b9 σ = some (v, 0, σ') → bk_ p l e rm_F_contig s m ([.ref (q 0), .int z1] : List Value).toArray below meth c (MQ below (qi_ (dC, dI) (wd_C q cI cZ) [(cI, .int), (cZ, .boolean)] A v σ') ([.ref (q 0), .int z1] : List Value).toArray s 0 0 A) A (dC, dI) (wd_C q cI cZ) 2 9 [] [] σ := by
    intro σ hf ls H locs hl hP hD hS
    unfold mc_contig_b9 at hf
    exact absurd (mi_t3 hf).2.1 (by decide)
  have hH : s.heap = s.heap := rfl
  unfold mc_contig at hf
  refine lv_iload_n hx hb nd_F_contig_0 rfl (lv_at hl 1 rfl) ?_
  refine lv_if_lt (tgt := 9) hx hb nd_F_contig_1 (by decide) (fun hc => ?_) (fun hc => ?_)
  · have hf := mi_if_t hc hf
    exact B9 σ hf _ _ _ (lv_sub hl [] rfl) hP hD hS
  · have hf := mi_if_f hc hf
    refine lv_iload_n hx hb nd_F_contig_4 rfl (lv_at hl 1 rfl) ?_
    refine lv_iconst (v := 5) hx hb nd_F_contig_5 (by decide) ?_
    refine lv_icmp_le (tgt := 19) hx hb nd_F_contig_6 (by decide) (fun hc => ?_) (fun hc => ?_)
    · have hf := mi_if_t hc hf
      refine lv_aload_n hx hb nd_F_contig_19 rfl (lv_at hl 0 rfl) ?_
      refine va_get (D := (dC, dI)) (ci := 5) (v := .ref (q 5)) (C := RX5) (T := TX5) (N := 5) hx hb hB inB5 hown hK hP 0 rfl rfl 4 (by decide) (hB _ lk_117) (fun _ h9 => h9) rfl nd_F_contig_20 ?_
      refine lv_iload_n hx hb nd_F_contig_23 rfl (lv_at hl 1 rfl) ?_
      obtain ⟨r2, σ1, hc, hf⟩ := mi_cw_el hf
      refine ca_i (va_runV (C := "MovedFrames$Runs") (As := [.int z1]) (rest := []) ⟨hx, hb, hml, hown, hB⟩ (kw_Runs_add l dC dI q cI cZ _ σ z1 r2 σ1 hc) ⟨callB_of 1 hB (gi_ lk_575) rfl rfl rfl (hB _ lk_6) (hB _ lk_572) (by decide +kernel) ⟨Nat.le_of_ble_eq_true rfl, Nat.le_of_ble_eq_true rfl⟩, hB _ lk_573, hB _ lk_574⟩ ⟨bl_, va_recv (ci := 2) (q0 := 5) hK hP rfl rfl, pre_ hP hK hD hN⟩ rfl rfl hl.1 rfl (lv_room (Nat.le_of_ble_eq_true rfl)) nd_F_contig_24 ⟨Nat.zero_le _, Nat.zero_le _⟩) hD hS hA (fun H locs hP hD hS => ?_)
      obtain ⟨r3, n9, hc, hq⟩ := mi_tq_el hf
      rcases hq with ⟨h9, hf⟩ | ⟨h9, hf⟩
      · subst h9
        refine ca_i (va_runS (As := [.int r2]) (rest := []) ⟨hx, hb, hml, hown, hB⟩ (kw_F_orNotEnough l dC dI q cI cZ _ σ1 r2 r3 hc) ⟨callB_of 1 hB (gi_ lk_341) rfl rfl rfl (hB _ lk_1) (hB _ lk_339) (by decide +kernel) ⟨Nat.le_of_ble_eq_true rfl, Nat.le_of_ble_eq_true rfl⟩, hB _ lk_340⟩ ⟨bl_, pre_ hP hK hD hN⟩ rfl rfl hl.1 rfl (lv_room (Nat.le_of_ble_eq_true rfl)) nd_F_contig_27 ⟨Nat.zero_le _, Nat.zero_le _⟩) hD hS hA (fun H locs hP hD hS => ?_)
        exact re_i hx hb hr hlocks ((mi_t3 hf).1) ((mi_t3 hf).2.2) hP hK hD hS nd_F_contig_30
      · exact absurd (congrArg (fun z => z.2.1) hf).symm h9
    · have hf := mi_if_f hc hf
      exact B9 σ hf _ _ _ (lv_sub hl [] rfl) hP hD hS
abbrev rt_F_contig : Room := { frames := 7, cells := 1, slots := 6, locals := 136 }
set_option maxHeartbeats 4000000 in
set_option maxRecDepth 100000 in
theorem kt_F_contig (l : Launch) (dC : Nat → ClassId) (dI : Nat → Nat → Nat) (q : Nat → Nat) (cI cZ : ClassId) (sz : Nat) (σ : CS) (z1 : Int32) (v : Int32) (n : Nat) (σ' : CS) (htr : l.stackTraces = false) (hn : ¬ n = 0) (hf : mc_contig σ z1 = some (v, n, σ')) : vx_Met l ny_F_contig nw_F_contig rt_F_contig (va_Pc [.ref (q 0), .int z1] (prx_ (dC, dI) (wd_C q cI cZ) [(cI, .int), (cZ, .boolean)] sz σ)) (fi_ (dC, dI) (wd_C q cI cZ) [(cI, .int), (cZ, .boolean)] (va_A (wd_C q cI cZ σ) sz)) (xx_ (dC, dI) (wd_C q cI cZ) [(cI, .int), (cZ, .boolean)] (va_A (wd_C q cI cZ σ) sz) n σ') 1 6 (va_A (wd_C q cI cZ σ) sz) := by
  refine vx_ofW (cc := nb_F_contig) (maxL := 2) (ret := (some .int)) (by decide) rfl ?_
  intro p e s m args below meth c s₁ B hml hno hv
  obtain ⟨rfl, ⟨hsz, hP, hK, hD0, hN⟩, hT, hZ⟩ := hv
  have hx := B.exec
  have hb := B.bytes
  have hr := B.returns
  have hts := atoms_spec (ws := nw_F_contig) B.pre
  have hB : ∀ w ∈ BG, w.before ([.ref (q 0), .int z1] : List Value).toArray s = true := fun w h => hts w (List.mem_cons_of_mem _ h)
  have hown : s.vm.findClass "MovedFrames" = some m.cls := findClass_of_methodNamed B.named
  have hlocks := B.notSynchronized
  subst hsz
  have hD := hD0.self (sz := s.heap.size)
  generalize hAe : va_A (wd_C q cI cZ σ) s.heap.size = A at hD hZ ⊢
  have hA : ∀ q : Nat, s.heap.size ≤ q → A q := fun q h => by rw [← hAe]; exact Or.inr h
  have hS : va_S A s.heap s.heap [] := va_S.rf
  have hl := lv_entry ([.ref (q 0), .int z1]) (n := 2) (Nat.le_of_ble_eq_true rfl)
  rw [lg_entry_eq]
  generalize (lg_sl ([.ref (q 0), .int z1]) ++ List.replicate (2 - (lg_sl ([.ref (q 0), .int z1])).length) Slot.unset).toArray = ls at hl ⊢
  have hl : lv_has ls 2 [(0, .ref (q 0)), (1, .int z1)] := hl
  have B9 : ∀ (σ : CS), mc_contig_b9 σ = some (v, n, σ') → bk_ p l e rt_F_contig s m ([.ref (q 0), .int z1] : List Value).toArray below meth c (vx_MQ below (fi_ (dC, dI) (wd_C q cI cZ) [(cI, .int), (cZ, .boolean)] A) (xx_ (dC, dI) (wd_C q cI cZ) [(cI, .int), (cZ, .boolean)] A n σ') ([.ref (q 0), .int z1] : List Value).toArray s 1 6 A) A (dC, dI) (wd_C q cI cZ) 2 9 [] [] σ := by
    intro σ hf ls H locs hl hP hD hS
    unfold mc_contig_b9 at hf
    have hm := mi_t3 hf
    exact th_ (text := "no such order of a run") hx hb htr hown (by decide) (by decide) (hB _ lk_224) (hB _ lk_11) hT.2.2.2.2.2.2.2.2.2.2 (sa_MovedFrames_52 hB hT) sg_MovedFrames_52 hZ hP hK hD hS (hl.1.trans hml.symm) nd_F_contig_9 nd_F_contig_12 nd_F_contig_13 nd_F_contig_15 nd_F_contig_18 hno (Nat.le_of_ble_eq_true rfl) (Nat.le_of_ble_eq_true rfl) (Nat.le_of_ble_eq_true rfl) (Nat.le_of_ble_eq_true rfl) hlocks hn (by rw [← hm.2.1]; rfl) hm.2.2
  have hH : s.heap = s.heap := rfl
  unfold mc_contig at hf
  refine lv_iload_n hx hb nd_F_contig_0 rfl (lv_at hl 1 rfl) ?_
  refine lv_if_lt (tgt := 9) hx hb nd_F_contig_1 (by decide) (fun hc => ?_) (fun hc => ?_)
  · have hf := mi_if_t hc hf
    exact B9 σ hf _ _ _ (lv_sub hl [] rfl) hP hD hS
  · have hf := mi_if_f hc hf
    refine lv_iload_n hx hb nd_F_contig_4 rfl (lv_at hl 1 rfl) ?_
    refine lv_iconst (v := 5) hx hb nd_F_contig_5 (by decide) ?_
    refine lv_icmp_le (tgt := 19) hx hb nd_F_contig_6 (by decide) (fun hc => ?_) (fun hc => ?_)
    · have hf := mi_if_t hc hf
      refine lv_aload_n hx hb nd_F_contig_19 rfl (lv_at hl 0 rfl) ?_
      refine va_get (D := (dC, dI)) (ci := 5) (v := .ref (q 5)) (C := RX5) (T := TX5) (N := 5) hx hb hB inB5 hown hK hP 0 rfl rfl 4 (by decide) (hB _ lk_117) (fun _ h9 => h9) rfl nd_F_contig_20 ?_
      refine lv_iload_n hx hb nd_F_contig_23 rfl (lv_at hl 1 rfl) ?_
      obtain ⟨r2, σ1, hc, hf⟩ := mi_cw_el hf
      refine ca_i (va_runV (C := "MovedFrames$Runs") (As := [.int z1]) (rest := []) ⟨hx, hb, hml, hown, hB⟩ (kw_Runs_add l dC dI q cI cZ _ σ z1 r2 σ1 hc) ⟨callB_of 1 hB (gi_ lk_575) rfl rfl rfl (hB _ lk_6) (hB _ lk_572) (by decide +kernel) ⟨Nat.le_of_ble_eq_true rfl, Nat.le_of_ble_eq_true rfl⟩, hB _ lk_573, hB _ lk_574⟩ ⟨bl_, va_recv (ci := 2) (q0 := 5) hK hP rfl rfl, pre_ hP hK hD hN⟩ rfl rfl hl.1 rfl (lv_room (Nat.le_of_ble_eq_true rfl)) nd_F_contig_24 ⟨Nat.zero_le _, Nat.zero_le _⟩) hD hS hA (fun H locs hP hD hS => ?_)
      obtain ⟨r3, n9, hc, hq⟩ := mi_tq_el hf
      rcases hq with ⟨h9, hf⟩ | ⟨h9, hf⟩
      · subst h9
        refine ca_i (va_runS (As := [.int r2]) (rest := []) ⟨hx, hb, hml, hown, hB⟩ (kw_F_orNotEnough l dC dI q cI cZ _ σ1 r2 r3 hc) ⟨callB_of 1 hB (gi_ lk_341) rfl rfl rfl (hB _ lk_1) (hB _ lk_339) (by decide +kernel) ⟨Nat.le_of_ble_eq_true rfl, Nat.le_of_ble_eq_true rfl⟩, hB _ lk_340⟩ ⟨bl_, pre_ hP hK hD hN⟩ rfl rfl hl.1 rfl (lv_room (Nat.le_of_ble_eq_true rfl)) nd_F_contig_27 ⟨Nat.zero_le _, Nat.zero_le _⟩) hD hS hA (fun H locs hP hD hS => ?_)
        exact absurd (mi_t3 hf).2.1.symm hn
      · obtain ⟨-, hm, hs9⟩ := mi_t3 (congrArg some hf)
        have hm := hm.symm
        subst hm
        have hs9 := hs9.symm
        subst hs9
        exact cx_i (vx_runS (As := [.int r2]) (rest := []) ⟨hx, hb, hml, hown, hB⟩ (kt_F_orNotEnough l dC dI q cI cZ _ σ1 r2 r3 n9 htr h9 hc) ⟨callB_of 1 hB (gi_ lk_341) rfl rfl rfl (hB _ lk_1) (hB _ lk_339) (by decide +kernel) ⟨Nat.le_of_ble_eq_true rfl, Nat.le_of_ble_eq_true rfl⟩, hB _ lk_340⟩ ⟨blx_, prex_ hP hK hD hN hT hZ hS hA⟩ rfl rfl hl.1 rfl (lv_room (Nat.le_of_ble_eq_true rfl)) nd_F_contig_27 ⟨Nat.le_of_ble_eq_true rfl, Nat.le_of_ble_eq_true rfl⟩) hno hlocks hK hD hS hA
    · have hf := mi_if_f hc hf
      exact B9 σ hf _ _ _ (lv_sub hl [] rfl) hP hD hS
abbrev rm_Runs_remove : Room := { frames := 2, cells := 0, slots := 0, locals := 41 }
set_option maxHeartbeats 4000000 in
set_option maxRecDepth 100000 in
theorem kw_Runs_remove (l : Launch) (dC : Nat → ClassId) (dI : Nat → Nat → Nat) (q : Nat → Nat) (cI cZ : ClassId) (sz : Nat) (σ : CS) (z1 : Int32) (v : Int32) (σ' : CS) (hf : mc_Runs_remove σ z1 = some (v, σ')) : Met l ny_Runs_remove nw_Runs_remove rm_Runs_remove (va_Pc [.ref (q 5), .int z1] (pr_ (dC, dI) (wd_C q cI cZ) [(cI, .int), (cZ, .boolean)] sz σ)) (qi_ (dC, dI) (wd_C q cI cZ) [(cI, .int), (cZ, .boolean)] (va_A (wd_C q cI cZ σ) sz) v σ') 0 0 (va_A (wd_C q cI cZ σ) sz) := by
  refine Met.ofW (cc := nb_Runs_remove) (maxL := 4) (ret := (some .int)) (by decide) rfl ?_
  intro p e s m args below meth c s₁ B hml hv
  obtain ⟨rfl, hsz, hP, hK, hD0, hN⟩ := hv
  have hx := B.exec
  have hb := B.bytes
  have hr := B.returns
  have hts := atoms_spec (ws := nw_Runs_remove) B.pre
  have hB : ∀ w ∈ BG, w.before ([.ref (q 5), .int z1] : List Value).toArray s = true := fun w h => hts w (List.mem_cons_of_mem _ h)
  have hown : s.vm.findClass "MovedFrames$Runs" = some m.cls := findClass_of_methodNamed B.named
  have hlocks := B.notSynchronized
  subst hsz
  have hD := hD0.self (sz := s.heap.size)
  generalize hAe : va_A (wd_C q cI cZ σ) s.heap.size = A at hD ⊢
  have hA : ∀ q : Nat, s.heap.size ≤ q → A q := fun q h => by rw [← hAe]; exact Or.inr h
  have hS : va_S A s.heap s.heap [] := va_S.rf
  have hl := lv_entry ([.ref (q 5), .int z1]) (n := 4) (Nat.le_of_ble_eq_true rfl)
  rw [lg_entry_eq]
  generalize (lg_sl ([.ref (q 5), .int z1]) ++ List.replicate (4 - (lg_sl ([.ref (q 5), .int z1])).length) Slot.unset).toArray = ls at hl ⊢
  have hl : lv_has ls 4 [(0, .ref (q 5)), (1, .int z1)] := hl
  have B48 : ∀ (x1 : Int32) (x2 : Int32) (σ : CS), mc_Runs_remove_b48 x1 x2 σ = some (v, σ') → bk_ p l e rm_Runs_remove s m ([.ref (q 5), .int z1] : List Value).toArray below meth c (MQ below (qi_ (dC, dI) (wd_C q cI cZ) [(cI, .int), (cZ, .boolean)] A v σ') ([.ref (q 5), .int z1] : List Value).toArray s 0 0 A) A (dC, dI) (wd_C q cI cZ) 4 48 [(0, .ref (q 5)), (1, .int x1), (2, .int x2)] [] σ := by
    intro x1 x2 σ hf ls H locs hl hP hD hS
    unfold mc_Runs_remove_b48 at hf
    refine lv_aload_n hx hb nd_Runs_remove_48 rfl (lv_at hl 0 rfl) ?_
    refine va_get (D := (dC, dI)) (ci := 2) (v := .ref (q 15)) (C := RX2) (T := TX2) (N := 4) hx hb hB inB2 hown hK hP 5 rfl rfl 2 (by decide) (hB _ lk_102) (fun _ h9 => h9) rfl nd_Runs_remove_49 ?_
    refine lv_iload_n hx hb nd_Runs_remove_52 rfl (lv_at hl 1 rfl) ?_
    refine lv_iconst (v := 0) hx hb nd_Runs_remove_53 (by decide) ?_
    obtain ⟨hg, hf⟩ := mi_gd_el hf
    refine va_iast hx hb hK hP hD hS 15 0 rfl rfl hg nd_Runs_remove_54 (fun H locs hP hD hS => ?_)
    obtain ⟨σ2, e9, hf⟩ := mi_wr_ex hf
    have hP : va_P (dC, dI) vwCl (wd_C q cI cZ σ2) H := by rw [e9]; exact hP
    have hD : va_D A (wd_C q cI cZ σ2) := by rw [e9]; exact hD
    refine lv_iload_n hx hb nd_Runs_remove_55 rfl (lv_at hl 2 rfl) ?_
    exact re_i hx hb hr hlocks ((mi_pr hf).1) ((mi_pr hf).2) hP hK hD hS nd_Runs_remove_56
  have B27 : ∀ (k27 : Int32 → Int32 → Int32 → CS → Option (Int32 × CS)) (hk27 : ∀ (x1 : Int32) (x2 : Int32) (x3 : Int32) (σ : CS), k27 x1 x2 x3 σ = some (v, σ') → bk_ p l e rm_Runs_remove s m ([.ref (q 5), .int z1] : List Value).toArray below meth c (MQ below (qi_ (dC, dI) (wd_C q cI cZ) [(cI, .int), (cZ, .boolean)] A v σ') ([.ref (q 5), .int z1] : List Value).toArray s 0 0 A) A (dC, dI) (wd_C q cI cZ) 4 27 [(0, .ref (q 5)), (1, .int x1), (2, .int x2), (3, .int x3)] [] σ) (x1 : Int32) (x2 : Int32) (x3 : Int32) (σ : CS), mc_Runs_remove_b27 k27 x1 x2 x3 σ = some (v, σ') → bk_ p l e rm_Runs_remove s m ([.ref (q 5), .int z1] : List Value).toArray below meth c (MQ below (qi_ (dC, dI) (wd_C q cI cZ) [(cI, .int), (cZ, .boolean)] A v σ') ([.ref (q 5), .int z1] : List Value).toArray s 0 0 A) A (dC, dI) (wd_C q cI cZ) 4 27 [(0, .ref (q 5)), (1, .int x1), (2, .int x2), (3, .int x3)] [] σ := by
    intro k27 hk27 x1 x2 x3 σ hf ls H locs hl hP hD hS
    unfold mc_Runs_remove_b27 at hf
    refine lv_iload_n hx hb nd_Runs_remove_27 rfl (lv_at hl 3 rfl) ?_
    refine lv_iload_n hx hb nd_Runs_remove_28 rfl (lv_at hl 1 rfl) ?_
    refine lv_iload_n hx hb nd_Runs_remove_29 rfl (lv_at hl 2 rfl) ?_
    refine lv_iadd hx hb nd_Runs_remove_30 ?_
    refine lv_icmp_ge (tgt := 48) hx hb nd_Runs_remove_31 (by decide) (fun hc => ?_) (fun hc => ?_)
    · have hf := mi_if_t hc hf
      exact B48 x1 x2 σ hf _ _ _ (lv_sub hl [0, 1, 2] rfl) hP hD hS
    · have hf := mi_if_f hc hf
      refine lv_aload_n hx hb nd_Runs_remove_34 rfl (lv_at hl 0 rfl) ?_
      refine va_get (D := (dC, dI)) (ci := 2) (v := .ref (q 1)) (C := RX2) (T := TX2) (N := 4) hx hb hB inB2 hown hK hP 5 rfl rfl 0 (by decide) (hB _ lk_100) (fun _ h9 => h9) rfl nd_Runs_remove_35 ?_
      refine lv_iload_n hx hb nd_Runs_remove_38 rfl (lv_at hl 3 rfl) ?_
      obtain ⟨σ3, hc, hf⟩ := mi_cv_el hf
      refine ca_v (va_runV (C := "MovedFrames$Frames") (As := [.int x3]) (rest := []) ⟨hx, hb, hml, hown, hB⟩ (kw_Frames_makeFree l dC dI q cI cZ _ σ x3 σ3 hc) ⟨callB_of 1 hB (gi_ lk_372) rfl rfl rfl (hB _ lk_2) (hB _ lk_622) (by decide +kernel) ⟨Nat.le_of_ble_eq_true rfl, Nat.le_of_ble_eq_true rfl⟩, hB _ lk_370, hB _ lk_371⟩ ⟨bl_, va_recv (ci := 0) (q0 := 1) hK hP rfl rfl, pre_ hP hK hD hN⟩ rfl rfl hl.1 rfl (lv_room (Nat.le_of_ble_eq_true rfl)) nd_Runs_remove_39 ⟨Nat.zero_le _, Nat.zero_le _⟩) hD hS hA (fun H locs hP hD hS => ?_)
      refine lv_iinc (k := 3) (v := x3 + (1 : Int32)) (lv' := [(3, .int (x3 + (1 : Int32))), (0, .ref (q 5)), (1, .int x1), (2, .int x2)]) hx hb nd_Runs_remove_42 hl rfl (congrArg (fun z => x3 + z) (by decide : Int32.ofInt 1 = (1 : Int32))) (by decide) rfl (fun ls hl => ?_)
      refine lv_goto (tgt := 27) hx hb nd_Runs_remove_45 (by decide) ?_
      exact hk27 x1 x2 (x3 + (1 : Int32)) σ3 hf _ _ _ (lv_sub hl [1, 2, 3, 0] rfl) hP hD hS
  have L27 : ∀ (n : Nat) (x1 : Int32) (x2 : Int32) (x3 : Int32) (σ : CS), mc_Runs_remove_l27 n x1 x2 x3 σ = some (v, σ') → bk_ p l e rm_Runs_remove s m ([.ref (q 5), .int z1] : List Value).toArray below meth c (MQ below (qi_ (dC, dI) (wd_C q cI cZ) [(cI, .int), (cZ, .boolean)] A v σ') ([.ref (q 5), .int z1] : List Value).toArray s 0 0 A) A (dC, dI) (wd_C q cI cZ) 4 27 [(0, .ref (q 5)), (1, .int x1), (2, .int x2), (3, .int x3)] [] σ := by
    intro n
    induction n with
    | zero =>
      intro x1 x2 x3 σ hf
      exact mi_no hf
    | succ n ih =>
      intro x1 x2 x3 σ hf
      exact B27 (mc_Runs_remove_l27 n) ih x1 x2 x3 σ hf
  have hH : s.heap = s.heap := rfl
  unfold mc_Runs_remove at hf
  refine lv_iload_n hx hb nd_Runs_remove_0 rfl (lv_at hl 1 rfl) ?_
  obtain ⟨r1, hc, hf⟩ := mi_cp_el hf
  refine ca_i (va_runSN (As := [.int z1]) (rest := []) ⟨hx, hb, hml, hown, hB⟩ (kw_F_isFrame l dC dI q cI cZ _ σ z1 r1 hc) ⟨va_cnB 1 hB (gi_ lk_139) rfl rfl rfl hN.2.2.2 (hB _ lk_1) (by decide +kernel) ⟨Nat.le_of_ble_eq_true rfl, Nat.le_of_ble_eq_true rfl⟩, hB _ lk_138, trivial⟩ ⟨bl_, pre_ hP hK hD hN⟩ rfl rfl hl.1 rfl (lv_room (Nat.le_of_ble_eq_true rfl)) nd_Runs_remove_1 ⟨Nat.zero_le _, Nat.zero_le _⟩) hD hS hA (fun H locs hP hD hS => ?_)
  refine lv_if_eq (tgt := 16) hx hb nd_Runs_remove_4 (by decide) (fun hc => ?_) (fun hc => ?_)
  · have hf := mi_if_t hc hf
    refine lv_iconst (v := (-1)) hx hb nd_Runs_remove_16 (by decide) ?_
    exact re_i hx hb hr hlocks ((mi_pr hf).1) ((mi_pr hf).2) hP hK hD hS nd_Runs_remove_17
  · have hf := mi_if_f hc hf
    refine lv_aload_n hx hb nd_Runs_remove_7 rfl (lv_at hl 0 rfl) ?_
    refine va_get (D := (dC, dI)) (ci := 2) (v := .ref (q 15)) (C := RX2) (T := TX2) (N := 4) hx hb hB inB2 hown hK hP 5 rfl rfl 2 (by decide) (hB _ lk_102) (fun _ h9 => h9) rfl nd_Runs_remove_8 ?_
    refine lv_iload_n hx hb nd_Runs_remove_11 rfl (lv_at hl 1 rfl) ?_
    obtain ⟨hg, hf⟩ := mi_gd_el hf
    refine va_iald hx hb hK hP 15 0 rfl rfl hg nd_Runs_remove_12 ?_
    refine lv_if_ne (tgt := 18) hx hb nd_Runs_remove_13 (by decide) (fun hc => ?_) (fun hc => ?_)
    · have hf := mi_if_f hc hf
      refine lv_aload_n hx hb nd_Runs_remove_18 rfl (lv_at hl 0 rfl) ?_
      refine va_get (D := (dC, dI)) (ci := 2) (v := .ref (q 15)) (C := RX2) (T := TX2) (N := 4) hx hb hB inB2 hown hK hP 5 rfl rfl 2 (by decide) (hB _ lk_102) (fun _ h9 => h9) rfl nd_Runs_remove_19 ?_
      refine lv_iload_n hx hb nd_Runs_remove_22 rfl (lv_at hl 1 rfl) ?_
      obtain ⟨hg, hf⟩ := mi_gd_el hf
      refine va_iald hx hb hK hP 15 0 rfl rfl hg nd_Runs_remove_23 ?_
      refine lv_istore_n (lv' := [(2, .int ((gc_rl σ) z1.toNatClampNeg)), (0, .ref (q 5)), (1, .int z1)]) hx hb nd_Runs_remove_24 rfl hl (by decide) rfl (fun ls hl => ?_)
      refine lv_iload_n hx hb nd_Runs_remove_25 rfl (lv_at hl 2 rfl) ?_
      refine lv_istore_n (lv' := [(3, .int z1), (2, .int ((gc_rl σ) z1.toNatClampNeg)), (0, .ref (q 5)), (1, .int z1)]) hx hb nd_Runs_remove_26 rfl hl (by decide) rfl (fun ls hl => ?_)
      exact L27 FU z1 ((gc_rl σ) z1.toNatClampNeg) z1 σ hf _ _ _ (lv_sub hl [2, 3, 1, 0] rfl) hP hD hS
    · have hf := mi_if_t hc hf
      refine lv_iconst (v := (-1)) hx hb nd_Runs_remove_16 (by decide) ?_
      exact re_i hx hb hr hlocks ((mi_pr hf).1) ((mi_pr hf).2) hP hK hD hS nd_Runs_remove_17
abbrev rm_F_release : Room := { frames := 7, cells := 0, slots := 0, locals := 110 }
set_option maxHeartbeats 4000000 in
set_option maxRecDepth 100000 in
theorem kw_F_release (l : Launch) (dC : Nat → ClassId) (dI : Nat → Nat → Nat) (q : Nat → Nat) (cI cZ : ClassId) (sz : Nat) (σ : CS) (z1 : Int32) (v : Int32) (σ' : CS) (hf : mc_release σ z1 = some (v, 0, σ')) : Met l ny_F_release nw_F_release rm_F_release (va_Pc [.ref (q 0), .int z1] (pr_ (dC, dI) (wd_C q cI cZ) [(cI, .int), (cZ, .boolean)] sz σ)) (qi_ (dC, dI) (wd_C q cI cZ) [(cI, .int), (cZ, .boolean)] (va_A (wd_C q cI cZ σ) sz) v σ') 0 0 (va_A (wd_C q cI cZ σ) sz) := by
  refine Met.ofW (cc := nb_F_release) (maxL := 2) (ret := (some .int)) (by decide) rfl ?_
  intro p e s m args below meth c s₁ B hml hv
  obtain ⟨rfl, hsz, hP, hK, hD0, hN⟩ := hv
  have hx := B.exec
  have hb := B.bytes
  have hr := B.returns
  have hts := atoms_spec (ws := nw_F_release) B.pre
  have hB : ∀ w ∈ BG, w.before ([.ref (q 0), .int z1] : List Value).toArray s = true := fun w h => hts w (List.mem_cons_of_mem _ h)
  have hown : s.vm.findClass "MovedFrames" = some m.cls := findClass_of_methodNamed B.named
  have hlocks := B.notSynchronized
  subst hsz
  have hD := hD0.self (sz := s.heap.size)
  generalize hAe : va_A (wd_C q cI cZ σ) s.heap.size = A at hD ⊢
  have hA : ∀ q : Nat, s.heap.size ≤ q → A q := fun q h => by rw [← hAe]; exact Or.inr h
  have hS : va_S A s.heap s.heap [] := va_S.rf
  have hl := lv_entry ([.ref (q 0), .int z1]) (n := 2) (Nat.le_of_ble_eq_true rfl)
  rw [lg_entry_eq]
  generalize (lg_sl ([.ref (q 0), .int z1]) ++ List.replicate (2 - (lg_sl ([.ref (q 0), .int z1])).length) Slot.unset).toArray = ls at hl ⊢
  have hl : lv_has ls 2 [(0, .ref (q 0)), (1, .int z1)] := hl
  have hH : s.heap = s.heap := rfl
  unfold mc_release at hf
  refine lv_aload_n hx hb nd_F_release_0 rfl (lv_at hl 0 rfl) ?_
  refine va_get (D := (dC, dI)) (ci := 5) (v := .ref (q 5)) (C := RX5) (T := TX5) (N := 5) hx hb hB inB5 hown hK hP 0 rfl rfl 4 (by decide) (hB _ lk_117) (fun _ h9 => h9) rfl nd_F_release_1 ?_
  refine lv_iload_n hx hb nd_F_release_4 rfl (lv_at hl 1 rfl) ?_
  obtain ⟨r2, σ1, hc, hf⟩ := mi_cw_el hf
  refine ca_i (va_runV (C := "MovedFrames$Runs") (As := [.int z1]) (rest := []) ⟨hx, hb, hml, hown, hB⟩ (kw_Runs_remove l dC dI q cI cZ _ σ z1 r2 σ1 hc) ⟨callB_of 1 hB (gi_ lk_620) rfl rfl rfl (hB _ lk_6) (hB _ lk_617) (by decide +kernel) ⟨Nat.le_of_ble_eq_true rfl, Nat.le_of_ble_eq_true rfl⟩, hB _ lk_618, hB _ lk_619⟩ ⟨bl_, va_recv (ci := 2) (q0 := 5) hK hP rfl rfl, pre_ hP hK hD hN⟩ rfl rfl hl.1 rfl (lv_room (Nat.le_of_ble_eq_true rfl)) nd_F_release_5 ⟨Nat.zero_le _, Nat.zero_le _⟩) hD hS hA (fun H locs hP hD hS => ?_)
  obtain ⟨r3, n9, hc, hq⟩ := mi_tq_el hf
  rcases hq with ⟨h9, hf⟩ | ⟨h9, hf⟩
  · subst h9
    refine ca_i (va_runS (As := [.int r2]) (rest := []) ⟨hx, hb, hml, hown, hB⟩ (kw_F_orNotAsTold l dC dI q cI cZ _ σ1 r2 r3 hc) ⟨callB_of 1 hB (gi_ lk_375) rfl rfl rfl (hB _ lk_1) (hB _ lk_373) (by decide +kernel) ⟨Nat.le_of_ble_eq_true rfl, Nat.le_of_ble_eq_true rfl⟩, hB _ lk_374⟩ ⟨bl_, pre_ hP hK hD hN⟩ rfl rfl hl.1 rfl (lv_room (Nat.le_of_ble_eq_true rfl)) nd_F_release_8 ⟨Nat.zero_le _, Nat.zero_le _⟩) hD hS hA (fun H locs hP hD hS => ?_)
    exact re_i hx hb hr hlocks ((mi_t3 hf).1) ((mi_t3 hf).2.2) hP hK hD hS nd_F_release_11
  · exact absurd (congrArg (fun z => z.2.1) hf).symm h9
abbrev rt_F_release : Room := { frames := 7, cells := 1, slots := 6, locals := 110 }
set_option maxHeartbeats 4000000 in
set_option maxRecDepth 100000 in
theorem kt_F_release (l : Launch) (dC : Nat → ClassId) (dI : Nat → Nat → Nat) (q : Nat → Nat) (cI cZ : ClassId) (sz : Nat) (σ : CS) (z1 : Int32) (v : Int32) (n : Nat) (σ' : CS) (htr : l.stackTraces = false) (hn : ¬ n = 0) (hf : mc_release σ z1 = some (v, n, σ')) : vx_Met l ny_F_release nw_F_release rt_F_release (va_Pc [.ref (q 0), .int z1] (prx_ (dC, dI) (wd_C q cI cZ) [(cI, .int), (cZ, .boolean)] sz σ)) (fi_ (dC, dI) (wd_C q cI cZ) [(cI, .int), (cZ, .boolean)] (va_A (wd_C q cI cZ σ) sz)) (xx_ (dC, dI) (wd_C q cI cZ) [(cI, .int), (cZ, .boolean)] (va_A (wd_C q cI cZ σ) sz) n σ') 1 6 (va_A (wd_C q cI cZ σ) sz) := by
  refine vx_ofW (cc := nb_F_release) (maxL := 2) (ret := (some .int)) (by decide) rfl ?_
  intro p e s m args below meth c s₁ B hml hno hv
  obtain ⟨rfl, ⟨hsz, hP, hK, hD0, hN⟩, hT, hZ⟩ := hv
  have hx := B.exec
  have hb := B.bytes
  have hr := B.returns
  have hts := atoms_spec (ws := nw_F_release) B.pre
  have hB : ∀ w ∈ BG, w.before ([.ref (q 0), .int z1] : List Value).toArray s = true := fun w h => hts w (List.mem_cons_of_mem _ h)
  have hown : s.vm.findClass "MovedFrames" = some m.cls := findClass_of_methodNamed B.named
  have hlocks := B.notSynchronized
  subst hsz
  have hD := hD0.self (sz := s.heap.size)
  generalize hAe : va_A (wd_C q cI cZ σ) s.heap.size = A at hD hZ ⊢
  have hA : ∀ q : Nat, s.heap.size ≤ q → A q := fun q h => by rw [← hAe]; exact Or.inr h
  have hS : va_S A s.heap s.heap [] := va_S.rf
  have hl := lv_entry ([.ref (q 0), .int z1]) (n := 2) (Nat.le_of_ble_eq_true rfl)
  rw [lg_entry_eq]
  generalize (lg_sl ([.ref (q 0), .int z1]) ++ List.replicate (2 - (lg_sl ([.ref (q 0), .int z1])).length) Slot.unset).toArray = ls at hl ⊢
  have hl : lv_has ls 2 [(0, .ref (q 0)), (1, .int z1)] := hl
  have hH : s.heap = s.heap := rfl
  unfold mc_release at hf
  refine lv_aload_n hx hb nd_F_release_0 rfl (lv_at hl 0 rfl) ?_
  refine va_get (D := (dC, dI)) (ci := 5) (v := .ref (q 5)) (C := RX5) (T := TX5) (N := 5) hx hb hB inB5 hown hK hP 0 rfl rfl 4 (by decide) (hB _ lk_117) (fun _ h9 => h9) rfl nd_F_release_1 ?_
  refine lv_iload_n hx hb nd_F_release_4 rfl (lv_at hl 1 rfl) ?_
  obtain ⟨r2, σ1, hc, hf⟩ := mi_cw_el hf
  refine ca_i (va_runV (C := "MovedFrames$Runs") (As := [.int z1]) (rest := []) ⟨hx, hb, hml, hown, hB⟩ (kw_Runs_remove l dC dI q cI cZ _ σ z1 r2 σ1 hc) ⟨callB_of 1 hB (gi_ lk_620) rfl rfl rfl (hB _ lk_6) (hB _ lk_617) (by decide +kernel) ⟨Nat.le_of_ble_eq_true rfl, Nat.le_of_ble_eq_true rfl⟩, hB _ lk_618, hB _ lk_619⟩ ⟨bl_, va_recv (ci := 2) (q0 := 5) hK hP rfl rfl, pre_ hP hK hD hN⟩ rfl rfl hl.1 rfl (lv_room (Nat.le_of_ble_eq_true rfl)) nd_F_release_5 ⟨Nat.zero_le _, Nat.zero_le _⟩) hD hS hA (fun H locs hP hD hS => ?_)
  obtain ⟨r3, n9, hc, hq⟩ := mi_tq_el hf
  rcases hq with ⟨h9, hf⟩ | ⟨h9, hf⟩
  · subst h9
    refine ca_i (va_runS (As := [.int r2]) (rest := []) ⟨hx, hb, hml, hown, hB⟩ (kw_F_orNotAsTold l dC dI q cI cZ _ σ1 r2 r3 hc) ⟨callB_of 1 hB (gi_ lk_375) rfl rfl rfl (hB _ lk_1) (hB _ lk_373) (by decide +kernel) ⟨Nat.le_of_ble_eq_true rfl, Nat.le_of_ble_eq_true rfl⟩, hB _ lk_374⟩ ⟨bl_, pre_ hP hK hD hN⟩ rfl rfl hl.1 rfl (lv_room (Nat.le_of_ble_eq_true rfl)) nd_F_release_8 ⟨Nat.zero_le _, Nat.zero_le _⟩) hD hS hA (fun H locs hP hD hS => ?_)
    exact absurd (mi_t3 hf).2.1.symm hn
  · obtain ⟨-, hm, hs9⟩ := mi_t3 (congrArg some hf)
    have hm := hm.symm
    subst hm
    have hs9 := hs9.symm
    subst hs9
    exact cx_i (vx_runS (As := [.int r2]) (rest := []) ⟨hx, hb, hml, hown, hB⟩ (kt_F_orNotAsTold l dC dI q cI cZ _ σ1 r2 r3 n9 htr h9 hc) ⟨callB_of 1 hB (gi_ lk_375) rfl rfl rfl (hB _ lk_1) (hB _ lk_373) (by decide +kernel) ⟨Nat.le_of_ble_eq_true rfl, Nat.le_of_ble_eq_true rfl⟩, hB _ lk_374⟩ ⟨blx_, prex_ hP hK hD hN hT hZ hS hA⟩ rfl rfl hl.1 rfl (lv_room (Nat.le_of_ble_eq_true rfl)) nd_F_release_8 ⟨Nat.le_of_ble_eq_true rfl, Nat.le_of_ble_eq_true rfl⟩) hno hlocks hK hD hS hA
abbrev rm_F_owner : Room := { frames := 2, cells := 0, slots := 0, locals := 41 }
set_option maxHeartbeats 4000000 in
set_option maxRecDepth 100000 in
theorem kw_F_owner (l : Launch) (dC : Nat → ClassId) (dI : Nat → Nat → Nat) (q : Nat → Nat) (cI cZ : ClassId) (sz : Nat) (σ : CS) (z1 : Int32) (v : Int32) (hf : mc_owner σ z1 = some v) : Met l ny_F_owner nw_F_owner rm_F_owner (va_Pc [.ref (q 0), .int z1] (pr_ (dC, dI) (wd_C q cI cZ) [(cI, .int), (cZ, .boolean)] sz σ)) (qi_ (dC, dI) (wd_C q cI cZ) [(cI, .int), (cZ, .boolean)] (va_A (wd_C q cI cZ σ) sz) v σ) 0 0 (va_A (wd_C q cI cZ σ) sz) := by
  refine Met.ofW (cc := nb_F_owner) (maxL := 2) (ret := (some .int)) (by decide) rfl ?_
  intro p e s m args below meth c s₁ B hml hv
  obtain ⟨rfl, hsz, hP, hK, hD0, hN⟩ := hv
  have hx := B.exec
  have hb := B.bytes
  have hr := B.returns
  have hts := atoms_spec (ws := nw_F_owner) B.pre
  have hB : ∀ w ∈ BG, w.before ([.ref (q 0), .int z1] : List Value).toArray s = true := fun w h => hts w (List.mem_cons_of_mem _ h)
  have hown : s.vm.findClass "MovedFrames" = some m.cls := findClass_of_methodNamed B.named
  have hlocks := B.notSynchronized
  subst hsz
  have hD := hD0.self (sz := s.heap.size)
  generalize hAe : va_A (wd_C q cI cZ σ) s.heap.size = A at hD ⊢
  have hA : ∀ q : Nat, s.heap.size ≤ q → A q := fun q h => by rw [← hAe]; exact Or.inr h
  have hS : va_S A s.heap s.heap [] := va_S.rf
  have hl := lv_entry ([.ref (q 0), .int z1]) (n := 2) (Nat.le_of_ble_eq_true rfl)
  rw [lg_entry_eq]
  generalize (lg_sl ([.ref (q 0), .int z1]) ++ List.replicate (2 - (lg_sl ([.ref (q 0), .int z1])).length) Slot.unset).toArray = ls at hl ⊢
  have hl : lv_has ls 2 [(0, .ref (q 0)), (1, .int z1)] := hl
  have hH : s.heap = s.heap := rfl
  unfold mc_owner at hf
  refine lv_aload_n hx hb nd_F_owner_0 rfl (lv_at hl 0 rfl) ?_
  refine va_get (D := (dC, dI)) (ci := 5) (v := .ref (q 1)) (C := RX5) (T := TX5) (N := 5) hx hb hB inB5 hown hK hP 0 rfl rfl 0 (by decide) (hB _ lk_113) (fun _ h9 => h9) rfl nd_F_owner_1 ?_
  refine lv_iload_n hx hb nd_F_owner_4 rfl (lv_at hl 1 rfl) ?_
  obtain ⟨r1, hc, hf⟩ := mi_cp_el hf
  refine ca_i (va_runV (C := "MovedFrames$Frames") (As := [.int z1]) (rest := []) ⟨hx, hb, hml, hown, hB⟩ (kw_Frames_ownerOf l dC dI q cI cZ _ σ z1 r1 hc) ⟨callB_of 1 hB (gi_ lk_136) rfl rfl rfl (hB _ lk_2) (hB _ lk_133) (by decide +kernel) ⟨Nat.le_of_ble_eq_true rfl, Nat.le_of_ble_eq_true rfl⟩, hB _ lk_134, hB _ lk_135⟩ ⟨bl_, va_recv (ci := 0) (q0 := 1) hK hP rfl rfl, pre_ hP hK hD hN⟩ rfl rfl hl.1 rfl (lv_room (Nat.le_of_ble_eq_true rfl)) nd_F_owner_5 ⟨Nat.zero_le _, Nat.zero_le _⟩) hD hS hA (fun H locs hP hD hS => ?_)
  exact re_i hx hb hr hlocks (mi_eq hf) (rfl) hP hK hD hS nd_F_owner_8
abbrev rm_F_frame : Room := { frames := 3, cells := 0, slots := 0, locals := 67 }
set_option maxHeartbeats 4000000 in
set_option maxRecDepth 100000 in
theorem kw_F_frame (l : Launch) (dC : Nat → ClassId) (dI : Nat → Nat → Nat) (q : Nat → Nat) (cI cZ : ClassId) (sz : Nat) (σ : CS) (z1 : Int32) (z2 : Int32) (v : Int32) (hf : mc_frame σ z1 z2 = some v) : Met l ny_F_frame nw_F_frame rm_F_frame (va_Pc [.ref (q 0), .int z1, .int z2] (pr_ (dC, dI) (wd_C q cI cZ) [(cI, .int), (cZ, .boolean)] sz σ)) (qi_ (dC, dI) (wd_C q cI cZ) [(cI, .int), (cZ, .boolean)] (va_A (wd_C q cI cZ σ) sz) v σ) 0 0 (va_A (wd_C q cI cZ σ) sz) := by
  refine Met.ofW (cc := nb_F_frame) (maxL := 3) (ret := (some .int)) (by decide) rfl ?_
  intro p e s m args below meth c s₁ B hml hv
  obtain ⟨rfl, hsz, hP, hK, hD0, hN⟩ := hv
  have hx := B.exec
  have hb := B.bytes
  have hr := B.returns
  have hts := atoms_spec (ws := nw_F_frame) B.pre
  have hB : ∀ w ∈ BG, w.before ([.ref (q 0), .int z1, .int z2] : List Value).toArray s = true := fun w h => hts w (List.mem_cons_of_mem _ h)
  have hown : s.vm.findClass "MovedFrames" = some m.cls := findClass_of_methodNamed B.named
  have hlocks := B.notSynchronized
  subst hsz
  have hD := hD0.self (sz := s.heap.size)
  generalize hAe : va_A (wd_C q cI cZ σ) s.heap.size = A at hD ⊢
  have hA : ∀ q : Nat, s.heap.size ≤ q → A q := fun q h => by rw [← hAe]; exact Or.inr h
  have hS : va_S A s.heap s.heap [] := va_S.rf
  have hl := lv_entry ([.ref (q 0), .int z1, .int z2]) (n := 3) (Nat.le_of_ble_eq_true rfl)
  rw [lg_entry_eq]
  generalize (lg_sl ([.ref (q 0), .int z1, .int z2]) ++ List.replicate (3 - (lg_sl ([.ref (q 0), .int z1, .int z2])).length) Slot.unset).toArray = ls at hl ⊢
  have hl : lv_has ls 3 [(0, .ref (q 0)), (1, .int z1), (2, .int z2)] := hl
  have hH : s.heap = s.heap := rfl
  unfold mc_frame at hf
  refine lv_iload_n hx hb nd_F_frame_0 rfl (lv_at hl 1 rfl) ?_
  refine lv_bipush (v := (-2)) hx hb nd_F_frame_1 (by decide) ?_
  refine lv_icmp_ne (tgt := 17) hx hb nd_F_frame_3 (by decide) (fun hc => ?_) (fun hc => ?_)
  · have hf := mi_if_f hc hf
    refine lv_aload_n hx hb nd_F_frame_17 rfl (lv_at hl 0 rfl) ?_
    refine va_get (D := (dC, dI)) (ci := 5) (v := .ref (q 4)) (C := RX5) (T := TX5) (N := 5) hx hb hB inB5 hown hK hP 0 rfl rfl 3 (by decide) (hB _ lk_116) (fun _ h9 => h9) rfl nd_F_frame_18 ?_
    refine lv_iload_n hx hb nd_F_frame_21 rfl (lv_at hl 1 rfl) ?_
    refine lv_iload_n hx hb nd_F_frame_22 rfl (lv_at hl 2 rfl) ?_
    obtain ⟨r1, hc, hf⟩ := mi_cp_el hf
    refine ca_i (va_runV (C := "MovedFrames$Spaces") (As := [.int z1, .int z2]) (rest := []) ⟨hx, hb, hml, hown, hB⟩ (kw_Spaces_frameOf l dC dI q cI cZ _ σ z1 z2 r1 hc) ⟨callB_of 2 hB (gi_ lk_151) rfl rfl rfl (hB _ lk_5) (hB _ lk_148) (by decide +kernel) ⟨Nat.le_of_ble_eq_true rfl, Nat.le_of_ble_eq_true rfl⟩, hB _ lk_149, hB _ lk_150⟩ ⟨bl_, va_recv (ci := 4) (q0 := 4) hK hP rfl rfl, pre_ hP hK hD hN⟩ rfl rfl hl.1 rfl (lv_room (Nat.le_of_ble_eq_true rfl)) nd_F_frame_23 ⟨Nat.zero_le _, Nat.zero_le _⟩) hD hS hA (fun H locs hP hD hS => ?_)
    exact re_i hx hb hr hlocks (mi_eq hf) (rfl) hP hK hD hS nd_F_frame_26
  · have hf := mi_if_t hc hf
    refine lv_aload_n hx hb nd_F_frame_6 rfl (lv_at hl 0 rfl) ?_
    refine va_get (D := (dC, dI)) (ci := 5) (v := .ref (q 3)) (C := RX5) (T := TX5) (N := 5) hx hb hB inB5 hown hK hP 0 rfl rfl 2 (by decide) (hB _ lk_115) (fun _ h9 => h9) rfl nd_F_frame_7 ?_
    refine lv_iload_n hx hb nd_F_frame_10 rfl (lv_at hl 2 rfl) ?_
    obtain ⟨r2, hc, hf⟩ := mi_cp_el hf
    refine ca_i (va_runV (C := "MovedFrames$Ranges") (As := [.int z2]) (rest := []) ⟨hx, hb, hml, hown, hB⟩ (kw_Ranges_frameOf l dC dI q cI cZ _ σ z2 r2 hc) ⟨callB_of 1 hB (gi_ lk_147) rfl rfl rfl (hB _ lk_4) (hB _ lk_144) (by decide +kernel) ⟨Nat.le_of_ble_eq_true rfl, Nat.le_of_ble_eq_true rfl⟩, hB _ lk_145, hB _ lk_146⟩ ⟨bl_, va_recv (ci := 1) (q0 := 3) hK hP rfl rfl, pre_ hP hK hD hN⟩ rfl rfl hl.1 rfl (lv_room (Nat.le_of_ble_eq_true rfl)) nd_F_frame_11 ⟨Nat.zero_le _, Nat.zero_le _⟩) hD hS hA (fun H locs hP hD hS => ?_)
    refine lv_goto (tgt := 26) hx hb nd_F_frame_14 (by decide) ?_
    exact re_i hx hb hr hlocks (mi_eq hf) (rfl) hP hK hD hS nd_F_frame_26
abbrev rm_F_word : Room := { frames := 1, cells := 0, slots := 0, locals := 21 }
set_option maxHeartbeats 4000000 in
set_option maxRecDepth 100000 in
theorem kw_F_word (l : Launch) (dC : Nat → ClassId) (dI : Nat → Nat → Nat) (q : Nat → Nat) (cI cZ : ClassId) (sz : Nat) (σ : CS) (z1 : Int32) (z2 : Int32) (v : Int32) (hf : mc_word σ z1 z2 = some v) : Met l ny_F_word nw_F_word rm_F_word (va_Pc [.ref (q 0), .int z1, .int z2] (pr_ (dC, dI) (wd_C q cI cZ) [(cI, .int), (cZ, .boolean)] sz σ)) (qi_ (dC, dI) (wd_C q cI cZ) [(cI, .int), (cZ, .boolean)] (va_A (wd_C q cI cZ σ) sz) v σ) 0 0 (va_A (wd_C q cI cZ σ) sz) := by
  refine Met.ofW (cc := nb_F_word) (maxL := 3) (ret := (some .int)) (by decide) rfl ?_
  intro p e s m args below meth c s₁ B hml hv
  obtain ⟨rfl, hsz, hP, hK, hD0, hN⟩ := hv
  have hx := B.exec
  have hb := B.bytes
  have hr := B.returns
  have hts := atoms_spec (ws := nw_F_word) B.pre
  have hB : ∀ w ∈ BG, w.before ([.ref (q 0), .int z1, .int z2] : List Value).toArray s = true := fun w h => hts w (List.mem_cons_of_mem _ h)
  have hown : s.vm.findClass "MovedFrames" = some m.cls := findClass_of_methodNamed B.named
  have hlocks := B.notSynchronized
  subst hsz
  have hD := hD0.self (sz := s.heap.size)
  generalize hAe : va_A (wd_C q cI cZ σ) s.heap.size = A at hD ⊢
  have hA : ∀ q : Nat, s.heap.size ≤ q → A q := fun q h => by rw [← hAe]; exact Or.inr h
  have hS : va_S A s.heap s.heap [] := va_S.rf
  have hl := lv_entry ([.ref (q 0), .int z1, .int z2]) (n := 3) (Nat.le_of_ble_eq_true rfl)
  rw [lg_entry_eq]
  generalize (lg_sl ([.ref (q 0), .int z1, .int z2]) ++ List.replicate (3 - (lg_sl ([.ref (q 0), .int z1, .int z2])).length) Slot.unset).toArray = ls at hl ⊢
  have hl : lv_has ls 3 [(0, .ref (q 0)), (1, .int z1), (2, .int z2)] := hl
  have hH : s.heap = s.heap := rfl
  unfold mc_word at hf
  refine lv_iload_n hx hb nd_F_word_0 rfl (lv_at hl 1 rfl) ?_
  obtain ⟨r1, hc, hf⟩ := mi_cp_el hf
  refine ca_i (va_runS (As := [.int z1]) (rest := []) ⟨hx, hb, hml, hown, hB⟩ (kw_F_isFrame l dC dI q cI cZ _ σ z1 r1 hc) ⟨callB_of 1 hB (gi_ lk_139) rfl rfl rfl (hB _ lk_1) (hB _ lk_175) (by decide +kernel) ⟨Nat.le_of_ble_eq_true rfl, Nat.le_of_ble_eq_true rfl⟩, hB _ lk_138⟩ ⟨bl_, pre_ hP hK hD hN⟩ rfl rfl hl.1 rfl (lv_room (Nat.le_of_ble_eq_true rfl)) nd_F_word_1 ⟨Nat.zero_le _, Nat.zero_le _⟩) hD hS hA (fun H locs hP hD hS => ?_)
  refine lv_if_eq (tgt := 33) hx hb nd_F_word_4 (by decide) (fun hc => ?_) (fun hc => ?_)
  · have hf := mi_if_t hc hf
    refine lv_iconst (v := 0) hx hb nd_F_word_33 (by decide) ?_
    exact re_i hx hb hr hlocks (mi_eq hf) (rfl) hP hK hD hS nd_F_word_34
  · have hf := mi_if_f hc hf
    refine lv_iload_n hx hb nd_F_word_7 rfl (lv_at hl 2 rfl) ?_
    refine lv_if_lt (tgt := 33) hx hb nd_F_word_8 (by decide) (fun hc => ?_) (fun hc => ?_)
    · have hf := mi_if_t hc hf
      refine lv_iconst (v := 0) hx hb nd_F_word_33 (by decide) ?_
      exact re_i hx hb hr hlocks (mi_eq hf) (rfl) hP hK hD hS nd_F_word_34
    · have hf := mi_if_f hc hf
      refine lv_iload_n hx hb nd_F_word_11 rfl (lv_at hl 2 rfl) ?_
      refine lv_bipush (v := 16) hx hb nd_F_word_12 (by decide) ?_
      refine lv_icmp_ge (tgt := 33) hx hb nd_F_word_14 (by decide) (fun hc => ?_) (fun hc => ?_)
      · have hf := mi_if_t hc hf
        refine lv_iconst (v := 0) hx hb nd_F_word_33 (by decide) ?_
        exact re_i hx hb hr hlocks (mi_eq hf) (rfl) hP hK hD hS nd_F_word_34
      · have hf := mi_if_f hc hf
        refine lv_aload_n hx hb nd_F_word_17 rfl (lv_at hl 0 rfl) ?_
        refine va_get (D := (dC, dI)) (ci := 5) (v := .ref (q 1)) (C := RX5) (T := TX5) (N := 5) hx hb hB inB5 hown hK hP 0 rfl rfl 0 (by decide) (hB _ lk_113) (fun _ h9 => h9) rfl nd_F_word_18 ?_
        refine lv_iload_n hx hb nd_F_word_21 rfl (lv_at hl 1 rfl) ?_
        refine lv_bipush (v := 16) hx hb nd_F_word_22 (by decide) ?_
        refine lv_imul hx hb nd_F_word_24 ?_
        refine lv_iload_n hx hb nd_F_word_25 rfl (lv_at hl 2 rfl) ?_
        refine lv_iadd hx hb nd_F_word_26 ?_
        obtain ⟨r2, hc, hf⟩ := mi_cp_el hf
        refine ca_i (va_runV (C := "MovedFrames$Frames") (As := [.int ((z1 * (16 : Int32)) + z2)]) (rest := []) ⟨hx, hb, hml, hown, hB⟩ (kw_Frames_read l dC dI q cI cZ _ σ ((z1 * (16 : Int32)) + z2) r2 hc) ⟨callB_of 1 hB (gi_ lk_170) rfl rfl rfl (hB _ lk_2) (hB _ lk_176) (by decide +kernel) ⟨Nat.le_of_ble_eq_true rfl, Nat.le_of_ble_eq_true rfl⟩, hB _ lk_168, hB _ lk_169⟩ ⟨bl_, va_recv (ci := 0) (q0 := 1) hK hP rfl rfl, pre_ hP hK hD hN⟩ rfl rfl hl.1 rfl (lv_room (Nat.le_of_ble_eq_true rfl)) nd_F_word_27 ⟨Nat.zero_le _, Nat.zero_le _⟩) hD hS hA (fun H locs hP hD hS => ?_)
        refine lv_goto (tgt := 34) hx hb nd_F_word_30 (by decide) ?_
        exact re_i hx hb hr hlocks (mi_eq hf) (rfl) hP hK hD hS nd_F_word_34
abbrev rm_Frames_countFreeBlocks : Room := { frames := 2, cells := 0, slots := 0, locals := 47 }
set_option maxHeartbeats 4000000 in
set_option maxRecDepth 100000 in
theorem kw_Frames_countFreeBlocks (l : Launch) (dC : Nat → ClassId) (dI : Nat → Nat → Nat) (q : Nat → Nat) (cI cZ : ClassId) (sz : Nat) (σ : CS) (z1 : Int32) (v : Int32) (hf : mc_Frames_countFreeBlocks σ z1 = some v) : Met l ny_Frames_countFreeBlocks nw_Frames_countFreeBlocks rm_Frames_countFreeBlocks (va_Pc [.ref (q 1), .int z1] (pr_ (dC, dI) (wd_C q cI cZ) [(cI, .int), (cZ, .boolean)] sz σ)) (qi_ (dC, dI) (wd_C q cI cZ) [(cI, .int), (cZ, .boolean)] (va_A (wd_C q cI cZ σ) sz) v σ) 0 0 (va_A (wd_C q cI cZ σ) sz) := by
  refine Met.ofW (cc := nb_Frames_countFreeBlocks) (maxL := 4) (ret := (some .int)) (by decide) rfl ?_
  intro p e s m args below meth c s₁ B hml hv
  obtain ⟨rfl, hsz, hP, hK, hD0, hN⟩ := hv
  have hx := B.exec
  have hb := B.bytes
  have hr := B.returns
  have hts := atoms_spec (ws := nw_Frames_countFreeBlocks) B.pre
  have hB : ∀ w ∈ BG, w.before ([.ref (q 1), .int z1] : List Value).toArray s = true := fun w h => hts w (List.mem_cons_of_mem _ h)
  have hown : s.vm.findClass "MovedFrames$Frames" = some m.cls := findClass_of_methodNamed B.named
  have hlocks := B.notSynchronized
  subst hsz
  have hD := hD0.self (sz := s.heap.size)
  generalize hAe : va_A (wd_C q cI cZ σ) s.heap.size = A at hD ⊢
  have hA : ∀ q : Nat, s.heap.size ≤ q → A q := fun q h => by rw [← hAe]; exact Or.inr h
  have hS : va_S A s.heap s.heap [] := va_S.rf
  have hl := lv_entry ([.ref (q 1), .int z1]) (n := 4) (Nat.le_of_ble_eq_true rfl)
  rw [lg_entry_eq]
  generalize (lg_sl ([.ref (q 1), .int z1]) ++ List.replicate (4 - (lg_sl ([.ref (q 1), .int z1])).length) Slot.unset).toArray = ls at hl ⊢
  have hl : lv_has ls 4 [(0, .ref (q 1)), (1, .int z1)] := hl
  have B4 : ∀ (k4 : Int32 → Int32 → Int32 → CS → Option (Int32)) (hk4 : ∀ (x1 : Int32) (x2 : Int32) (x3 : Int32), k4 x1 x2 x3 σ = some v → bk_ p l e rm_Frames_countFreeBlocks s m ([.ref (q 1), .int z1] : List Value).toArray below meth c (MQ below (qi_ (dC, dI) (wd_C q cI cZ) [(cI, .int), (cZ, .boolean)] A v σ) ([.ref (q 1), .int z1] : List Value).toArray s 0 0 A) A (dC, dI) (wd_C q cI cZ) 4 4 [(0, .ref (q 1)), (1, .int x1), (2, .int x2), (3, .int x3)] [] σ) (x1 : Int32) (x2 : Int32) (x3 : Int32), mc_Frames_countFreeBlocks_b4 k4 x1 x2 x3 σ = some v → bk_ p l e rm_Frames_countFreeBlocks s m ([.ref (q 1), .int z1] : List Value).toArray below meth c (MQ below (qi_ (dC, dI) (wd_C q cI cZ) [(cI, .int), (cZ, .boolean)] A v σ) ([.ref (q 1), .int z1] : List Value).toArray s 0 0 A) A (dC, dI) (wd_C q cI cZ) 4 4 [(0, .ref (q 1)), (1, .int x1), (2, .int x2), (3, .int x3)] [] σ := by
    intro k4 hk4 x1 x2 x3 hf ls H locs hl hP hD hS
    unfold mc_Frames_countFreeBlocks_b4 at hf
    refine lv_iload_n hx hb nd_Frames_countFreeBlocks_4 rfl (lv_at hl 3 rfl) ?_
    refine lv_bipush (v := 64) hx hb nd_Frames_countFreeBlocks_5 (by decide) ?_
    refine lv_iload_n hx hb nd_Frames_countFreeBlocks_7 rfl (lv_at hl 1 rfl) ?_
    refine lv_ishr hx hb nd_Frames_countFreeBlocks_8 ?_
    refine lv_icmp_ge (tgt := 32) hx hb nd_Frames_countFreeBlocks_9 (by decide) (fun hc => ?_) (fun hc => ?_)
    · have hf := mi_if_t hc hf
      refine lv_iload_n hx hb nd_Frames_countFreeBlocks_32 rfl (lv_at hl 2 rfl) ?_
      exact re_i hx hb hr hlocks (mi_eq hf) (rfl) hP hK hD hS nd_Frames_countFreeBlocks_33
    · have hf := mi_if_f hc hf
      refine lv_aload_n hx hb nd_Frames_countFreeBlocks_12 rfl (lv_at hl 0 rfl) ?_
      refine lv_iload_n hx hb nd_Frames_countFreeBlocks_13 rfl (lv_at hl 3 rfl) ?_
      refine lv_iload_n hx hb nd_Frames_countFreeBlocks_14 rfl (lv_at hl 1 rfl) ?_
      refine lv_ishl hx hb nd_Frames_countFreeBlocks_15 ?_
      refine lv_iload_n hx hb nd_Frames_countFreeBlocks_16 rfl (lv_at hl 1 rfl) ?_
      obtain ⟨r1, hc, hf⟩ := mi_cp_el hf
      refine ca_i (va_runV (C := "MovedFrames$Frames") (As := [.int (x3 <<< (x1 &&& 31)), .int x1]) (rest := []) ⟨hx, hb, hml, hown, hB⟩ (kw_Frames_isFreeBlock l dC dI q cI cZ _ σ (x3 <<< (x1 &&& 31)) x1 r1 hc) ⟨callB_of 2 hB (gi_ lk_188) rfl rfl rfl (hB _ lk_2) (hB _ lk_185) (by decide +kernel) ⟨Nat.le_of_ble_eq_true rfl, Nat.le_of_ble_eq_true rfl⟩, hB _ lk_187, hB _ ls_2⟩ ⟨bl_, va_recv (ci := 0) (q0 := 1) hK hP rfl rfl, pre_ hP hK hD hN⟩ rfl rfl hl.1 rfl (lv_room (Nat.le_of_ble_eq_true rfl)) nd_Frames_countFreeBlocks_17 ⟨Nat.zero_le _, Nat.zero_le _⟩) hD hS hA (fun H locs hP hD hS => ?_)
      refine lv_if_eq (tgt := 26) hx hb nd_Frames_countFreeBlocks_20 (by decide) (fun hc => ?_) (fun hc => ?_)
      · have hf := mi_if_t hc hf
        refine lv_iinc (k := 3) (v := x3 + (1 : Int32)) (lv' := [(3, .int (x3 + (1 : Int32))), (0, .ref (q 1)), (1, .int x1), (2, .int x2)]) hx hb nd_Frames_countFreeBlocks_26 hl rfl (congrArg (fun z => x3 + z) (by decide : Int32.ofInt 1 = (1 : Int32))) (by decide) rfl (fun ls hl => ?_)
        refine lv_goto (tgt := 4) hx hb nd_Frames_countFreeBlocks_29 (by decide) ?_
        exact hk4 x1 x2 (x3 + (1 : Int32)) hf _ _ _ (lv_sub hl [1, 2, 3, 0] rfl) hP hD hS
      · have hf := mi_if_f hc hf
        refine lv_iinc (k := 2) (v := x2 + (1 : Int32)) (lv' := [(2, .int (x2 + (1 : Int32))), (0, .ref (q 1)), (1, .int x1), (3, .int x3)]) hx hb nd_Frames_countFreeBlocks_23 hl rfl (congrArg (fun z => x2 + z) (by decide : Int32.ofInt 1 = (1 : Int32))) (by decide) rfl (fun ls hl => ?_)
        refine lv_iinc (k := 3) (v := x3 + (1 : Int32)) (lv' := [(3, .int (x3 + (1 : Int32))), (2, .int (x2 + (1 : Int32))), (0, .ref (q 1)), (1, .int x1)]) hx hb nd_Frames_countFreeBlocks_26 hl rfl (congrArg (fun z => x3 + z) (by decide : Int32.ofInt 1 = (1 : Int32))) (by decide) rfl (fun ls hl => ?_)
        refine lv_goto (tgt := 4) hx hb nd_Frames_countFreeBlocks_29 (by decide) ?_
        exact hk4 x1 (x2 + (1 : Int32)) (x3 + (1 : Int32)) hf _ _ _ (lv_sub hl [2, 3, 1, 0] rfl) hP hD hS
  have L4 : ∀ (n : Nat) (x1 : Int32) (x2 : Int32) (x3 : Int32), mc_Frames_countFreeBlocks_l4 n x1 x2 x3 σ = some v → bk_ p l e rm_Frames_countFreeBlocks s m ([.ref (q 1), .int z1] : List Value).toArray below meth c (MQ below (qi_ (dC, dI) (wd_C q cI cZ) [(cI, .int), (cZ, .boolean)] A v σ) ([.ref (q 1), .int z1] : List Value).toArray s 0 0 A) A (dC, dI) (wd_C q cI cZ) 4 4 [(0, .ref (q 1)), (1, .int x1), (2, .int x2), (3, .int x3)] [] σ := by
    intro n
    induction n with
    | zero =>
      intro x1 x2 x3 hf
      exact mi_no hf
    | succ n ih =>
      intro x1 x2 x3 hf
      exact B4 (mc_Frames_countFreeBlocks_l4 n) ih x1 x2 x3 hf
  have hH : s.heap = s.heap := rfl
  unfold mc_Frames_countFreeBlocks at hf
  refine lv_iconst (v := 0) hx hb nd_Frames_countFreeBlocks_0 (by decide) ?_
  refine lv_istore_n (lv' := [(2, .int (0 : Int32)), (0, .ref (q 1)), (1, .int z1)]) hx hb nd_Frames_countFreeBlocks_1 rfl hl (by decide) rfl (fun ls hl => ?_)
  refine lv_iconst (v := 0) hx hb nd_Frames_countFreeBlocks_2 (by decide) ?_
  refine lv_istore_n (lv' := [(3, .int (0 : Int32)), (2, .int (0 : Int32)), (0, .ref (q 1)), (1, .int z1)]) hx hb nd_Frames_countFreeBlocks_3 rfl hl (by decide) rfl (fun ls hl => ?_)
  exact L4 FU z1 (0 : Int32) (0 : Int32) hf _ _ _ (lv_sub hl [2, 3, 1, 0] rfl) hP hD hS
abbrev rm_F_blocks : Room := { frames := 3, cells := 0, slots := 0, locals := 70 }
set_option maxHeartbeats 4000000 in
set_option maxRecDepth 100000 in
theorem kw_F_blocks (l : Launch) (dC : Nat → ClassId) (dI : Nat → Nat → Nat) (q : Nat → Nat) (cI cZ : ClassId) (sz : Nat) (σ : CS) (z1 : Int32) (v : Int32) (hf : mc_blocks σ z1 = some v) : Met l ny_F_blocks nw_F_blocks rm_F_blocks (va_Pc [.ref (q 0), .int z1] (pr_ (dC, dI) (wd_C q cI cZ) [(cI, .int), (cZ, .boolean)] sz σ)) (qi_ (dC, dI) (wd_C q cI cZ) [(cI, .int), (cZ, .boolean)] (va_A (wd_C q cI cZ σ) sz) v σ) 0 0 (va_A (wd_C q cI cZ σ) sz) := by
  refine Met.ofW (cc := nb_F_blocks) (maxL := 2) (ret := (some .int)) (by decide) rfl ?_
  intro p e s m args below meth c s₁ B hml hv
  obtain ⟨rfl, hsz, hP, hK, hD0, hN⟩ := hv
  have hx := B.exec
  have hb := B.bytes
  have hr := B.returns
  have hts := atoms_spec (ws := nw_F_blocks) B.pre
  have hB : ∀ w ∈ BG, w.before ([.ref (q 0), .int z1] : List Value).toArray s = true := fun w h => hts w (List.mem_cons_of_mem _ h)
  have hown : s.vm.findClass "MovedFrames" = some m.cls := findClass_of_methodNamed B.named
  have hlocks := B.notSynchronized
  subst hsz
  have hD := hD0.self (sz := s.heap.size)
  generalize hAe : va_A (wd_C q cI cZ σ) s.heap.size = A at hD ⊢
  have hA : ∀ q : Nat, s.heap.size ≤ q → A q := fun q h => by rw [← hAe]; exact Or.inr h
  have hS : va_S A s.heap s.heap [] := va_S.rf
  have hl := lv_entry ([.ref (q 0), .int z1]) (n := 2) (Nat.le_of_ble_eq_true rfl)
  rw [lg_entry_eq]
  generalize (lg_sl ([.ref (q 0), .int z1]) ++ List.replicate (2 - (lg_sl ([.ref (q 0), .int z1])).length) Slot.unset).toArray = ls at hl ⊢
  have hl : lv_has ls 2 [(0, .ref (q 0)), (1, .int z1)] := hl
  have hH : s.heap = s.heap := rfl
  unfold mc_blocks at hf
  refine lv_iload_n hx hb nd_F_blocks_0 rfl (lv_at hl 1 rfl) ?_
  refine lv_if_lt (tgt := 10) hx hb nd_F_blocks_1 (by decide) (fun hc => ?_) (fun hc => ?_)
  · have hf := mi_if_t hc hf
    refine lv_iconst (v := 0) hx hb nd_F_blocks_10 (by decide) ?_
    refine lv_goto (tgt := 22) hx hb nd_F_blocks_11 (by decide) ?_
    exact re_i hx hb hr hlocks (mi_eq hf) (rfl) hP hK hD hS nd_F_blocks_22
  · have hf := mi_if_f hc hf
    refine lv_iload_n hx hb nd_F_blocks_4 rfl (lv_at hl 1 rfl) ?_
    refine lv_bipush (v := 6) hx hb nd_F_blocks_5 (by decide) ?_
    refine lv_icmp_le (tgt := 14) hx hb nd_F_blocks_7 (by decide) (fun hc => ?_) (fun hc => ?_)
    · have hf := mi_if_t hc hf
      refine lv_aload_n hx hb nd_F_blocks_14 rfl (lv_at hl 0 rfl) ?_
      refine va_get (D := (dC, dI)) (ci := 5) (v := .ref (q 1)) (C := RX5) (T := TX5) (N := 5) hx hb hB inB5 hown hK hP 0 rfl rfl 0 (by decide) (hB _ lk_113) (fun _ h9 => h9) rfl nd_F_blocks_15 ?_
      refine lv_iload_n hx hb nd_F_blocks_18 rfl (lv_at hl 1 rfl) ?_
      obtain ⟨r1, hc, hf⟩ := mi_cp_el hf
      refine ca_i (va_runV (C := "MovedFrames$Frames") (As := [.int z1]) (rest := []) ⟨hx, hb, hml, hown, hB⟩ (kw_Frames_countFreeBlocks l dC dI q cI cZ _ σ z1 r1 hc) ⟨callB_of 1 hB (gi_ lk_184) rfl rfl rfl (hB _ lk_2) (hB _ lk_181) (by decide +kernel) ⟨Nat.le_of_ble_eq_true rfl, Nat.le_of_ble_eq_true rfl⟩, hB _ lk_182, hB _ lk_183⟩ ⟨bl_, va_recv (ci := 0) (q0 := 1) hK hP rfl rfl, pre_ hP hK hD hN⟩ rfl rfl hl.1 rfl (lv_room (Nat.le_of_ble_eq_true rfl)) nd_F_blocks_19 ⟨Nat.zero_le _, Nat.zero_le _⟩) hD hS hA (fun H locs hP hD hS => ?_)
      exact re_i hx hb hr hlocks (mi_eq hf) (rfl) hP hK hD hS nd_F_blocks_22
    · have hf := mi_if_f hc hf
      refine lv_iconst (v := 0) hx hb nd_F_blocks_10 (by decide) ?_
      refine lv_goto (tgt := 22) hx hb nd_F_blocks_11 (by decide) ?_
      exact re_i hx hb hr hlocks (mi_eq hf) (rfl) hP hK hD hS nd_F_blocks_22
abbrev rm_F_free : Room := { frames := 2, cells := 0, slots := 0, locals := 41 }
set_option maxHeartbeats 4000000 in
set_option maxRecDepth 100000 in
theorem kw_F_free (l : Launch) (dC : Nat → ClassId) (dI : Nat → Nat → Nat) (q : Nat → Nat) (cI cZ : ClassId) (sz : Nat) (σ : CS) (v : Int32) (hf : mc_free σ = some v) : Met l ny_F_free nw_F_free rm_F_free (va_Pc [.ref (q 0)] (pr_ (dC, dI) (wd_C q cI cZ) [(cI, .int), (cZ, .boolean)] sz σ)) (qi_ (dC, dI) (wd_C q cI cZ) [(cI, .int), (cZ, .boolean)] (va_A (wd_C q cI cZ σ) sz) v σ) 0 0 (va_A (wd_C q cI cZ σ) sz) := by
  refine Met.ofW (cc := nb_F_free) (maxL := 1) (ret := (some .int)) (by decide) rfl ?_
  intro p e s m args below meth c s₁ B hml hv
  obtain ⟨rfl, hsz, hP, hK, hD0, hN⟩ := hv
  have hx := B.exec
  have hb := B.bytes
  have hr := B.returns
  have hts := atoms_spec (ws := nw_F_free) B.pre
  have hB : ∀ w ∈ BG, w.before ([.ref (q 0)] : List Value).toArray s = true := fun w h => hts w (List.mem_cons_of_mem _ h)
  have hown : s.vm.findClass "MovedFrames" = some m.cls := findClass_of_methodNamed B.named
  have hlocks := B.notSynchronized
  subst hsz
  have hD := hD0.self (sz := s.heap.size)
  generalize hAe : va_A (wd_C q cI cZ σ) s.heap.size = A at hD ⊢
  have hA : ∀ q : Nat, s.heap.size ≤ q → A q := fun q h => by rw [← hAe]; exact Or.inr h
  have hS : va_S A s.heap s.heap [] := va_S.rf
  have hl := lv_entry ([.ref (q 0)]) (n := 1) (Nat.le_of_ble_eq_true rfl)
  rw [lg_entry_eq]
  generalize (lg_sl ([.ref (q 0)]) ++ List.replicate (1 - (lg_sl ([.ref (q 0)])).length) Slot.unset).toArray = ls at hl ⊢
  have hl : lv_has ls 1 [(0, .ref (q 0))] := hl
  have hH : s.heap = s.heap := rfl
  unfold mc_free at hf
  refine lv_aload_n hx hb nd_F_free_0 rfl (lv_at hl 0 rfl) ?_
  refine va_get (D := (dC, dI)) (ci := 5) (v := .ref (q 1)) (C := RX5) (T := TX5) (N := 5) hx hb hB inB5 hown hK hP 0 rfl rfl 0 (by decide) (hB _ lk_113) (fun _ h9 => h9) rfl nd_F_free_1 ?_
  obtain ⟨r1, hc, hf⟩ := mi_cp_el hf
  refine ca_i (va_runV (C := "MovedFrames$Frames") (As := []) (rest := []) ⟨hx, hb, hml, hown, hB⟩ (kw_Frames_countFree l dC dI q cI cZ _ σ r1 hc) ⟨callB_of 0 hB (gi_ lk_200) rfl rfl rfl (hB _ lk_2) (hB _ lk_197) (by decide +kernel) ⟨Nat.le_of_ble_eq_true rfl, Nat.le_of_ble_eq_true rfl⟩, hB _ lk_198, hB _ lk_199⟩ ⟨bl_, va_recv (ci := 0) (q0 := 1) hK hP rfl rfl, pre_ hP hK hD hN⟩ rfl rfl hl.1 rfl (lv_room (Nat.le_of_ble_eq_true rfl)) nd_F_free_4 ⟨Nat.zero_le _, Nat.zero_le _⟩) hD hS hA (fun H locs hP hD hS => ?_)
  exact re_i hx hb hr hlocks (mi_eq hf) (rfl) hP hK hD hS nd_F_free_7
abbrev rm_Runs_movedSoFar : Room := { frames := 0, cells := 0, slots := 0, locals := 0 }
set_option maxHeartbeats 4000000 in
set_option maxRecDepth 100000 in
theorem kw_Runs_movedSoFar (l : Launch) (dC : Nat → ClassId) (dI : Nat → Nat → Nat) (q : Nat → Nat) (cI cZ : ClassId) (sz : Nat) (σ : CS) (v : Int32) (hf : mc_Runs_movedSoFar σ = some v) : Met l ny_Runs_movedSoFar nw_Runs_movedSoFar rm_Runs_movedSoFar (va_Pc [.ref (q 5)] (pr_ (dC, dI) (wd_C q cI cZ) [(cI, .int), (cZ, .boolean)] sz σ)) (qi_ (dC, dI) (wd_C q cI cZ) [(cI, .int), (cZ, .boolean)] (va_A (wd_C q cI cZ σ) sz) v σ) 0 0 (va_A (wd_C q cI cZ σ) sz) := by
  refine Met.ofW (cc := nb_Runs_movedSoFar) (maxL := 1) (ret := (some .int)) (by decide) rfl ?_
  intro p e s m args below meth c s₁ B hml hv
  obtain ⟨rfl, hsz, hP, hK, hD0, hN⟩ := hv
  have hx := B.exec
  have hb := B.bytes
  have hr := B.returns
  have hts := atoms_spec (ws := nw_Runs_movedSoFar) B.pre
  have hB : ∀ w ∈ BG, w.before ([.ref (q 5)] : List Value).toArray s = true := fun w h => hts w (List.mem_cons_of_mem _ h)
  have hown : s.vm.findClass "MovedFrames$Runs" = some m.cls := findClass_of_methodNamed B.named
  have hlocks := B.notSynchronized
  subst hsz
  have hD := hD0.self (sz := s.heap.size)
  generalize hAe : va_A (wd_C q cI cZ σ) s.heap.size = A at hD ⊢
  have hA : ∀ q : Nat, s.heap.size ≤ q → A q := fun q h => by rw [← hAe]; exact Or.inr h
  have hS : va_S A s.heap s.heap [] := va_S.rf
  have hl := lv_entry ([.ref (q 5)]) (n := 1) (Nat.le_of_ble_eq_true rfl)
  rw [lg_entry_eq]
  generalize (lg_sl ([.ref (q 5)]) ++ List.replicate (1 - (lg_sl ([.ref (q 5)])).length) Slot.unset).toArray = ls at hl ⊢
  have hl : lv_has ls 1 [(0, .ref (q 5))] := hl
  have hH : s.heap = s.heap := rfl
  unfold mc_Runs_movedSoFar at hf
  refine lv_aload_n hx hb nd_Runs_movedSoFar_0 rfl (lv_at hl 0 rfl) ?_
  refine va_get (D := (dC, dI)) (ci := 2) (v := .int (gc_mv σ)) (C := RX2) (T := TX2) (N := 4) hx hb hB inB2 hown hK hP 5 rfl rfl 3 (by decide) (hB _ lk_103) (fun _ h9 => h9) rfl nd_Runs_movedSoFar_1 ?_
  exact re_i hx hb hr hlocks (mi_eq hf) (rfl) hP hK hD hS nd_Runs_movedSoFar_4
abbrev rm_F_moved : Room := { frames := 1, cells := 0, slots := 0, locals := 20 }
set_option maxHeartbeats 4000000 in
set_option maxRecDepth 100000 in
theorem kw_F_moved (l : Launch) (dC : Nat → ClassId) (dI : Nat → Nat → Nat) (q : Nat → Nat) (cI cZ : ClassId) (sz : Nat) (σ : CS) (v : Int32) (hf : mc_moved σ = some v) : Met l ny_F_moved nw_F_moved rm_F_moved (va_Pc [.ref (q 0)] (pr_ (dC, dI) (wd_C q cI cZ) [(cI, .int), (cZ, .boolean)] sz σ)) (qi_ (dC, dI) (wd_C q cI cZ) [(cI, .int), (cZ, .boolean)] (va_A (wd_C q cI cZ σ) sz) v σ) 0 0 (va_A (wd_C q cI cZ σ) sz) := by
  refine Met.ofW (cc := nb_F_moved) (maxL := 1) (ret := (some .int)) (by decide) rfl ?_
  intro p e s m args below meth c s₁ B hml hv
  obtain ⟨rfl, hsz, hP, hK, hD0, hN⟩ := hv
  have hx := B.exec
  have hb := B.bytes
  have hr := B.returns
  have hts := atoms_spec (ws := nw_F_moved) B.pre
  have hB : ∀ w ∈ BG, w.before ([.ref (q 0)] : List Value).toArray s = true := fun w h => hts w (List.mem_cons_of_mem _ h)
  have hown : s.vm.findClass "MovedFrames" = some m.cls := findClass_of_methodNamed B.named
  have hlocks := B.notSynchronized
  subst hsz
  have hD := hD0.self (sz := s.heap.size)
  generalize hAe : va_A (wd_C q cI cZ σ) s.heap.size = A at hD ⊢
  have hA : ∀ q : Nat, s.heap.size ≤ q → A q := fun q h => by rw [← hAe]; exact Or.inr h
  have hS : va_S A s.heap s.heap [] := va_S.rf
  have hl := lv_entry ([.ref (q 0)]) (n := 1) (Nat.le_of_ble_eq_true rfl)
  rw [lg_entry_eq]
  generalize (lg_sl ([.ref (q 0)]) ++ List.replicate (1 - (lg_sl ([.ref (q 0)])).length) Slot.unset).toArray = ls at hl ⊢
  have hl : lv_has ls 1 [(0, .ref (q 0))] := hl
  have hH : s.heap = s.heap := rfl
  unfold mc_moved at hf
  refine lv_aload_n hx hb nd_F_moved_0 rfl (lv_at hl 0 rfl) ?_
  refine va_get (D := (dC, dI)) (ci := 5) (v := .ref (q 5)) (C := RX5) (T := TX5) (N := 5) hx hb hB inB5 hown hK hP 0 rfl rfl 4 (by decide) (hB _ lk_117) (fun _ h9 => h9) rfl nd_F_moved_1 ?_
  obtain ⟨r1, hc, hf⟩ := mi_cp_el hf
  refine ca_i (va_runV (C := "MovedFrames$Runs") (As := []) (rest := []) ⟨hx, hb, hml, hown, hB⟩ (kw_Runs_movedSoFar l dC dI q cI cZ _ σ r1 hc) ⟨callB_of 0 hB (gi_ lk_214) rfl rfl rfl (hB _ lk_6) (hB _ lk_211) (by decide +kernel) ⟨Nat.le_of_ble_eq_true rfl, Nat.le_of_ble_eq_true rfl⟩, hB _ lk_212, hB _ lk_213⟩ ⟨bl_, va_recv (ci := 2) (q0 := 5) hK hP rfl rfl, pre_ hP hK hD hN⟩ rfl rfl hl.1 rfl (lv_room (Nat.le_of_ble_eq_true rfl)) nd_F_moved_4 ⟨Nat.zero_le _, Nat.zero_le _⟩) hD hS hA (fun H locs hP hD hS => ?_)
  exact re_i hx hb hr hlocks (mi_eq hf) (rfl) hP hK hD hS nd_F_moved_7
