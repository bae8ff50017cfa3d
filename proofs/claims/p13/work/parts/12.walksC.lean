abbrev rm_F_destroy : Room := { frames := 7, cells := 0, slots := 0, locals := 112 }
set_option maxHeartbeats 4000000 in
set_option maxRecDepth 100000 in
theorem kw_F_destroy (l : Launch) (dC : Nat → ClassId) (dI : Nat → Nat → Nat) (q : Nat → Nat) (cI cZ : ClassId) (sz : Nat) (σ : CS) (z1 : Int32) (v : Int32) (σ' : CS) (hf : mc_destroy σ z1 = some (v, 0, σ')) : Met l ny_F_destroy nw_F_destroy rm_F_destroy (va_Pc [.ref (q 0), .int z1] (pr_ (dC, dI) (wd_C q cI cZ) [(cI, .int), (cZ, .boolean)] sz σ)) (qi_ (dC, dI) (wd_C q cI cZ) [(cI, .int), (cZ, .boolean)] (va_A (wd_C q cI cZ σ) sz) v σ') 0 0 (va_A (wd_C q cI cZ σ) sz) := by
  refine Met.ofW (cc := nb_F_destroy) (maxL := 2) (ret := (some .int)) (by decide) rfl ?_
  intro p e s m args below meth c s₁ B hml hv
  obtain ⟨rfl, hsz, hP, hK, hD0, hN⟩ := hv
  have hx := B.exec
  have hb := B.bytes
  have hr := B.returns
  have hts := atoms_spec (ws := nw_F_destroy) B.pre
  have hB : ∀ w ∈ BG, w.before ([.ref (q 0), .int z1] : List Value).toArray s = true := fun w h => hts w (List.mem_cons_of_mem _ h)
  have hown : s.vm.findClass "MovedFrames" = some m.cls := findClass_of_methodNamed B.named
  have hlocks := B.notSynchronized
  subst hsz
  have hD := hD0.self (sz := s.heap.size)
  generalize hAe : va_A (wd_C q cI cZ σ) s.heap.size = A at hD ⊢
  have hA : ∀ q : Nat, s.heap.size ≤ q → A q := fun q h => by rw [← hAe]; exact Or.inr h
  have hS : va_S A s.heap s.heap [] := va_S.rf
  have hl := lv_entry ([.ref (q 0), .int z1]) (n := 2) (Nat.le_of_ble_eq_true rfl)
  rw [lg_entry_eq]
  generalize (lg_sl ([.ref (q 0), .int z1]) ++ List.replicate (2 - (lg_sl ([.ref (q 0), .int z1])).length) Slot.unset).toArray = ls at hl ⊢
  have hl : lv_has ls 2 [(0, .ref (q 0)), (1, .int z1)] := hl
  have hH : s.heap = s.heap := rfl
  unfold mc_destroy at hf
  refine lv_aload_n hx hb nd_F_destroy_0 rfl (lv_at hl 0 rfl) ?_
  refine va_get (D := (dC, dI)) (ci := 5) (v := .ref (q 4)) (C := RX5) (T := TX5) (N := 5) hx hb hB inB5 hown hK hP 0 rfl rfl 3 (by decide) (hB _ lk_116) (fun _ h9 => h9) rfl nd_F_destroy_1 ?_
  refine lv_iload_n hx hb nd_F_destroy_4 rfl (lv_at hl 1 rfl) ?_
  obtain ⟨r2, σ1, hc, hf⟩ := mi_cw_el hf
  refine ca_i (va_runV (C := "MovedFrames$Spaces") (As := [.int z1]) (rest := []) ⟨hx, hb, hml, hown, hB⟩ (kw_Spaces_remove l dC dI q cI cZ _ σ z1 r2 σ1 hc) ⟨callB_of 1 hB (gi_ lk_429) rfl rfl rfl (hB _ lk_5) (hB _ lk_426) (by decide +kernel) ⟨Nat.le_of_ble_eq_true rfl, Nat.le_of_ble_eq_true rfl⟩, hB _ lk_427, hB _ lk_428⟩ ⟨bl_, va_recv (ci := 4) (q0 := 4) hK hP rfl rfl, pre_ hP hK hD hN⟩ rfl rfl hl.1 rfl (lv_room (Nat.le_of_ble_eq_true rfl)) nd_F_destroy_5 ⟨Nat.zero_le _, Nat.zero_le _⟩) hD hS hA (fun H locs hP hD hS => ?_)
  obtain ⟨r3, n9, hc, hq⟩ := mi_tq_el hf
  rcases hq with ⟨h9, hf⟩ | ⟨h9, hf⟩
  · subst h9
    refine ca_i (va_runS (As := [.int r2]) (rest := []) ⟨hx, hb, hml, hown, hB⟩ (kw_F_orNotAsTold l dC dI q cI cZ _ σ1 r2 r3 hc) ⟨callB_of 1 hB (gi_ lk_375) rfl rfl rfl (hB _ lk_1) (hB _ lk_373) (by decide +kernel) ⟨Nat.le_of_ble_eq_true rfl, Nat.le_of_ble_eq_true rfl⟩, hB _ lk_374⟩ ⟨bl_, pre_ hP hK hD hN⟩ rfl rfl hl.1 rfl (lv_room (Nat.le_of_ble_eq_true rfl)) nd_F_destroy_8 ⟨Nat.zero_le _, Nat.zero_le _⟩) hD hS hA (fun H locs hP hD hS => ?_)
    exact re_i hx hb hr hlocks ((mi_t3 hf).1) ((mi_t3 hf).2.2) hP hK hD hS nd_F_destroy_11
  · exact absurd (congrArg (fun z => z.2.1) hf).symm h9
abbrev rt_F_destroy : Room := { frames := 7, cells := 1, slots := 6, locals := 112 }
set_option maxHeartbeats 4000000 in
set_option maxRecDepth 100000 in
theorem kt_F_destroy (l : Launch) (dC : Nat → ClassId) (dI : Nat → Nat → Nat) (q : Nat → Nat) (cI cZ : ClassId) (sz : Nat) (σ : CS) (z1 : Int32) (v : Int32) (n : Nat) (σ' : CS) (htr : l.stackTraces = false) (hn : ¬ n = 0) (hf : mc_destroy σ z1 = some (v, n, σ')) : vx_Met l ny_F_destroy nw_F_destroy rt_F_destroy (va_Pc [.ref (q 0), .int z1] (prx_ (dC, dI) (wd_C q cI cZ) [(cI, .int), (cZ, .boolean)] sz σ)) (fi_ (dC, dI) (wd_C q cI cZ) [(cI, .int), (cZ, .boolean)] (va_A (wd_C q cI cZ σ) sz)) (xx_ (dC, dI) (wd_C q cI cZ) [(cI, .int), (cZ, .boolean)] (va_A (wd_C q cI cZ σ) sz) n σ') 1 6 (va_A (wd_C q cI cZ σ) sz) := by
  refine vx_ofW (cc := nb_F_destroy) (maxL := 2) (ret := (some .int)) (by decide) rfl ?_
  intro p e s m args below meth c s₁ B hml hno hv
  obtain ⟨rfl, ⟨hsz, hP, hK, hD0, hN⟩, hT, hZ⟩ := hv
  have hx := B.exec
  have hb := B.bytes
  have hr := B.returns
  have hts := atoms_spec (ws := nw_F_destroy) B.pre
  have hB : ∀ w ∈ BG, w.before ([.ref (q 0), .int z1] : List Value).toArray s = true := fun w h => hts w (List.mem_cons_of_mem _ h)
  have hown : s.vm.findClass "MovedFrames" = some m.cls := findClass_of_methodNamed B.named
  have hlocks := B.notSynchronized
  subst hsz
  have hD := hD0.self (sz := s.heap.size)
  generalize hAe : va_A (wd_C q cI cZ σ) s.heap.size = A at hD hZ ⊢
  have hA : ∀ q : Nat, s.heap.size ≤ q → A q := fun q h => by rw [← hAe]; exact Or.inr h
  have hS : va_S A s.heap s.heap [] := va_S.rf
  have hl := lv_entry ([.ref (q 0), .int z1]) (n := 2) (Nat.le_of_ble_eq_true rfl)
  rw [lg_entry_eq]
  generalize (lg_sl ([.ref (q 0), .int z1]) ++ List.replicate (2 - (lg_sl ([.ref (q 0), .int z1])).length) Slot.unset).toArray = ls at hl ⊢
  have hl : lv_has ls 2 [(0, .ref (q 0)), (1, .int z1)] := hl
  have hH : s.heap = s.heap := rfl
  unfold mc_destroy at hf
  refine lv_aload_n hx hb nd_F_destroy_0 rfl (lv_at hl 0 rfl) ?_
  refine va_get (D := (dC, dI)) (ci := 5) (v := .ref (q 4)) (C := RX5) (T := TX5) (N := 5) hx hb hB inB5 hown hK hP 0 rfl rfl 3 (by decide) (hB _ lk_116) (fun _ h9 => h9) rfl nd_F_destroy_1 ?_
  refine lv_iload_n hx hb nd_F_destroy_4 rfl (lv_at hl 1 rfl) ?_
  obtain ⟨r2, σ1, hc, hf⟩ := mi_cw_el hf
  refine ca_i (va_runV (C := "MovedFrames$Spaces") (As := [.int z1]) (rest := []) ⟨hx, hb, hml, hown, hB⟩ (kw_Spaces_remove l dC dI q cI cZ _ σ z1 r2 σ1 hc) ⟨callB_of 1 hB (gi_ lk_429) rfl rfl rfl (hB _ lk_5) (hB _ lk_426) (by decide +kernel) ⟨Nat.le_of_ble_eq_true rfl, Nat.le_of_ble_eq_true rfl⟩, hB _ lk_427, hB _ lk_428⟩ ⟨bl_, va_recv (ci := 4) (q0 := 4) hK hP rfl rfl, pre_ hP hK hD hN⟩ rfl rfl hl.1 rfl (lv_room (Nat.le_of_ble_eq_true rfl)) nd_F_destroy_5 ⟨Nat.zero_le _, Nat.zero_le _⟩) hD hS hA (fun H locs hP hD hS => ?_)
  obtain ⟨r3, n9, hc, hq⟩ := mi_tq_el hf
  rcases hq with ⟨h9, hf⟩ | ⟨h9, hf⟩
  · subst h9
    refine ca_i (va_runS (As := [.int r2]) (rest := []) ⟨hx, hb, hml, hown, hB⟩ (kw_F_orNotAsTold l dC dI q cI cZ _ σ1 r2 r3 hc) ⟨callB_of 1 hB (gi_ lk_375) rfl rfl rfl (hB _ lk_1) (hB _ lk_373) (by decide +kernel) ⟨Nat.le_of_ble_eq_true rfl, Nat.le_of_ble_eq_true rfl⟩, hB _ lk_374⟩ ⟨bl_, pre_ hP hK hD hN⟩ rfl rfl hl.1 rfl (lv_room (Nat.le_of_ble_eq_true rfl)) nd_F_destroy_8 ⟨Nat.zero_le _, Nat.zero_le _⟩) hD hS hA (fun H locs hP hD hS => ?_)
    exact absurd (mi_t3 hf).2.1.symm hn
  · obtain ⟨-, hm, hs9⟩ := mi_t3 (congrArg some hf)
    have hm := hm.symm
    subst hm
    have hs9 := hs9.symm
    subst hs9
    exact cx_i (vx_runS (As := [.int r2]) (rest := []) ⟨hx, hb, hml, hown, hB⟩ (kt_F_orNotAsTold l dC dI q cI cZ _ σ1 r2 r3 n9 htr h9 hc) ⟨callB_of 1 hB (gi_ lk_375) rfl rfl rfl (hB _ lk_1) (hB _ lk_373) (by decide +kernel) ⟨Nat.le_of_ble_eq_true rfl, Nat.le_of_ble_eq_true rfl⟩, hB _ lk_374⟩ ⟨blx_, prex_ hP hK hD hN hT hZ hS hA⟩ rfl rfl hl.1 rfl (lv_room (Nat.le_of_ble_eq_true rfl)) nd_F_destroy_8 ⟨Nat.le_of_ble_eq_true rfl, Nat.le_of_ble_eq_true rfl⟩) hno hlocks hK hD hS hA
abbrev rm_F_checkSpace : Room := { frames := 1, cells := 0, slots := 0, locals := 21 }
set_option maxHeartbeats 4000000 in
set_option maxRecDepth 100000 in
theorem kw_F_checkSpace (l : Launch) (dC : Nat → ClassId) (dI : Nat → Nat → Nat) (q : Nat → Nat) (cI cZ : ClassId) (sz : Nat) (σ : CS) (z1 : Int32) (v : Int32) (hf : mc_checkSpace σ z1 = some (v, 0)) : Met l ny_F_checkSpace nw_F_checkSpace rm_F_checkSpace (va_Pc [.ref (q 0), .int z1] (pr_ (dC, dI) (wd_C q cI cZ) [(cI, .int), (cZ, .boolean)] sz σ)) (qv_ (dC, dI) (wd_C q cI cZ) [(cI, .int), (cZ, .boolean)] (va_A (wd_C q cI cZ σ) sz) σ) 0 0 (va_A (wd_C q cI cZ σ) sz) := by
  refine Met.ofW (cc := nb_F_checkSpace) (maxL := 2) (ret := none) (by decide) rfl ?_
  intro p e s m args below meth c s₁ B hml hv
  obtain ⟨rfl, hsz, hP, hK, hD0, hN⟩ := hv
  have hx := B.exec
  have hb := B.bytes
  have hr := B.returns
  have hts := atoms_spec (ws := nw_F_checkSpace) B.pre
  have hB : ∀ w ∈ BG, w.before ([.ref (q 0), .int z1] : List Value).toArray s = true := fun w h => hts w (List.mem_cons_of_mem _ h)
  have hown : s.vm.findClass "MovedFrames" = some m.cls := findClass_of_methodNamed B.named
  have hlocks := B.notSynchronized
  subst hsz
  have hD := hD0.self (sz := s.heap.size)
  generalize hAe : va_A (wd_C q cI cZ σ) s.heap.size = A at hD ⊢
  have hA : ∀ q : Nat, s.heap.size ≤ q → A q := fun q h => by rw [← hAe]; exact Or.inr h
  have hS : va_S A s.heap s.heap [] := va_S.rf
  have hl := lv_entry ([.ref (q 0), .int z1]) (n := 2) (Nat.le_of_ble_eq_true rfl)
  rw [lg_entry_eq]
  generalize (lg_sl ([.ref (q 0), .int z1]) ++ List.replicate (2 - (lg_sl ([.ref (q 0), .int z1])).length) Slot.unset).toArray = ls at hl ⊢
  have hl : lv_has ls 2 [(0, .ref (q 0)), (1, .int z1)] := hl
  have hH : s.heap = s.heap := rfl
  unfold mc_checkSpace at hf
  refine lv_aload_n hx hb nd_F_checkSpace_0 rfl (lv_at hl 0 rfl) ?_
  refine va_get (D := (dC, dI)) (ci := 5) (v := .ref (q 4)) (C := RX5) (T := TX5) (N := 5) hx hb hB inB5 hown hK hP 0 rfl rfl 3 (by decide) (hB _ lk_116) (fun _ h9 => h9) rfl nd_F_checkSpace_1 ?_
  refine lv_iload_n hx hb nd_F_checkSpace_4 rfl (lv_at hl 1 rfl) ?_
  obtain ⟨r1, hc, hf⟩ := mi_cp_el hf
  refine ca_i (va_runV (C := "MovedFrames$Spaces") (As := [.int z1]) (rest := []) ⟨hx, hb, hml, hown, hB⟩ (kw_Spaces_isThere l dC dI q cI cZ _ σ z1 r1 hc) ⟨callB_of 1 hB (gi_ lk_159) rfl rfl rfl (hB _ lk_5) (hB _ lk_454) (by decide +kernel) ⟨Nat.le_of_ble_eq_true rfl, Nat.le_of_ble_eq_true rfl⟩, hB _ lk_157, hB _ lk_158⟩ ⟨bl_, va_recv (ci := 4) (q0 := 4) hK hP rfl rfl, pre_ hP hK hD hN⟩ rfl rfl hl.1 rfl (lv_room (Nat.le_of_ble_eq_true rfl)) nd_F_checkSpace_5 ⟨Nat.zero_le _, Nat.zero_le _⟩) hD hS hA (fun H locs hP hD hS => ?_)
  refine lv_if_ne (tgt := 21) hx hb nd_F_checkSpace_8 (by decide) (fun hc => ?_) (fun hc => ?_)
  · have hf := mi_if_f hc hf
    exact re_v hx hb hr hlocks (rfl) hP hK hD hS nd_F_checkSpace_21
  · have hf := mi_if_t hc hf
    exact absurd (mi_t2 hf).2 (by decide)
abbrev rt_F_checkSpace : Room := { frames := 6, cells := 1, slots := 6, locals := 90 }
set_option maxHeartbeats 4000000 in
set_option maxRecDepth 100000 in
theorem kt_F_checkSpace (l : Launch) (dC : Nat → ClassId) (dI : Nat → Nat → Nat) (q : Nat → Nat) (cI cZ : ClassId) (sz : Nat) (σ : CS) (z1 : Int32) (v : Int32) (n : Nat) (htr : l.stackTraces = false) (hn : ¬ n = 0) (hf : mc_checkSpace σ z1 = some (v, n)) : vx_Met l ny_F_checkSpace nw_F_checkSpace rt_F_checkSpace (va_Pc [.ref (q 0), .int z1] (prx_ (dC, dI) (wd_C q cI cZ) [(cI, .int), (cZ, .boolean)] sz σ)) (fv_ (dC, dI) (wd_C q cI cZ) [(cI, .int), (cZ, .boolean)] (va_A (wd_C q cI cZ σ) sz)) (xx_ (dC, dI) (wd_C q cI cZ) [(cI, .int), (cZ, .boolean)] (va_A (wd_C q cI cZ σ) sz) n σ) 1 6 (va_A (wd_C q cI cZ σ) sz) := by
  refine vx_ofW (cc := nb_F_checkSpace) (maxL := 2) (ret := none) (by decide) rfl ?_
  intro p e s m args below meth c s₁ B hml hno hv
  obtain ⟨rfl, ⟨hsz, hP, hK, hD0, hN⟩, hT, hZ⟩ := hv
  have hx := B.exec
  have hb := B.bytes
  have hr := B.returns
  have hts := atoms_spec (ws := nw_F_checkSpace) B.pre
  have hB : ∀ w ∈ BG, w.before ([.ref (q 0), .int z1] : List Value).toArray s = true := fun w h => hts w (List.mem_cons_of_mem _ h)
  have hown : s.vm.findClass "MovedFrames" = some m.cls := findClass_of_methodNamed B.named
  have hlocks := B.notSynchronized
  subst hsz
  have hD := hD0.self (sz := s.heap.size)
  generalize hAe : va_A (wd_C q cI cZ σ) s.heap.size = A at hD hZ ⊢
  have hA : ∀ q : Nat, s.heap.size ≤ q → A q := fun q h => by rw [← hAe]; exact Or.inr h
  have hS : va_S A s.heap s.heap [] := va_S.rf
  have hl := lv_entry ([.ref (q 0), .int z1]) (n := 2) (Nat.le_of_ble_eq_true rfl)
  rw [lg_entry_eq]
  generalize (lg_sl ([.ref (q 0), .int z1]) ++ List.replicate (2 - (lg_sl ([.ref (q 0), .int z1])).length) Slot.unset).toArray = ls at hl ⊢
  have hl : lv_has ls 2 [(0, .ref (q 0)), (1, .int z1)] := hl
  have hH : s.heap = s.heap := rfl
  unfold mc_checkSpace at hf
  refine lv_aload_n hx hb nd_F_checkSpace_0 rfl (lv_at hl 0 rfl) ?_
  refine va_get (D := (dC, dI)) (ci := 5) (v := .ref (q 4)) (C := RX5) (T := TX5) (N := 5) hx hb hB inB5 hown hK hP 0 rfl rfl 3 (by decide) (hB _ lk_116) (fun _ h9 => h9) rfl nd_F_checkSpace_1 ?_
  refine lv_iload_n hx hb nd_F_checkSpace_4 rfl (lv_at hl 1 rfl) ?_
  obtain ⟨r1, hc, hf⟩ := mi_cp_el hf
  refine ca_i (va_runV (C := "MovedFrames$Spaces") (As := [.int z1]) (rest := []) ⟨hx, hb, hml, hown, hB⟩ (kw_Spaces_isThere l dC dI q cI cZ _ σ z1 r1 hc) ⟨callB_of 1 hB (gi_ lk_159) rfl rfl rfl (hB _ lk_5) (hB _ lk_454) (by decide +kernel) ⟨Nat.le_of_ble_eq_true rfl, Nat.le_of_ble_eq_true rfl⟩, hB _ lk_157, hB _ lk_158⟩ ⟨bl_, va_recv (ci := 4) (q0 := 4) hK hP rfl rfl, pre_ hP hK hD hN⟩ rfl rfl hl.1 rfl (lv_room (Nat.le_of_ble_eq_true rfl)) nd_F_checkSpace_5 ⟨Nat.zero_le _, Nat.zero_le _⟩) hD hS hA (fun H locs hP hD hS => ?_)
  refine lv_if_ne (tgt := 21) hx hb nd_F_checkSpace_8 (by decide) (fun hc => ?_) (fun hc => ?_)
  · have hf := mi_if_f hc hf
    exact absurd (mi_t2 hf).2.symm hn
  · have hf := mi_if_t hc hf
    have hm := mi_t2 hf
    exact th_ (text := "the space is not there") hx hb htr hown (by decide) (by decide) (hB _ lk_224) (hB _ lk_11) hT.2.2.2.2.2.1 (sa_MovedFrames_52 hB hT) sg_MovedFrames_52 hZ hP hK hD hS (hl.1.trans hml.symm) nd_F_checkSpace_11 nd_F_checkSpace_14 nd_F_checkSpace_15 nd_F_checkSpace_17 nd_F_checkSpace_20 hno (Nat.le_of_ble_eq_true rfl) (Nat.le_of_ble_eq_true rfl) (Nat.le_of_ble_eq_true rfl) (Nat.le_of_ble_eq_true rfl) hlocks hn (by rw [← hm.2]; rfl) rfl
abbrev rm_F_checkPages : Room := { frames := 7, cells := 0, slots := 0, locals := 111 }
set_option maxHeartbeats 4000000 in
set_option maxRecDepth 100000 in
theorem kw_F_checkPages (l : Launch) (dC : Nat → ClassId) (dI : Nat → Nat → Nat) (q : Nat → Nat) (cI cZ : ClassId) (sz : Nat) (σ : CS) (z1 : Int32) (z2 : Int32) (z3 : Int32) (v : Int32) (hf : mc_checkPages σ z1 z2 z3 = some (v, 0)) : Met l ny_F_checkPages nw_F_checkPages rm_F_checkPages (va_Pc [.ref (q 0), .int z1, .int z2, .int z3] (pr_ (dC, dI) (wd_C q cI cZ) [(cI, .int), (cZ, .boolean)] sz σ)) (qv_ (dC, dI) (wd_C q cI cZ) [(cI, .int), (cZ, .boolean)] (va_A (wd_C q cI cZ σ) sz) σ) 0 0 (va_A (wd_C q cI cZ σ) sz) := by
  refine Met.ofW (cc := nb_F_checkPages) (maxL := 4) (ret := none) (by decide) rfl ?_
  intro p e s m args below meth c s₁ B hml hv
  obtain ⟨rfl, hsz, hP, hK, hD0, hN⟩ := hv
  have hx := B.exec
  have hb := B.bytes
  have hr := B.returns
  have hts := atoms_spec (ws := nw_F_checkPages) B.pre
  have hB : ∀ w ∈ BG, w.before ([.ref (q 0), .int z1, .int z2, .int z3] : List Value).toArray s = true := fun w h => hts w (List.mem_cons_of_mem _ h)
  have hown : s.vm.findClass "MovedFrames" = some m.cls := findClass_of_methodNamed B.named
  have hlocks := B.notSynchronized
  subst hsz
  have hD := hD0.self (sz := s.heap.size)
  generalize hAe : va_A (wd_C q cI cZ σ) s.heap.size = A at hD ⊢
  have hA : ∀ q : Nat, s.heap.size ≤ q → A q := fun q h => by rw [← hAe]; exact Or.inr h
  have hS : va_S A s.heap s.heap [] := va_S.rf
  have hl := lv_entry ([.ref (q 0), .int z1, .int z2, .int z3]) (n := 4) (Nat.le_of_ble_eq_true rfl)
  rw [lg_entry_eq]
  generalize (lg_sl ([.ref (q 0), .int z1, .int z2, .int z3]) ++ List.replicate (4 - (lg_sl ([.ref (q 0), .int z1, .int z2, .int z3])).length) Slot.unset).toArray = ls at hl ⊢
  have hl : lv_has ls 4 [(0, .ref (q 0)), (1, .int z1), (2, .int z2), (3, .int z3)] := hl
  have B16 : mc_checkPages_b16 σ = some (v, 0) → bk_ p l e rm_F_checkPages s m ([.ref (q 0), .int z1, .int z2, .int z3] : List Value).toArray below meth c (MQ below (qv_ (dC, dI) (wd_C q cI cZ) [(cI, .int), (cZ, .boolean)] A σ) ([.ref (q 0), .int z1, .int z2, .int z3] : List Value).toArray s 0 0 A) A (dC, dI) (wd_C q cI cZ) 4 16 [] [] σ := by
    intro hf ls H locs hl hP hD hS
    unfold mc_checkPages_b16 at hf
    exact absurd (mi_t2 hf).2 (by decide)
  have B39 : mc_checkPages_b39 σ = some (v, 0) → bk_ p l e rm_F_checkPages s m ([.ref (q 0), .int z1, .int z2, .int z3] : List Value).toArray below meth c (MQ below (qv_ (dC, dI) (wd_C q cI cZ) [(cI, .int), (cZ, .boolean)] A σ) ([.ref (q 0), .int z1, .int z2, .int z3] : List Value).toArray s 0 0 A) A (dC, dI) (wd_C q cI cZ) 4 39 [] [] σ := by
    intro hf ls H locs hl hP hD hS
    unfold mc_checkPages_b39 at hf
    exact absurd (mi_t2 hf).2 (by decide)
  have hH : s.heap = s.heap := rfl
  unfold mc_checkPages at hf
  refine lv_aload_n hx hb nd_F_checkPages_0 rfl (lv_at hl 0 rfl) ?_
  refine lv_iload_n hx hb nd_F_checkPages_1 rfl (lv_at hl 1 rfl) ?_
  obtain ⟨r1, n9, hc, hq⟩ := mi_tp_el hf
  rcases hq with ⟨h9, hf⟩ | ⟨h9, hf⟩
  · subst h9
    refine ca_v (va_runV (C := "MovedFrames") (As := [.int z1]) (rest := []) ⟨hx, hb, hml, hown, hB⟩ (kw_F_checkSpace l dC dI q cI cZ _ σ z1 r1 hc) ⟨callB_of 1 hB (gi_ lk_453) rfl rfl rfl (hB _ lk_1) (hB _ lk_450) (by decide +kernel) ⟨Nat.le_of_ble_eq_true rfl, Nat.le_of_ble_eq_true rfl⟩, hB _ lk_452, hB _ ls_14⟩ ⟨bl_, va_recv (ci := 5) (q0 := 0) hK hP rfl rfl, pre_ hP hK hD hN⟩ rfl rfl hl.1 rfl (lv_room (Nat.le_of_ble_eq_true rfl)) nd_F_checkPages_2 ⟨Nat.zero_le _, Nat.zero_le _⟩) hD hS hA (fun H locs hP hD hS => ?_)
    refine lv_iload_n hx hb nd_F_checkPages_5 rfl (lv_at hl 3 rfl) ?_
    refine lv_iconst (v := 1) hx hb nd_F_checkPages_6 (by decide) ?_
    refine lv_icmp_lt (tgt := 16) hx hb nd_F_checkPages_7 (by decide) (fun hc => ?_) (fun hc => ?_)
    · have hf := mi_if_t hc hf
      exact B16 hf _ _ _ (lv_sub hl [] rfl) hP hD hS
    · have hf := mi_if_f hc hf
      refine lv_iload_n hx hb nd_F_checkPages_10 rfl (lv_at hl 3 rfl) ?_
      refine lv_bipush (v := 64) hx hb nd_F_checkPages_11 (by decide) ?_
      refine lv_icmp_le (tgt := 26) hx hb nd_F_checkPages_13 (by decide) (fun hc => ?_) (fun hc => ?_)
      · have hf := mi_if_t hc hf
        refine lv_iload_n hx hb nd_F_checkPages_26 rfl (lv_at hl 2 rfl) ?_
        refine lv_if_lt (tgt := 39) hx hb nd_F_checkPages_27 (by decide) (fun hc => ?_) (fun hc => ?_)
        · have hf := mi_if_t hc hf
          exact B39 hf _ _ _ (lv_sub hl [] rfl) hP hD hS
        · have hf := mi_if_f hc hf
          refine lv_iload_n hx hb nd_F_checkPages_30 rfl (lv_at hl 2 rfl) ?_
          refine lv_sipush (v := 256) hx hb nd_F_checkPages_31 (by decide) ?_
          refine lv_iload_n hx hb nd_F_checkPages_34 rfl (lv_at hl 3 rfl) ?_
          refine lv_isub hx hb nd_F_checkPages_35 ?_
          refine lv_icmp_le (tgt := 49) hx hb nd_F_checkPages_36 (by decide) (fun hc => ?_) (fun hc => ?_)
          · have hf := mi_if_t hc hf
            exact re_v hx hb hr hlocks (rfl) hP hK hD hS nd_F_checkPages_49
          · have hf := mi_if_f hc hf
            exact B39 hf _ _ _ (lv_sub hl [] rfl) hP hD hS
      · have hf := mi_if_f hc hf
        exact B16 hf _ _ _ (lv_sub hl [] rfl) hP hD hS
  · exact absurd (congrArg (fun z => z.2) hf).symm h9
abbrev rt_F_checkPages : Room := { frames := 7, cells := 1, slots := 6, locals := 111 }
set_option maxHeartbeats 4000000 in
set_option maxRecDepth 100000 in
theorem kt_F_checkPages (l : Launch) (dC : Nat → ClassId) (dI : Nat → Nat → Nat) (q : Nat → Nat) (cI cZ : ClassId) (sz : Nat) (σ : CS) (z1 : Int32) (z2 : Int32) (z3 : Int32) (v : Int32) (n : Nat) (htr : l.stackTraces = false) (hn : ¬ n = 0) (hf : mc_checkPages σ z1 z2 z3 = some (v, n)) : vx_Met l ny_F_checkPages nw_F_checkPages rt_F_checkPages (va_Pc [.ref (q 0), .int z1, .int z2, .int z3] (prx_ (dC, dI) (wd_C q cI cZ) [(cI, .int), (cZ, .boolean)] sz σ)) (fv_ (dC, dI) (wd_C q cI cZ) [(cI, .int), (cZ, .boolean)] (va_A (wd_C q cI cZ σ) sz)) (xx_ (dC, dI) (wd_C q cI cZ) [(cI, .int), (cZ, .boolean)] (va_A (wd_C q cI cZ σ) sz) n σ) 1 6 (va_A (wd_C q cI cZ σ) sz) := by
  refine vx_ofW (cc := nb_F_checkPages) (maxL := 4) (ret := none) (by decide) rfl ?_
  intro p e s m args below meth c s₁ B hml hno hv
  obtain ⟨rfl, ⟨hsz, hP, hK, hD0, hN⟩, hT, hZ⟩ := hv
  have hx := B.exec
  have hb := B.bytes
  have hr := B.returns
  have hts := atoms_spec (ws := nw_F_checkPages) B.pre
  have hB : ∀ w ∈ BG, w.before ([.ref (q 0), .int z1, .int z2, .int z3] : List Value).toArray s = true := fun w h => hts w (List.mem_cons_of_mem _ h)
  have hown : s.vm.findClass "MovedFrames" = some m.cls := findClass_of_methodNamed B.named
  have hlocks := B.notSynchronized
  subst hsz
  have hD := hD0.self (sz := s.heap.size)
  generalize hAe : va_A (wd_C q cI cZ σ) s.heap.size = A at hD hZ ⊢
  have hA : ∀ q : Nat, s.heap.size ≤ q → A q := fun q h => by rw [← hAe]; exact Or.inr h
  have hS : va_S A s.heap s.heap [] := va_S.rf
  have hl := lv_entry ([.ref (q 0), .int z1, .int z2, .int z3]) (n := 4) (Nat.le_of_ble_eq_true rfl)
  rw [lg_entry_eq]
  generalize (lg_sl ([.ref (q 0), .int z1, .int z2, .int z3]) ++ List.replicate (4 - (lg_sl ([.ref (q 0), .int z1, .int z2, .int z3])).length) Slot.unset).toArray = ls at hl ⊢
  have hl : lv_has ls 4 [(0, .ref (q 0)), (1, .int z1), (2, .int z2), (3, .int z3)] := hl
  have B16 : mc_checkPages_b16 σ = some (v, n) → bk_ p l e rt_F_checkPages s m ([.ref (q 0), .int z1, .int z2, .int z3] : List Value).toArray below meth c (vx_MQ below (fv_ (dC, dI) (wd_C q cI cZ) [(cI, .int), (cZ, .boolean)] A) (xx_ (dC, dI) (wd_C q cI cZ) [(cI, .int), (cZ, .boolean)] A n σ) ([.ref (q 0), .int z1, .int z2, .int z3] : List Value).toArray s 1 6 A) A (dC, dI) (wd_C q cI cZ) 4 16 [] [] σ := by
    intro hf ls H locs hl hP hD hS
    unfold mc_checkPages_b16 at hf
    have hm := mi_t2 hf
    exact th_ (text := "no such number of pages") hx hb htr hown (by decide) (by decide) (hB _ lk_224) (hB _ lk_11) hT.2.2.2.2.1 (sa_MovedFrames_52 hB hT) sg_MovedFrames_52 hZ hP hK hD hS (hl.1.trans hml.symm) nd_F_checkPages_16 nd_F_checkPages_19 nd_F_checkPages_20 nd_F_checkPages_22 nd_F_checkPages_25 hno (Nat.le_of_ble_eq_true rfl) (Nat.le_of_ble_eq_true rfl) (Nat.le_of_ble_eq_true rfl) (Nat.le_of_ble_eq_true rfl) hlocks hn (by rw [← hm.2]; rfl) rfl
  have B39 : mc_checkPages_b39 σ = some (v, n) → bk_ p l e rt_F_checkPages s m ([.ref (q 0), .int z1, .int z2, .int z3] : List Value).toArray below meth c (vx_MQ below (fv_ (dC, dI) (wd_C q cI cZ) [(cI, .int), (cZ, .boolean)] A) (xx_ (dC, dI) (wd_C q cI cZ) [(cI, .int), (cZ, .boolean)] A n σ) ([.ref (q 0), .int z1, .int z2, .int z3] : List Value).toArray s 1 6 A) A (dC, dI) (wd_C q cI cZ) 4 39 [] [] σ := by
    intro hf ls H locs hl hP hD hS
    unfold mc_checkPages_b39 at hf
    have hm := mi_t2 hf
    exact th_ (text := "one of them is no page") hx hb htr hown (by decide) (by decide) (hB _ lk_224) (hB _ lk_11) hT.2.2.2.2.2.2.1 (sa_MovedFrames_52 hB hT) sg_MovedFrames_52 hZ hP hK hD hS (hl.1.trans hml.symm) nd_F_checkPages_39 nd_F_checkPages_42 nd_F_checkPages_43 nd_F_checkPages_45 nd_F_checkPages_48 hno (Nat.le_of_ble_eq_true rfl) (Nat.le_of_ble_eq_true rfl) (Nat.le_of_ble_eq_true rfl) (Nat.le_of_ble_eq_true rfl) hlocks hn (by rw [← hm.2]; rfl) rfl
  have hH : s.heap = s.heap := rfl
  unfold mc_checkPages at hf
  refine lv_aload_n hx hb nd_F_checkPages_0 rfl (lv_at hl 0 rfl) ?_
  refine lv_iload_n hx hb nd_F_checkPages_1 rfl (lv_at hl 1 rfl) ?_
  obtain ⟨r1, n9, hc, hq⟩ := mi_tp_el hf
  rcases hq with ⟨h9, hf⟩ | ⟨h9, hf⟩
  · subst h9
    refine ca_v (va_runV (C := "MovedFrames") (As := [.int z1]) (rest := []) ⟨hx, hb, hml, hown, hB⟩ (kw_F_checkSpace l dC dI q cI cZ _ σ z1 r1 hc) ⟨callB_of 1 hB (gi_ lk_453) rfl rfl rfl (hB _ lk_1) (hB _ lk_450) (by decide +kernel) ⟨Nat.le_of_ble_eq_true rfl, Nat.le_of_ble_eq_true rfl⟩, hB _ lk_452, hB _ ls_14⟩ ⟨bl_, va_recv (ci := 5) (q0 := 0) hK hP rfl rfl, pre_ hP hK hD hN⟩ rfl rfl hl.1 rfl (lv_room (Nat.le_of_ble_eq_true rfl)) nd_F_checkPages_2 ⟨Nat.zero_le _, Nat.zero_le _⟩) hD hS hA (fun H locs hP hD hS => ?_)
    refine lv_iload_n hx hb nd_F_checkPages_5 rfl (lv_at hl 3 rfl) ?_
    refine lv_iconst (v := 1) hx hb nd_F_checkPages_6 (by decide) ?_
    refine lv_icmp_lt (tgt := 16) hx hb nd_F_checkPages_7 (by decide) (fun hc => ?_) (fun hc => ?_)
    · have hf := mi_if_t hc hf
      exact B16 hf _ _ _ (lv_sub hl [] rfl) hP hD hS
    · have hf := mi_if_f hc hf
      refine lv_iload_n hx hb nd_F_checkPages_10 rfl (lv_at hl 3 rfl) ?_
      refine lv_bipush (v := 64) hx hb nd_F_checkPages_11 (by decide) ?_
      refine lv_icmp_le (tgt := 26) hx hb nd_F_checkPages_13 (by decide) (fun hc => ?_) (fun hc => ?_)
      · have hf := mi_if_t hc hf
        refine lv_iload_n hx hb nd_F_checkPages_26 rfl (lv_at hl 2 rfl) ?_
        refine lv_if_lt (tgt := 39) hx hb nd_F_checkPages_27 (by decide) (fun hc => ?_) (fun hc => ?_)
        · have hf := mi_if_t hc hf
          exact B39 hf _ _ _ (lv_sub hl [] rfl) hP hD hS
        · have hf := mi_if_f hc hf
          refine lv_iload_n hx hb nd_F_checkPages_30 rfl (lv_at hl 2 rfl) ?_
          refine lv_sipush (v := 256) hx hb nd_F_checkPages_31 (by decide) ?_
          refine lv_iload_n hx hb nd_F_checkPages_34 rfl (lv_at hl 3 rfl) ?_
          refine lv_isub hx hb nd_F_checkPages_35 ?_
          refine lv_icmp_le (tgt := 49) hx hb nd_F_checkPages_36 (by decide) (fun hc => ?_) (fun hc => ?_)
          · have hf := mi_if_t hc hf
            exact absurd (mi_t2 hf).2.symm hn
          · have hf := mi_if_f hc hf
            exact B39 hf _ _ _ (lv_sub hl [] rfl) hP hD hS
      · have hf := mi_if_f hc hf
        exact B16 hf _ _ _ (lv_sub hl [] rfl) hP hD hS
  · obtain ⟨-, hm⟩ := mi_t2 (congrArg some hf)
    have hm := hm.symm
    subst hm
    exact cx_v (vx_runV (C := "MovedFrames") (As := [.int z1]) (rest := []) ⟨hx, hb, hml, hown, hB⟩ (kt_F_checkSpace l dC dI q cI cZ _ σ z1 r1 n9 htr h9 hc) ⟨callB_of 1 hB (gi_ lk_453) rfl rfl rfl (hB _ lk_1) (hB _ lk_450) (by decide +kernel) ⟨Nat.le_of_ble_eq_true rfl, Nat.le_of_ble_eq_true rfl⟩, hB _ lk_452, hB _ ls_14⟩ ⟨blx_, va_recv (ci := 5) (q0 := 0) hK hP rfl rfl, prex_ hP hK hD hN hT hZ hS hA⟩ rfl rfl hl.1 rfl (lv_room (Nat.le_of_ble_eq_true rfl)) nd_F_checkPages_2 ⟨Nat.le_of_ble_eq_true rfl, Nat.le_of_ble_eq_true rfl⟩) hno hlocks hK hD hS hA
abbrev rm_Spaces_isPage : Room := { frames := 0, cells := 0, slots := 0, locals := 0 }
set_option maxHeartbeats 4000000 in
set_option maxRecDepth 100000 in
theorem kw_Spaces_isPage (l : Launch) (dC : Nat → ClassId) (dI : Nat → Nat → Nat) (q : Nat → Nat) (cI cZ : ClassId) (sz : Nat) (σ : CS) (z0 : Int32) (v : Int32) (hf : mc_Spaces_isPage z0 = some v) : Met l ny_Spaces_isPage nw_Spaces_isPage rm_Spaces_isPage (va_Pc [.int z0] (pr_ (dC, dI) (wd_C q cI cZ) [(cI, .int), (cZ, .boolean)] sz σ)) (qi_ (dC, dI) (wd_C q cI cZ) [(cI, .int), (cZ, .boolean)] (va_A (wd_C q cI cZ σ) sz) v σ) 0 0 (va_A (wd_C q cI cZ σ) sz) := by
  refine Met.ofW (cc := nb_Spaces_isPage) (maxL := 1) (ret := (some .boolean)) (by decide) rfl ?_
  intro p e s m args below meth c s₁ B hml hv
  obtain ⟨rfl, hsz, hP, hK, hD0, hN⟩ := hv
  have hx := B.exec
  have hb := B.bytes
  have hr := B.returns
  have hts := atoms_spec (ws := nw_Spaces_isPage) B.pre
  have hB : ∀ w ∈ BG, w.before ([.int z0] : List Value).toArray s = true := fun w h => hts w (List.mem_cons_of_mem _ h)
  have hown : s.vm.findClass "MovedFrames$Spaces" = some m.cls := findClass_of_methodNamed B.named
  have hlocks := B.notSynchronized
  subst hsz
  have hD := hD0.self (sz := s.heap.size)
  generalize hAe : va_A (wd_C q cI cZ σ) s.heap.size = A at hD ⊢
  have hA : ∀ q : Nat, s.heap.size ≤ q → A q := fun q h => by rw [← hAe]; exact Or.inr h
  have hS : va_S A s.heap s.heap [] := va_S.rf
  have hl := lv_entry ([.int z0]) (n := 1) (Nat.le_of_ble_eq_true rfl)
  rw [lg_entry_eq]
  generalize (lg_sl ([.int z0]) ++ List.replicate (1 - (lg_sl ([.int z0])).length) Slot.unset).toArray = ls at hl ⊢
  have hl : lv_has ls 1 [(0, .int z0)] := hl
  have hH : s.heap = s.heap := rfl
  unfold mc_Spaces_isPage at hf
  refine lv_iload_n hx hb nd_Spaces_isPage_0 rfl (lv_at hl 0 rfl) ?_
  refine lv_if_lt (tgt := 15) hx hb nd_Spaces_isPage_1 (by decide) (fun hc => ?_) (fun hc => ?_)
  · have hf := mi_if_t hc hf
    refine lv_iconst (v := 0) hx hb nd_Spaces_isPage_15 (by decide) ?_
    exact re_z hx hb hr hlocks (Or.inl rfl) (mi_eq hf) (rfl) hP hK hD hS nd_Spaces_isPage_16
  · have hf := mi_if_f hc hf
    refine lv_iload_n hx hb nd_Spaces_isPage_4 rfl (lv_at hl 0 rfl) ?_
    refine lv_sipush (v := 256) hx hb nd_Spaces_isPage_5 (by decide) ?_
    refine lv_icmp_ge (tgt := 15) hx hb nd_Spaces_isPage_8 (by decide) (fun hc => ?_) (fun hc => ?_)
    · have hf := mi_if_t hc hf
      refine lv_iconst (v := 0) hx hb nd_Spaces_isPage_15 (by decide) ?_
      exact re_z hx hb hr hlocks (Or.inl rfl) (mi_eq hf) (rfl) hP hK hD hS nd_Spaces_isPage_16
    · have hf := mi_if_f hc hf
      refine lv_iconst (v := 1) hx hb nd_Spaces_isPage_11 (by decide) ?_
      refine lv_goto (tgt := 16) hx hb nd_Spaces_isPage_12 (by decide) ?_
      exact re_z hx hb hr hlocks (Or.inr rfl) (mi_eq hf) (rfl) hP hK hD hS nd_Spaces_isPage_16
abbrev rm_Spaces_isInRegion : Room := { frames := 1, cells := 0, slots := 0, locals := 21 }
set_option maxHeartbeats 4000000 in
set_option maxRecDepth 100000 in
theorem kw_Spaces_isInRegion (l : Launch) (dC : Nat → ClassId) (dI : Nat → Nat → Nat) (q : Nat → Nat) (cI cZ : ClassId) (sz : Nat) (σ : CS) (z1 : Int32) (z2 : Int32) (v : Int32) (hf : mc_Spaces_isInRegion σ z1 z2 = some v) : Met l ny_Spaces_isInRegion nw_Spaces_isInRegion rm_Spaces_isInRegion (va_Pc [.ref (q 4), .int z1, .int z2] (pr_ (dC, dI) (wd_C q cI cZ) [(cI, .int), (cZ, .boolean)] sz σ)) (qi_ (dC, dI) (wd_C q cI cZ) [(cI, .int), (cZ, .boolean)] (va_A (wd_C q cI cZ σ) sz) v σ) 0 0 (va_A (wd_C q cI cZ σ) sz) := by
  refine Met.ofW (cc := nb_Spaces_isInRegion) (maxL := 3) (ret := (some .boolean)) (by decide) rfl ?_
  intro p e s m args below meth c s₁ B hml hv
  obtain ⟨rfl, hsz, hP, hK, hD0, hN⟩ := hv
  have hx := B.exec
  have hb := B.bytes
  have hr := B.returns
  have hts := atoms_spec (ws := nw_Spaces_isInRegion) B.pre
  have hB : ∀ w ∈ BG, w.before ([.ref (q 4), .int z1, .int z2] : List Value).toArray s = true := fun w h => hts w (List.mem_cons_of_mem _ h)
  have hown : s.vm.findClass "MovedFrames$Spaces" = some m.cls := findClass_of_methodNamed B.named
  have hlocks := B.notSynchronized
  subst hsz
  have hD := hD0.self (sz := s.heap.size)
  generalize hAe : va_A (wd_C q cI cZ σ) s.heap.size = A at hD ⊢
  have hA : ∀ q : Nat, s.heap.size ≤ q → A q := fun q h => by rw [← hAe]; exact Or.inr h
  have hS : va_S A s.heap s.heap [] := va_S.rf
  have hl := lv_entry ([.ref (q 4), .int z1, .int z2]) (n := 3) (Nat.le_of_ble_eq_true rfl)
  rw [lg_entry_eq]
  generalize (lg_sl ([.ref (q 4), .int z1, .int z2]) ++ List.replicate (3 - (lg_sl ([.ref (q 4), .int z1, .int z2])).length) Slot.unset).toArray = ls at hl ⊢
  have hl : lv_has ls 3 [(0, .ref (q 4)), (1, .int z1), (2, .int z2)] := hl
  have hH : s.heap = s.heap := rfl
  unfold mc_Spaces_isInRegion at hf
  refine lv_aload_n hx hb nd_Spaces_isInRegion_0 rfl (lv_at hl 0 rfl) ?_
  refine lv_iload_n hx hb nd_Spaces_isInRegion_1 rfl (lv_at hl 1 rfl) ?_
  obtain ⟨r1, hc, hf⟩ := mi_cp_el hf
  refine ca_i (va_runV (C := "MovedFrames$Spaces") (As := [.int z1]) (rest := []) ⟨hx, hb, hml, hown, hB⟩ (kw_Spaces_isThere l dC dI q cI cZ _ σ z1 r1 hc) ⟨callB_of 1 hB (gi_ lk_159) rfl rfl rfl (hB _ lk_5) (hB _ lk_156) (by decide +kernel) ⟨Nat.le_of_ble_eq_true rfl, Nat.le_of_ble_eq_true rfl⟩, hB _ lk_157, hB _ lk_158⟩ ⟨bl_, va_recv (ci := 4) (q0 := 4) hK hP rfl rfl, pre_ hP hK hD hN⟩ rfl rfl hl.1 rfl (lv_room (Nat.le_of_ble_eq_true rfl)) nd_Spaces_isInRegion_2 ⟨Nat.zero_le _, Nat.zero_le _⟩) hD hS hA (fun H locs hP hD hS => ?_)
  refine lv_if_eq (tgt := 34) hx hb nd_Spaces_isInRegion_5 (by decide) (fun hc => ?_) (fun hc => ?_)
  · have hf := mi_if_t hc hf
    refine lv_iconst (v := 0) hx hb nd_Spaces_isInRegion_34 (by decide) ?_
    exact re_z hx hb hr hlocks (Or.inl rfl) (mi_eq hf) (rfl) hP hK hD hS nd_Spaces_isInRegion_35
  · have hf := mi_if_f hc hf
    refine lv_iload_n hx hb nd_Spaces_isInRegion_8 rfl (lv_at hl 2 rfl) ?_
    obtain ⟨r2, hc, hf⟩ := mi_cp_el hf
    refine ca_i (va_runS (As := [.int z2]) (rest := []) ⟨hx, hb, hml, hown, hB⟩ (kw_Spaces_isPage l dC dI q cI cZ _ σ z2 r2 hc) ⟨callB_of 1 hB (gi_ lk_162) rfl rfl rfl (hB _ lk_5) (hB _ lk_160) (by decide +kernel) ⟨Nat.le_of_ble_eq_true rfl, Nat.le_of_ble_eq_true rfl⟩, hB _ lk_161⟩ ⟨bl_, pre_ hP hK hD hN⟩ rfl rfl hl.1 rfl (lv_room (Nat.le_of_ble_eq_true rfl)) nd_Spaces_isInRegion_9 ⟨Nat.zero_le _, Nat.zero_le _⟩) hD hS hA (fun H locs hP hD hS => ?_)
    refine lv_if_eq (tgt := 34) hx hb nd_Spaces_isInRegion_12 (by decide) (fun hc => ?_) (fun hc => ?_)
    · have hf := mi_if_t hc hf
      refine lv_iconst (v := 0) hx hb nd_Spaces_isInRegion_34 (by decide) ?_
      exact re_z hx hb hr hlocks (Or.inl rfl) (mi_eq hf) (rfl) hP hK hD hS nd_Spaces_isInRegion_35
    · have hf := mi_if_f hc hf
      refine lv_aload_n hx hb nd_Spaces_isInRegion_15 rfl (lv_at hl 0 rfl) ?_
      refine va_get (D := (dC, dI)) (ci := 4) (v := .ref (q 13)) (C := RX4) (T := TX4) (N := 4) hx hb hB inB4 hown hK hP 4 rfl rfl 2 (by decide) (hB _ lk_82) (fun _ h9 => h9) rfl nd_Spaces_isInRegion_16 ?_
      refine lv_iload_n hx hb nd_Spaces_isInRegion_19 rfl (lv_at hl 1 rfl) ?_
      refine lv_sipush (v := 256) hx hb nd_Spaces_isInRegion_20 (by decide) ?_
      refine lv_imul hx hb nd_Spaces_isInRegion_23 ?_
      refine lv_iload_n hx hb nd_Spaces_isInRegion_24 rfl (lv_at hl 2 rfl) ?_
      refine lv_iadd hx hb nd_Spaces_isInRegion_25 ?_
      obtain ⟨hg, hf⟩ := mi_gd_el hf
      refine va_zald hx hb hK hP 13 1 rfl rfl hg nd_Spaces_isInRegion_26 ?_
      refine lv_if_eq (tgt := 34) hx hb nd_Spaces_isInRegion_27 (by decide) (fun hc => ?_) (fun hc => ?_)
      · have hf := mi_if_t hc hf
        refine lv_iconst (v := 0) hx hb nd_Spaces_isInRegion_34 (by decide) ?_
        exact re_z hx hb hr hlocks (Or.inl rfl) (mi_eq hf) (rfl) hP hK hD hS nd_Spaces_isInRegion_35
      · have hf := mi_if_f hc hf
        refine lv_iconst (v := 1) hx hb nd_Spaces_isInRegion_30 (by decide) ?_
        refine lv_goto (tgt := 35) hx hb nd_Spaces_isInRegion_31 (by decide) ?_
        exact re_z hx hb hr hlocks (Or.inr rfl) (mi_eq hf) (rfl) hP hK hD hS nd_Spaces_isInRegion_35
abbrev rm_Spaces_anyInRegion : Room := { frames := 2, cells := 0, slots := 0, locals := 43 }
set_option maxHeartbeats 4000000 in
set_option maxRecDepth 100000 in
theorem kw_Spaces_anyInRegion (l : Launch) (dC : Nat → ClassId) (dI : Nat → Nat → Nat) (q : Nat → Nat) (cI cZ : ClassId) (sz : Nat) (σ : CS) (z1 : Int32) (z2 : Int32) (z3 : Int32) (v : Int32) (hf : mc_Spaces_anyInRegion σ z1 z2 z3 = some v) : Met l ny_Spaces_anyInRegion nw_Spaces_anyInRegion rm_Spaces_anyInRegion (va_Pc [.ref (q 4), .int z1, .int z2, .int z3] (pr_ (dC, dI) (wd_C q cI cZ) [(cI, .int), (cZ, .boolean)] sz σ)) (qi_ (dC, dI) (wd_C q cI cZ) [(cI, .int), (cZ, .boolean)] (va_A (wd_C q cI cZ σ) sz) v σ) 0 0 (va_A (wd_C q cI cZ σ) sz) := by
  refine Met.ofW (cc := nb_Spaces_anyInRegion) (maxL := 5) (ret := (some .boolean)) (by decide) rfl ?_
  intro p e s m args below meth c s₁ B hml hv
  obtain ⟨rfl, hsz, hP, hK, hD0, hN⟩ := hv
  have hx := B.exec
  have hb := B.bytes
  have hr := B.returns
  have hts := atoms_spec (ws := nw_Spaces_anyInRegion) B.pre
  have hB : ∀ w ∈ BG, w.before ([.ref (q 4), .int z1, .int z2, .int z3] : List Value).toArray s = true := fun w h => hts w (List.mem_cons_of_mem _ h)
  have hown : s.vm.findClass "MovedFrames$Spaces" = some m.cls := findClass_of_methodNamed B.named
  have hlocks := B.notSynchronized
  subst hsz
  have hD := hD0.self (sz := s.heap.size)
  generalize hAe : va_A (wd_C q cI cZ σ) s.heap.size = A at hD ⊢
  have hA : ∀ q : Nat, s.heap.size ≤ q → A q := fun q h => by rw [← hAe]; exact Or.inr h
  have hS : va_S A s.heap s.heap [] := va_S.rf
  have hl := lv_entry ([.ref (q 4), .int z1, .int z2, .int z3]) (n := 5) (Nat.le_of_ble_eq_true rfl)
  rw [lg_entry_eq]
  generalize (lg_sl ([.ref (q 4), .int z1, .int z2, .int z3]) ++ List.replicate (5 - (lg_sl ([.ref (q 4), .int z1, .int z2, .int z3])).length) Slot.unset).toArray = ls at hl ⊢
  have hl : lv_has ls 5 [(0, .ref (q 4)), (1, .int z1), (2, .int z2), (3, .int z3)] := hl
  have B3 : ∀ (k3 : Int32 → Int32 → Int32 → Int32 → CS → Option (Int32)) (hk3 : ∀ (x1 : Int32) (x2 : Int32) (x3 : Int32) (x4 : Int32), k3 x1 x2 x3 x4 σ = some v → bk_ p l e rm_Spaces_anyInRegion s m ([.ref (q 4), .int z1, .int z2, .int z3] : List Value).toArray below meth c (MQ below (qi_ (dC, dI) (wd_C q cI cZ) [(cI, .int), (cZ, .boolean)] A v σ) ([.ref (q 4), .int z1, .int z2, .int z3] : List Value).toArray s 0 0 A) A (dC, dI) (wd_C q cI cZ) 5 3 [(0, .ref (q 4)), (1, .int x1), (2, .int x2), (3, .int x3), (4, .int x4)] [] σ) (x1 : Int32) (x2 : Int32) (x3 : Int32) (x4 : Int32), mc_Spaces_anyInRegion_b3 k3 x1 x2 x3 x4 σ = some v → bk_ p l e rm_Spaces_anyInRegion s m ([.ref (q 4), .int z1, .int z2, .int z3] : List Value).toArray below meth c (MQ below (qi_ (dC, dI) (wd_C q cI cZ) [(cI, .int), (cZ, .boolean)] A v σ) ([.ref (q 4), .int z1, .int z2, .int z3] : List Value).toArray s 0 0 A) A (dC, dI) (wd_C q cI cZ) 5 3 [(0, .ref (q 4)), (1, .int x1), (2, .int x2), (3, .int x3), (4, .int x4)] [] σ := by
    intro k3 hk3 x1 x2 x3 x4 hf ls H locs hl hP hD hS
    unfold mc_Spaces_anyInRegion_b3 at hf
    refine lv_iload hx hb nd_Spaces_anyInRegion_3 (lv_at hl 4 rfl) ?_
    refine lv_iload_n hx hb nd_Spaces_anyInRegion_5 rfl (lv_at hl 2 rfl) ?_
    refine lv_iload_n hx hb nd_Spaces_anyInRegion_6 rfl (lv_at hl 3 rfl) ?_
    refine lv_iadd hx hb nd_Spaces_anyInRegion_7 ?_
    refine lv_icmp_ge (tgt := 29) hx hb nd_Spaces_anyInRegion_8 (by decide) (fun hc => ?_) (fun hc => ?_)
    · have hf := mi_if_t hc hf
      refine lv_iconst (v := 0) hx hb nd_Spaces_anyInRegion_29 (by decide) ?_
      exact re_z hx hb hr hlocks (Or.inl rfl) (mi_eq hf) (rfl) hP hK hD hS nd_Spaces_anyInRegion_30
    · have hf := mi_if_f hc hf
      refine lv_aload_n hx hb nd_Spaces_anyInRegion_11 rfl (lv_at hl 0 rfl) ?_
      refine lv_iload_n hx hb nd_Spaces_anyInRegion_12 rfl (lv_at hl 1 rfl) ?_
      refine lv_iload hx hb nd_Spaces_anyInRegion_13 (lv_at hl 4 rfl) ?_
      obtain ⟨r1, hc, hf⟩ := mi_cp_el hf
      refine ca_i (va_runV (C := "MovedFrames$Spaces") (As := [.int x1, .int x4]) (rest := []) ⟨hx, hb, hml, hown, hB⟩ (kw_Spaces_isInRegion l dC dI q cI cZ _ σ x1 x4 r1 hc) ⟨callB_of 2 hB (gi_ lk_464) rfl rfl rfl (hB _ lk_5) (hB _ lk_461) (by decide +kernel) ⟨Nat.le_of_ble_eq_true rfl, Nat.le_of_ble_eq_true rfl⟩, hB _ lk_462, hB _ lk_463⟩ ⟨bl_, va_recv (ci := 4) (q0 := 4) hK hP rfl rfl, pre_ hP hK hD hN⟩ rfl rfl hl.1 rfl (lv_room (Nat.le_of_ble_eq_true rfl)) nd_Spaces_anyInRegion_15 ⟨Nat.zero_le _, Nat.zero_le _⟩) hD hS hA (fun H locs hP hD hS => ?_)
      refine lv_if_eq (tgt := 23) hx hb nd_Spaces_anyInRegion_18 (by decide) (fun hc => ?_) (fun hc => ?_)
      · have hf := mi_if_t hc hf
        refine lv_iinc (k := 4) (v := x4 + (1 : Int32)) (lv' := [(4, .int (x4 + (1 : Int32))), (0, .ref (q 4)), (1, .int x1), (2, .int x2), (3, .int x3)]) hx hb nd_Spaces_anyInRegion_23 hl rfl (congrArg (fun z => x4 + z) (by decide : Int32.ofInt 1 = (1 : Int32))) (by decide) rfl (fun ls hl => ?_)
        refine lv_goto (tgt := 3) hx hb nd_Spaces_anyInRegion_26 (by decide) ?_
        exact hk3 x1 x2 x3 (x4 + (1 : Int32)) hf _ _ _ (lv_sub hl [1, 2, 3, 4, 0] rfl) hP hD hS
      · have hf := mi_if_f hc hf
        refine lv_iconst (v := 1) hx hb nd_Spaces_anyInRegion_21 (by decide) ?_
        exact re_z hx hb hr hlocks (Or.inr rfl) (mi_eq hf) (rfl) hP hK hD hS nd_Spaces_anyInRegion_22
  have L3 : ∀ (n : Nat) (x1 : Int32) (x2 : Int32) (x3 : Int32) (x4 : Int32), mc_Spaces_anyInRegion_l3 n x1 x2 x3 x4 σ = some v → bk_ p l e rm_Spaces_anyInRegion s m ([.ref (q 4), .int z1, .int z2, .int z3] : List Value).toArray below meth c (MQ below (qi_ (dC, dI) (wd_C q cI cZ) [(cI, .int), (cZ, .boolean)] A v σ) ([.ref (q 4), .int z1, .int z2, .int z3] : List Value).toArray s 0 0 A) A (dC, dI) (wd_C q cI cZ) 5 3 [(0, .ref (q 4)), (1, .int x1), (2, .int x2), (3, .int x3), (4, .int x4)] [] σ := by
    intro n
    induction n with
    | zero =>
      intro x1 x2 x3 x4 hf
      exact mi_no hf
    | succ n ih =>
      intro x1 x2 x3 x4 hf
      exact B3 (mc_Spaces_anyInRegion_l3 n) ih x1 x2 x3 x4 hf
  have hH : s.heap = s.heap := rfl
  unfold mc_Spaces_anyInRegion at hf
  refine lv_iload_n hx hb nd_Spaces_anyInRegion_0 rfl (lv_at hl 2 rfl) ?_
  refine lv_istore (lv' := [(4, .int z2), (0, .ref (q 4)), (1, .int z1), (2, .int z2), (3, .int z3)]) hx hb nd_Spaces_anyInRegion_1 hl (by decide) rfl (fun ls hl => ?_)
  exact L3 FU z1 z2 z3 z2 hf _ _ _ (lv_sub hl [1, 2, 3, 4, 0] rfl) hP hD hS
abbrev rm_Spaces_setRegion : Room := { frames := 1, cells := 0, slots := 0, locals := 21 }
set_option maxHeartbeats 4000000 in
set_option maxRecDepth 100000 in
theorem kw_Spaces_setRegion (l : Launch) (dC : Nat → ClassId) (dI : Nat → Nat → Nat) (q : Nat → Nat) (cI cZ : ClassId) (sz : Nat) (σ : CS) (z1 : Int32) (z2 : Int32) (z3 : Int32) (σ' : CS) (hf : mc_Spaces_setRegion σ z1 z2 z3 = some σ') : Met l ny_Spaces_setRegion nw_Spaces_setRegion rm_Spaces_setRegion (va_Pc [.ref (q 4), .int z1, .int z2, .int z3] (pr_ (dC, dI) (wd_C q cI cZ) [(cI, .int), (cZ, .boolean)] sz σ)) (qv_ (dC, dI) (wd_C q cI cZ) [(cI, .int), (cZ, .boolean)] (va_A (wd_C q cI cZ σ) sz) σ') 0 0 (va_A (wd_C q cI cZ σ) sz) := by
  refine Met.ofW (cc := nb_Spaces_setRegion) (maxL := 4) (ret := none) (by decide) rfl ?_
  intro p e s m args below meth c s₁ B hml hv
  obtain ⟨rfl, hsz, hP, hK, hD0, hN⟩ := hv
  have hx := B.exec
  have hb := B.bytes
  have hr := B.returns
  have hts := atoms_spec (ws := nw_Spaces_setRegion) B.pre
  have hB : ∀ w ∈ BG, w.before ([.ref (q 4), .int z1, .int z2, .int z3] : List Value).toArray s = true := fun w h => hts w (List.mem_cons_of_mem _ h)
  have hown : s.vm.findClass "MovedFrames$Spaces" = some m.cls := findClass_of_methodNamed B.named
  have hlocks := B.notSynchronized
  subst hsz
  have hD := hD0.self (sz := s.heap.size)
  generalize hAe : va_A (wd_C q cI cZ σ) s.heap.size = A at hD ⊢
  have hA : ∀ q : Nat, s.heap.size ≤ q → A q := fun q h => by rw [← hAe]; exact Or.inr h
  have hS : va_S A s.heap s.heap [] := va_S.rf
  have hl := lv_entry ([.ref (q 4), .int z1, .int z2, .int z3]) (n := 4) (Nat.le_of_ble_eq_true rfl)
  rw [lg_entry_eq]
  generalize (lg_sl ([.ref (q 4), .int z1, .int z2, .int z3]) ++ List.replicate (4 - (lg_sl ([.ref (q 4), .int z1, .int z2, .int z3])).length) Slot.unset).toArray = ls at hl ⊢
  have hl : lv_has ls 4 [(0, .ref (q 4)), (1, .int z1), (2, .int z2), (3, .int z3)] := hl
  have hH : s.heap = s.heap := rfl
  unfold mc_Spaces_setRegion at hf
  refine lv_aload_n hx hb nd_Spaces_setRegion_0 rfl (lv_at hl 0 rfl) ?_
  refine lv_iload_n hx hb nd_Spaces_setRegion_1 rfl (lv_at hl 1 rfl) ?_
  obtain ⟨r1, hc, hf⟩ := mi_cp_el hf
  refine ca_i (va_runV (C := "MovedFrames$Spaces") (As := [.int z1]) (rest := []) ⟨hx, hb, hml, hown, hB⟩ (kw_Spaces_isThere l dC dI q cI cZ _ σ z1 r1 hc) ⟨callB_of 1 hB (gi_ lk_159) rfl rfl rfl (hB _ lk_5) (hB _ lk_156) (by decide +kernel) ⟨Nat.le_of_ble_eq_true rfl, Nat.le_of_ble_eq_true rfl⟩, hB _ lk_157, hB _ lk_158⟩ ⟨bl_, va_recv (ci := 4) (q0 := 4) hK hP rfl rfl, pre_ hP hK hD hN⟩ rfl rfl hl.1 rfl (lv_room (Nat.le_of_ble_eq_true rfl)) nd_Spaces_setRegion_2 ⟨Nat.zero_le _, Nat.zero_le _⟩) hD hS hA (fun H locs hP hD hS => ?_)
  refine lv_if_eq (tgt := 28) hx hb nd_Spaces_setRegion_5 (by decide) (fun hc => ?_) (fun hc => ?_)
  · have hf := mi_if_t hc hf
    exact re_v hx hb hr hlocks (mi_eq hf) hP hK hD hS nd_Spaces_setRegion_28
  · have hf := mi_if_f hc hf
    refine lv_iload_n hx hb nd_Spaces_setRegion_8 rfl (lv_at hl 2 rfl) ?_
    obtain ⟨r2, hc, hf⟩ := mi_cp_el hf
    refine ca_i (va_runS (As := [.int z2]) (rest := []) ⟨hx, hb, hml, hown, hB⟩ (kw_Spaces_isPage l dC dI q cI cZ _ σ z2 r2 hc) ⟨callB_of 1 hB (gi_ lk_162) rfl rfl rfl (hB _ lk_5) (hB _ lk_160) (by decide +kernel) ⟨Nat.le_of_ble_eq_true rfl, Nat.le_of_ble_eq_true rfl⟩, hB _ lk_161⟩ ⟨bl_, pre_ hP hK hD hN⟩ rfl rfl hl.1 rfl (lv_room (Nat.le_of_ble_eq_true rfl)) nd_Spaces_setRegion_9 ⟨Nat.zero_le _, Nat.zero_le _⟩) hD hS hA (fun H locs hP hD hS => ?_)
    refine lv_if_eq (tgt := 28) hx hb nd_Spaces_setRegion_12 (by decide) (fun hc => ?_) (fun hc => ?_)
    · have hf := mi_if_t hc hf
      exact re_v hx hb hr hlocks (mi_eq hf) hP hK hD hS nd_Spaces_setRegion_28
    · have hf := mi_if_f hc hf
      refine lv_aload_n hx hb nd_Spaces_setRegion_15 rfl (lv_at hl 0 rfl) ?_
      refine va_get (D := (dC, dI)) (ci := 4) (v := .ref (q 13)) (C := RX4) (T := TX4) (N := 4) hx hb hB inB4 hown hK hP 4 rfl rfl 2 (by decide) (hB _ lk_82) (fun _ h9 => h9) rfl nd_Spaces_setRegion_16 ?_
      refine lv_iload_n hx hb nd_Spaces_setRegion_19 rfl (lv_at hl 1 rfl) ?_
      refine lv_sipush (v := 256) hx hb nd_Spaces_setRegion_20 (by decide) ?_
      refine lv_imul hx hb nd_Spaces_setRegion_23 ?_
      refine lv_iload_n hx hb nd_Spaces_setRegion_24 rfl (lv_at hl 2 rfl) ?_
      refine lv_iadd hx hb nd_Spaces_setRegion_25 ?_
      refine lv_iload_n hx hb nd_Spaces_setRegion_26 rfl (lv_at hl 3 rfl) ?_
      obtain ⟨hg, hf⟩ := mi_gd_el hf
      refine va_zast hx hb hK hP hD hS 13 1 rfl rfl hg nd_Spaces_setRegion_27 (fun H locs hP hD hS => ?_)
      obtain ⟨σ3, e9, hf⟩ := mi_wr_ex hf
      have hP : va_P (dC, dI) vwCl (wd_C q cI cZ σ3) H := by rw [e9]; exact hP
      have hD : va_D A (wd_C q cI cZ σ3) := by rw [e9]; exact hD
      exact re_v hx hb hr hlocks (mi_eq hf) hP hK hD hS nd_Spaces_setRegion_28
abbrev rm_Spaces_putInRegion : Room := { frames := 2, cells := 0, slots := 0, locals := 44 }
set_option maxHeartbeats 4000000 in
set_option maxRecDepth 100000 in
theorem kw_Spaces_putInRegion (l : Launch) (dC : Nat → ClassId) (dI : Nat → Nat → Nat) (q : Nat → Nat) (cI cZ : ClassId) (sz : Nat) (σ : CS) (z1 : Int32) (z2 : Int32) (z3 : Int32) (σ' : CS) (hf : mc_Spaces_putInRegion σ z1 z2 z3 = some σ') : Met l ny_Spaces_putInRegion nw_Spaces_putInRegion rm_Spaces_putInRegion (va_Pc [.ref (q 4), .int z1, .int z2, .int z3] (pr_ (dC, dI) (wd_C q cI cZ) [(cI, .int), (cZ, .boolean)] sz σ)) (qv_ (dC, dI) (wd_C q cI cZ) [(cI, .int), (cZ, .boolean)] (va_A (wd_C q cI cZ σ) sz) σ') 0 0 (va_A (wd_C q cI cZ σ) sz) := by
  refine Met.ofW (cc := nb_Spaces_putInRegion) (maxL := 5) (ret := none) (by decide) rfl ?_
  intro p e s m args below meth c s₁ B hml hv
  obtain ⟨rfl, hsz, hP, hK, hD0, hN⟩ := hv
  have hx := B.exec
  have hb := B.bytes
  have hr := B.returns
  have hts := atoms_spec (ws := nw_Spaces_putInRegion) B.pre
  have hB : ∀ w ∈ BG, w.before ([.ref (q 4), .int z1, .int z2, .int z3] : List Value).toArray s = true := fun w h => hts w (List.mem_cons_of_mem _ h)
  have hown : s.vm.findClass "MovedFrames$Spaces" = some m.cls := findClass_of_methodNamed B.named
  have hlocks := B.notSynchronized
  subst hsz
  have hD := hD0.self (sz := s.heap.size)
  generalize hAe : va_A (wd_C q cI cZ σ) s.heap.size = A at hD ⊢
  have hA : ∀ q : Nat, s.heap.size ≤ q → A q := fun q h => by rw [← hAe]; exact Or.inr h
  have hS : va_S A s.heap s.heap [] := va_S.rf
  have hl := lv_entry ([.ref (q 4), .int z1, .int z2, .int z3]) (n := 5) (Nat.le_of_ble_eq_true rfl)
  rw [lg_entry_eq]
  generalize (lg_sl ([.ref (q 4), .int z1, .int z2, .int z3]) ++ List.replicate (5 - (lg_sl ([.ref (q 4), .int z1, .int z2, .int z3])).length) Slot.unset).toArray = ls at hl ⊢
  have hl : lv_has ls 5 [(0, .ref (q 4)), (1, .int z1), (2, .int z2), (3, .int z3)] := hl
  have B3 : ∀ (k3 : Int32 → Int32 → Int32 → Int32 → CS → Option (CS)) (hk3 : ∀ (x1 : Int32) (x2 : Int32) (x3 : Int32) (x4 : Int32) (σ : CS), k3 x1 x2 x3 x4 σ = some σ' → bk_ p l e rm_Spaces_putInRegion s m ([.ref (q 4), .int z1, .int z2, .int z3] : List Value).toArray below meth c (MQ below (qv_ (dC, dI) (wd_C q cI cZ) [(cI, .int), (cZ, .boolean)] A σ') ([.ref (q 4), .int z1, .int z2, .int z3] : List Value).toArray s 0 0 A) A (dC, dI) (wd_C q cI cZ) 5 3 [(0, .ref (q 4)), (1, .int x1), (2, .int x2), (3, .int x3), (4, .int x4)] [] σ) (x1 : Int32) (x2 : Int32) (x3 : Int32) (x4 : Int32) (σ : CS), mc_Spaces_putInRegion_b3 k3 x1 x2 x3 x4 σ = some σ' → bk_ p l e rm_Spaces_putInRegion s m ([.ref (q 4), .int z1, .int z2, .int z3] : List Value).toArray below meth c (MQ below (qv_ (dC, dI) (wd_C q cI cZ) [(cI, .int), (cZ, .boolean)] A σ') ([.ref (q 4), .int z1, .int z2, .int z3] : List Value).toArray s 0 0 A) A (dC, dI) (wd_C q cI cZ) 5 3 [(0, .ref (q 4)), (1, .int x1), (2, .int x2), (3, .int x3), (4, .int x4)] [] σ := by
    intro k3 hk3 x1 x2 x3 x4 σ hf ls H locs hl hP hD hS
    unfold mc_Spaces_putInRegion_b3 at hf
    refine lv_iload hx hb nd_Spaces_putInRegion_3 (lv_at hl 4 rfl) ?_
    refine lv_iload_n hx hb nd_Spaces_putInRegion_5 rfl (lv_at hl 2 rfl) ?_
    refine lv_iload_n hx hb nd_Spaces_putInRegion_6 rfl (lv_at hl 3 rfl) ?_
    refine lv_iadd hx hb nd_Spaces_putInRegion_7 ?_
    refine lv_icmp_ge (tgt := 25) hx hb nd_Spaces_putInRegion_8 (by decide) (fun hc => ?_) (fun hc => ?_)
    · have hf := mi_if_t hc hf
      exact re_v hx hb hr hlocks (mi_eq hf) hP hK hD hS nd_Spaces_putInRegion_25
    · have hf := mi_if_f hc hf
      refine lv_aload_n hx hb nd_Spaces_putInRegion_11 rfl (lv_at hl 0 rfl) ?_
      refine lv_iload_n hx hb nd_Spaces_putInRegion_12 rfl (lv_at hl 1 rfl) ?_
      refine lv_iload hx hb nd_Spaces_putInRegion_13 (lv_at hl 4 rfl) ?_
      refine lv_iconst (v := 1) hx hb nd_Spaces_putInRegion_15 (by decide) ?_
      obtain ⟨σ1, hc, hf⟩ := mi_cv_el hf
      refine ca_v (va_runV (C := "MovedFrames$Spaces") (As := [.int x1, .int x4, .int (1 : Int32)]) (rest := []) ⟨hx, hb, hml, hown, hB⟩ (kw_Spaces_setRegion l dC dI q cI cZ _ σ x1 x4 (1 : Int32) σ1 hc) ⟨callB_of 3 hB (gi_ lk_473) rfl rfl rfl (hB _ lk_5) (hB _ lk_470) (by decide +kernel) ⟨Nat.le_of_ble_eq_true rfl, Nat.le_of_ble_eq_true rfl⟩, hB _ lk_472, hB _ ls_15⟩ ⟨bl_, va_recv (ci := 4) (q0 := 4) hK hP rfl rfl, pre_ hP hK hD hN⟩ rfl rfl hl.1 rfl (lv_room (Nat.le_of_ble_eq_true rfl)) nd_Spaces_putInRegion_16 ⟨Nat.zero_le _, Nat.zero_le _⟩) hD hS hA (fun H locs hP hD hS => ?_)
      refine lv_iinc (k := 4) (v := x4 + (1 : Int32)) (lv' := [(4, .int (x4 + (1 : Int32))), (0, .ref (q 4)), (1, .int x1), (2, .int x2), (3, .int x3)]) hx hb nd_Spaces_putInRegion_19 hl rfl (congrArg (fun z => x4 + z) (by decide : Int32.ofInt 1 = (1 : Int32))) (by decide) rfl (fun ls hl => ?_)
      refine lv_goto (tgt := 3) hx hb nd_Spaces_putInRegion_22 (by decide) ?_
      exact hk3 x1 x2 x3 (x4 + (1 : Int32)) σ1 hf _ _ _ (lv_sub hl [1, 2, 3, 4, 0] rfl) hP hD hS
  have L3 : ∀ (n : Nat) (x1 : Int32) (x2 : Int32) (x3 : Int32) (x4 : Int32) (σ : CS), mc_Spaces_putInRegion_l3 n x1 x2 x3 x4 σ = some σ' → bk_ p l e rm_Spaces_putInRegion s m ([.ref (q 4), .int z1, .int z2, .int z3] : List Value).toArray below meth c (MQ below (qv_ (dC, dI) (wd_C q cI cZ) [(cI, .int), (cZ, .boolean)] A σ') ([.ref (q 4), .int z1, .int z2, .int z3] : List Value).toArray s 0 0 A) A (dC, dI) (wd_C q cI cZ) 5 3 [(0, .ref (q 4)), (1, .int x1), (2, .int x2), (3, .int x3), (4, .int x4)] [] σ := by
    intro n
    induction n with
    | zero =>
      intro x1 x2 x3 x4 σ hf
      exact mi_no hf
    | succ n ih =>
      intro x1 x2 x3 x4 σ hf
      exact B3 (mc_Spaces_putInRegion_l3 n) ih x1 x2 x3 x4 σ hf
  have hH : s.heap = s.heap := rfl
  unfold mc_Spaces_putInRegion at hf
  refine lv_iload_n hx hb nd_Spaces_putInRegion_0 rfl (lv_at hl 2 rfl) ?_
  refine lv_istore (lv' := [(4, .int z2), (0, .ref (q 4)), (1, .int z1), (2, .int z2), (3, .int z3)]) hx hb nd_Spaces_putInRegion_1 hl (by decide) rfl (fun ls hl => ?_)
  exact L3 FU z1 z2 z3 z2 σ hf _ _ _ (lv_sub hl [1, 2, 3, 4, 0] rfl) hP hD hS
abbrev rm_F_mmap : Room := { frames := 8, cells := 0, slots := 0, locals := 134 }
set_option maxHeartbeats 4000000 in
set_option maxRecDepth 100000 in
theorem kw_F_mmap (l : Launch) (dC : Nat → ClassId) (dI : Nat → Nat → Nat) (q : Nat → Nat) (cI cZ : ClassId) (sz : Nat) (σ : CS) (z1 : Int32) (z2 : Int32) (z3 : Int32) (v : Int32) (σ' : CS) (hf : mc_mmap σ z1 z2 z3 = some (v, 0, σ')) : Met l ny_F_mmap nw_F_mmap rm_F_mmap (va_Pc [.ref (q 0), .int z1, .int z2, .int z3] (pr_ (dC, dI) (wd_C q cI cZ) [(cI, .int), (cZ, .boolean)] sz σ)) (qv_ (dC, dI) (wd_C q cI cZ) [(cI, .int), (cZ, .boolean)] (va_A (wd_C q cI cZ σ) sz) σ') 0 0 (va_A (wd_C q cI cZ σ) sz) := by
  refine Met.ofW (cc := nb_F_mmap) (maxL := 4) (ret := none) (by decide) rfl ?_
  intro p e s m args below meth c s₁ B hml hv
  obtain ⟨rfl, hsz, hP, hK, hD0, hN⟩ := hv
  have hx := B.exec
  have hb := B.bytes
  have hr := B.returns
  have hts := atoms_spec (ws := nw_F_mmap) B.pre
  have hB : ∀ w ∈ BG, w.before ([.ref (q 0), .int z1, .int z2, .int z3] : List Value).toArray s = true := fun w h => hts w (List.mem_cons_of_mem _ h)
  have hown : s.vm.findClass "MovedFrames" = some m.cls := findClass_of_methodNamed B.named
  have hlocks := B.notSynchronized
  subst hsz
  have hD := hD0.self (sz := s.heap.size)
  generalize hAe : va_A (wd_C q cI cZ σ) s.heap.size = A at hD ⊢
  have hA : ∀ q : Nat, s.heap.size ≤ q → A q := fun q h => by rw [← hAe]; exact Or.inr h
  have hS : va_S A s.heap s.heap [] := va_S.rf
  have hl := lv_entry ([.ref (q 0), .int z1, .int z2, .int z3]) (n := 4) (Nat.le_of_ble_eq_true rfl)
  rw [lg_entry_eq]
  generalize (lg_sl ([.ref (q 0), .int z1, .int z2, .int z3]) ++ List.replicate (4 - (lg_sl ([.ref (q 0), .int z1, .int z2, .int z3])).length) Slot.unset).toArray = ls at hl ⊢
  have hl : lv_has ls 4 [(0, .ref (q 0)), (1, .int z1), (2, .int z2), (3, .int z3)] := hl
  have hH : s.heap = s.heap := rfl
  unfold mc_mmap at hf
  refine lv_aload_n hx hb nd_F_mmap_0 rfl (lv_at hl 0 rfl) ?_
  refine lv_iload_n hx hb nd_F_mmap_1 rfl (lv_at hl 1 rfl) ?_
  refine lv_iload_n hx hb nd_F_mmap_2 rfl (lv_at hl 2 rfl) ?_
  refine lv_iload_n hx hb nd_F_mmap_3 rfl (lv_at hl 3 rfl) ?_
  obtain ⟨r3, n9, hc, hq⟩ := mi_tq_el hf
  rcases hq with ⟨h9, hf⟩ | ⟨h9, hf⟩
  · subst h9
    refine ca_v (va_runV (C := "MovedFrames") (As := [.int z1, .int z2, .int z3]) (rest := []) ⟨hx, hb, hml, hown, hB⟩ (kw_F_checkPages l dC dI q cI cZ _ σ z1 z2 z3 r3 hc) ⟨callB_of 3 hB (gi_ lk_449) rfl rfl rfl (hB _ lk_1) (hB _ lk_446) (by decide +kernel) ⟨Nat.le_of_ble_eq_true rfl, Nat.le_of_ble_eq_true rfl⟩, hB _ lk_448, hB _ ls_13⟩ ⟨bl_, va_recv (ci := 5) (q0 := 0) hK hP rfl rfl, pre_ hP hK hD hN⟩ rfl rfl hl.1 rfl (lv_room (Nat.le_of_ble_eq_true rfl)) nd_F_mmap_4 ⟨Nat.zero_le _, Nat.zero_le _⟩) hD hS hA (fun H locs hP hD hS => ?_)
    refine lv_aload_n hx hb nd_F_mmap_7 rfl (lv_at hl 0 rfl) ?_
    refine va_get (D := (dC, dI)) (ci := 5) (v := .ref (q 4)) (C := RX5) (T := TX5) (N := 5) hx hb hB inB5 hown hK hP 0 rfl rfl 3 (by decide) (hB _ lk_116) (fun _ h9 => h9) rfl nd_F_mmap_8 ?_
    refine lv_iload_n hx hb nd_F_mmap_11 rfl (lv_at hl 1 rfl) ?_
    refine lv_iload_n hx hb nd_F_mmap_12 rfl (lv_at hl 2 rfl) ?_
    refine lv_iload_n hx hb nd_F_mmap_13 rfl (lv_at hl 3 rfl) ?_
    obtain ⟨r1, hc, hf⟩ := mi_cp_el hf
    refine ca_i (va_runV (C := "MovedFrames$Spaces") (As := [.int z1, .int z2, .int z3]) (rest := []) ⟨hx, hb, hml, hown, hB⟩ (kw_Spaces_anyInRegion l dC dI q cI cZ _ σ z1 z2 z3 r1 hc) ⟨callB_of 3 hB (gi_ lk_460) rfl rfl rfl (hB _ lk_5) (hB _ lk_457) (by decide +kernel) ⟨Nat.le_of_ble_eq_true rfl, Nat.le_of_ble_eq_true rfl⟩, hB _ lk_458, hB _ lk_459⟩ ⟨bl_, va_recv (ci := 4) (q0 := 4) hK hP rfl rfl, pre_ hP hK hD hN⟩ rfl rfl hl.1 rfl (lv_room (Nat.le_of_ble_eq_true rfl)) nd_F_mmap_14 ⟨Nat.zero_le _, Nat.zero_le _⟩) hD hS hA (fun H locs hP hD hS => ?_)
    refine lv_if_eq (tgt := 30) hx hb nd_F_mmap_17 (by decide) (fun hc => ?_) (fun hc => ?_)
    · have hf := mi_if_t hc hf
      refine lv_aload_n hx hb nd_F_mmap_30 rfl (lv_at hl 0 rfl) ?_
      refine va_get (D := (dC, dI)) (ci := 5) (v := .ref (q 4)) (C := RX5) (T := TX5) (N := 5) hx hb hB inB5 hown hK hP 0 rfl rfl 3 (by decide) (hB _ lk_116) (fun _ h9 => h9) rfl nd_F_mmap_31 ?_
      refine lv_iload_n hx hb nd_F_mmap_34 rfl (lv_at hl 1 rfl) ?_
      refine lv_iload_n hx hb nd_F_mmap_35 rfl (lv_at hl 2 rfl) ?_
      refine lv_iload_n hx hb nd_F_mmap_36 rfl (lv_at hl 3 rfl) ?_
      obtain ⟨σ2, hc, hf⟩ := mi_cv_el hf
      refine ca_v (va_runV (C := "MovedFrames$Spaces") (As := [.int z1, .int z2, .int z3]) (rest := []) ⟨hx, hb, hml, hown, hB⟩ (kw_Spaces_putInRegion l dC dI q cI cZ _ σ z1 z2 z3 σ2 hc) ⟨callB_of 3 hB (gi_ lk_469) rfl rfl rfl (hB _ lk_5) (hB _ lk_466) (by decide +kernel) ⟨Nat.le_of_ble_eq_true rfl, Nat.le_of_ble_eq_true rfl⟩, hB _ lk_467, hB _ lk_468⟩ ⟨bl_, va_recv (ci := 4) (q0 := 4) hK hP rfl rfl, pre_ hP hK hD hN⟩ rfl rfl hl.1 rfl (lv_room (Nat.le_of_ble_eq_true rfl)) nd_F_mmap_37 ⟨Nat.zero_le _, Nat.zero_le _⟩) hD hS hA (fun H locs hP hD hS => ?_)
      exact re_v hx hb hr hlocks ((mi_t3 hf).2.2) hP hK hD hS nd_F_mmap_40
    · have hf := mi_if_f hc hf
      exact absurd (mi_t3 hf).2.1 (by decide)
  · exact absurd (congrArg (fun z => z.2.1) hf).symm h9
abbrev rt_F_mmap : Room := { frames := 8, cells := 1, slots := 6, locals := 134 }
set_option maxHeartbeats 4000000 in
set_option maxRecDepth 100000 in
theorem kt_F_mmap (l : Launch) (dC : Nat → ClassId) (dI : Nat → Nat → Nat) (q : Nat → Nat) (cI cZ : ClassId) (sz : Nat) (σ : CS) (z1 : Int32) (z2 : Int32) (z3 : Int32) (v : Int32) (n : Nat) (σ' : CS) (htr : l.stackTraces = false) (hn : ¬ n = 0) (hf : mc_mmap σ z1 z2 z3 = some (v, n, σ')) : vx_Met l ny_F_mmap nw_F_mmap rt_F_mmap (va_Pc [.ref (q 0), .int z1, .int z2, .int z3] (prx_ (dC, dI) (wd_C q cI cZ) [(cI, .int), (cZ, .boolean)] sz σ)) (fv_ (dC, dI) (wd_C q cI cZ) [(cI, .int), (cZ, .boolean)] (va_A (wd_C q cI cZ σ) sz)) (xx_ (dC, dI) (wd_C q cI cZ) [(cI, .int), (cZ, .boolean)] (va_A (wd_C q cI cZ σ) sz) n σ') 1 6 (va_A (wd_C q cI cZ σ) sz) := by
  refine vx_ofW (cc := nb_F_mmap) (maxL := 4) (ret := none) (by decide) rfl ?_
  intro p e s m args below meth c s₁ B hml hno hv
  obtain ⟨rfl, ⟨hsz, hP, hK, hD0, hN⟩, hT, hZ⟩ := hv
  have hx := B.exec
  have hb := B.bytes
  have hr := B.returns
  have hts := atoms_spec (ws := nw_F_mmap) B.pre
  have hB : ∀ w ∈ BG, w.before ([.ref (q 0), .int z1, .int z2, .int z3] : List Value).toArray s = true := fun w h => hts w (List.mem_cons_of_mem _ h)
  have hown : s.vm.findClass "MovedFrames" = some m.cls := findClass_of_methodNamed B.named
  have hlocks := B.notSynchronized
  subst hsz
  have hD := hD0.self (sz := s.heap.size)
  generalize hAe : va_A (wd_C q cI cZ σ) s.heap.size = A at hD hZ ⊢
  have hA : ∀ q : Nat, s.heap.size ≤ q → A q := fun q h => by rw [← hAe]; exact Or.inr h
  have hS : va_S A s.heap s.heap [] := va_S.rf
  have hl := lv_entry ([.ref (q 0), .int z1, .int z2, .int z3]) (n := 4) (Nat.le_of_ble_eq_true rfl)
  rw [lg_entry_eq]
  generalize (lg_sl ([.ref (q 0), .int z1, .int z2, .int z3]) ++ List.replicate (4 - (lg_sl ([.ref (q 0), .int z1, .int z2, .int z3])).length) Slot.unset).toArray = ls at hl ⊢
  have hl : lv_has ls 4 [(0, .ref (q 0)), (1, .int z1), (2, .int z2), (3, .int z3)] := hl
  have hH : s.heap = s.heap := rfl
  unfold mc_mmap at hf
  refine lv_aload_n hx hb nd_F_mmap_0 rfl (lv_at hl 0 rfl) ?_
  refine lv_iload_n hx hb nd_F_mmap_1 rfl (lv_at hl 1 rfl) ?_
  refine lv_iload_n hx hb nd_F_mmap_2 rfl (lv_at hl 2 rfl) ?_
  refine lv_iload_n hx hb nd_F_mmap_3 rfl (lv_at hl 3 rfl) ?_
  obtain ⟨r3, n9, hc, hq⟩ := mi_tq_el hf
  rcases hq with ⟨h9, hf⟩ | ⟨h9, hf⟩
  · subst h9
    refine ca_v (va_runV (C := "MovedFrames") (As := [.int z1, .int z2, .int z3]) (rest := []) ⟨hx, hb, hml, hown, hB⟩ (kw_F_checkPages l dC dI q cI cZ _ σ z1 z2 z3 r3 hc) ⟨callB_of 3 hB (gi_ lk_449) rfl rfl rfl (hB _ lk_1) (hB _ lk_446) (by decide +kernel) ⟨Nat.le_of_ble_eq_true rfl, Nat.le_of_ble_eq_true rfl⟩, hB _ lk_448, hB _ ls_13⟩ ⟨bl_, va_recv (ci := 5) (q0 := 0) hK hP rfl rfl, pre_ hP hK hD hN⟩ rfl rfl hl.1 rfl (lv_room (Nat.le_of_ble_eq_true rfl)) nd_F_mmap_4 ⟨Nat.zero_le _, Nat.zero_le _⟩) hD hS hA (fun H locs hP hD hS => ?_)
    refine lv_aload_n hx hb nd_F_mmap_7 rfl (lv_at hl 0 rfl) ?_
    refine va_get (D := (dC, dI)) (ci := 5) (v := .ref (q 4)) (C := RX5) (T := TX5) (N := 5) hx hb hB inB5 hown hK hP 0 rfl rfl 3 (by decide) (hB _ lk_116) (fun _ h9 => h9) rfl nd_F_mmap_8 ?_
    refine lv_iload_n hx hb nd_F_mmap_11 rfl (lv_at hl 1 rfl) ?_
    refine lv_iload_n hx hb nd_F_mmap_12 rfl (lv_at hl 2 rfl) ?_
    refine lv_iload_n hx hb nd_F_mmap_13 rfl (lv_at hl 3 rfl) ?_
    obtain ⟨r1, hc, hf⟩ := mi_cp_el hf
    refine ca_i (va_runV (C := "MovedFrames$Spaces") (As := [.int z1, .int z2, .int z3]) (rest := []) ⟨hx, hb, hml, hown, hB⟩ (kw_Spaces_anyInRegion l dC dI q cI cZ _ σ z1 z2 z3 r1 hc) ⟨callB_of 3 hB (gi_ lk_460) rfl rfl rfl (hB _ lk_5) (hB _ lk_457) (by decide +kernel) ⟨Nat.le_of_ble_eq_true rfl, Nat.le_of_ble_eq_true rfl⟩, hB _ lk_458, hB _ lk_459⟩ ⟨bl_, va_recv (ci := 4) (q0 := 4) hK hP rfl rfl, pre_ hP hK hD hN⟩ rfl rfl hl.1 rfl (lv_room (Nat.le_of_ble_eq_true rfl)) nd_F_mmap_14 ⟨Nat.zero_le _, Nat.zero_le _⟩) hD hS hA (fun H locs hP hD hS => ?_)
    refine lv_if_eq (tgt := 30) hx hb nd_F_mmap_17 (by decide) (fun hc => ?_) (fun hc => ?_)
    · have hf := mi_if_t hc hf
      refine lv_aload_n hx hb nd_F_mmap_30 rfl (lv_at hl 0 rfl) ?_
      refine va_get (D := (dC, dI)) (ci := 5) (v := .ref (q 4)) (C := RX5) (T := TX5) (N := 5) hx hb hB inB5 hown hK hP 0 rfl rfl 3 (by decide) (hB _ lk_116) (fun _ h9 => h9) rfl nd_F_mmap_31 ?_
      refine lv_iload_n hx hb nd_F_mmap_34 rfl (lv_at hl 1 rfl) ?_
      refine lv_iload_n hx hb nd_F_mmap_35 rfl (lv_at hl 2 rfl) ?_
      refine lv_iload_n hx hb nd_F_mmap_36 rfl (lv_at hl 3 rfl) ?_
      obtain ⟨σ2, hc, hf⟩ := mi_cv_el hf
      refine ca_v (va_runV (C := "MovedFrames$Spaces") (As := [.int z1, .int z2, .int z3]) (rest := []) ⟨hx, hb, hml, hown, hB⟩ (kw_Spaces_putInRegion l dC dI q cI cZ _ σ z1 z2 z3 σ2 hc) ⟨callB_of 3 hB (gi_ lk_469) rfl rfl rfl (hB _ lk_5) (hB _ lk_466) (by decide +kernel) ⟨Nat.le_of_ble_eq_true rfl, Nat.le_of_ble_eq_true rfl⟩, hB _ lk_467, hB _ lk_468⟩ ⟨bl_, va_recv (ci := 4) (q0 := 4) hK hP rfl rfl, pre_ hP hK hD hN⟩ rfl rfl hl.1 rfl (lv_room (Nat.le_of_ble_eq_true rfl)) nd_F_mmap_37 ⟨Nat.zero_le _, Nat.zero_le _⟩) hD hS hA (fun H locs hP hD hS => ?_)
      exact absurd (mi_t3 hf).2.1.symm hn
    · have hf := mi_if_f hc hf
      have hm := mi_t3 hf
      exact th_ (text := "a page is in a region already") hx hb htr hown (by decide) (by decide) (hB _ lk_224) (hB _ lk_11) hT.2.2.2.2.2.2.2.1 (sa_MovedFrames_52 hB hT) sg_MovedFrames_52 hZ hP hK hD hS (hl.1.trans hml.symm) nd_F_mmap_20 nd_F_mmap_23 nd_F_mmap_24 nd_F_mmap_26 nd_F_mmap_29 hno (Nat.le_of_ble_eq_true rfl) (Nat.le_of_ble_eq_true rfl) (Nat.le_of_ble_eq_true rfl) (Nat.le_of_ble_eq_true rfl) hlocks hn (by rw [← hm.2.1]; rfl) hm.2.2
  · obtain ⟨-, hm, hs9⟩ := mi_t3 (congrArg some hf)
    have hm := hm.symm
    subst hm
    have hs9 := hs9.symm
    subst hs9
    exact cx_v (vx_runV (C := "MovedFrames") (As := [.int z1, .int z2, .int z3]) (rest := []) ⟨hx, hb, hml, hown, hB⟩ (kt_F_checkPages l dC dI q cI cZ _ σ z1 z2 z3 r3 n9 htr h9 hc) ⟨callB_of 3 hB (gi_ lk_449) rfl rfl rfl (hB _ lk_1) (hB _ lk_446) (by decide +kernel) ⟨Nat.le_of_ble_eq_true rfl, Nat.le_of_ble_eq_true rfl⟩, hB _ lk_448, hB _ ls_13⟩ ⟨blx_, va_recv (ci := 5) (q0 := 0) hK hP rfl rfl, prex_ hP hK hD hN hT hZ hS hA⟩ rfl rfl hl.1 rfl (lv_room (Nat.le_of_ble_eq_true rfl)) nd_F_mmap_4 ⟨Nat.le_of_ble_eq_true rfl, Nat.le_of_ble_eq_true rfl⟩) hno hlocks hK hD hS hA
abbrev rm_Spaces_rootEntry : Room := { frames := 0, cells := 0, slots := 0, locals := 0 }
set_option maxHeartbeats 4000000 in
set_option maxRecDepth 100000 in
theorem kw_Spaces_rootEntry (l : Launch) (dC : Nat → ClassId) (dI : Nat → Nat → Nat) (q : Nat → Nat) (cI cZ : ClassId) (sz : Nat) (σ : CS) (z1 : Int32) (z2 : Int32) (v : Int32) (hf : mc_Spaces_rootEntry σ z1 z2 = some v) : Met l ny_Spaces_rootEntry nw_Spaces_rootEntry rm_Spaces_rootEntry (va_Pc [.ref (q 4), .int z1, .int z2] (pr_ (dC, dI) (wd_C q cI cZ) [(cI, .int), (cZ, .boolean)] sz σ)) (qi_ (dC, dI) (wd_C q cI cZ) [(cI, .int), (cZ, .boolean)] (va_A (wd_C q cI cZ σ) sz) v σ) 0 0 (va_A (wd_C q cI cZ σ) sz) := by
  refine Met.ofW (cc := nb_Spaces_rootEntry) (maxL := 3) (ret := (some .int)) (by decide) rfl ?_
  intro p e s m args below meth c s₁ B hml hv
  obtain ⟨rfl, hsz, hP, hK, hD0, hN⟩ := hv
  have hx := B.exec
  have hb := B.bytes
  have hr := B.returns
  have hts := atoms_spec (ws := nw_Spaces_rootEntry) B.pre
  have hB : ∀ w ∈ BG, w.before ([.ref (q 4), .int z1, .int z2] : List Value).toArray s = true := fun w h => hts w (List.mem_cons_of_mem _ h)
  have hown : s.vm.findClass "MovedFrames$Spaces" = some m.cls := findClass_of_methodNamed B.named
  have hlocks := B.notSynchronized
  subst hsz
  have hD := hD0.self (sz := s.heap.size)
  generalize hAe : va_A (wd_C q cI cZ σ) s.heap.size = A at hD ⊢
  have hA : ∀ q : Nat, s.heap.size ≤ q → A q := fun q h => by rw [← hAe]; exact Or.inr h
  have hS : va_S A s.heap s.heap [] := va_S.rf
  have hl := lv_entry ([.ref (q 4), .int z1, .int z2]) (n := 3) (Nat.le_of_ble_eq_true rfl)
  rw [lg_entry_eq]
  generalize (lg_sl ([.ref (q 4), .int z1, .int z2]) ++ List.replicate (3 - (lg_sl ([.ref (q 4), .int z1, .int z2])).length) Slot.unset).toArray = ls at hl ⊢
  have hl : lv_has ls 3 [(0, .ref (q 4)), (1, .int z1), (2, .int z2)] := hl
  have hH : s.heap = s.heap := rfl
  unfold mc_Spaces_rootEntry at hf
  refine lv_aload_n hx hb nd_Spaces_rootEntry_0 rfl (lv_at hl 0 rfl) ?_
  refine va_get (D := (dC, dI)) (ci := 4) (v := .ref (q 12)) (C := RX4) (T := TX4) (N := 4) hx hb hB inB4 hown hK hP 4 rfl rfl 1 (by decide) (hB _ lk_81) (fun _ h9 => h9) rfl nd_Spaces_rootEntry_1 ?_
  refine lv_iload_n hx hb nd_Spaces_rootEntry_4 rfl (lv_at hl 1 rfl) ?_
  obtain ⟨hg, hf⟩ := mi_gd_el hf
  refine va_iald hx hb hK hP 12 0 rfl rfl hg nd_Spaces_rootEntry_5 ?_
  refine lv_iconst (v := 1) hx hb nd_Spaces_rootEntry_6 (by decide) ?_
  refine lv_isub hx hb nd_Spaces_rootEntry_7 ?_
  refine lv_bipush (v := 16) hx hb nd_Spaces_rootEntry_8 (by decide) ?_
  refine lv_imul hx hb nd_Spaces_rootEntry_10 ?_
  refine lv_iload_n hx hb nd_Spaces_rootEntry_11 rfl (lv_at hl 2 rfl) ?_
  refine lv_bipush (v := 16) hx hb nd_Spaces_rootEntry_12 (by decide) ?_
  refine lv_idiv hx hb nd_Spaces_rootEntry_14 (by decide) ?_
  refine lv_iadd hx hb nd_Spaces_rootEntry_15 ?_
  exact re_i hx hb hr hlocks (mi_eq hf) (rfl) hP hK hD hS nd_Spaces_rootEntry_16
abbrev rm_Spaces_tableOf : Room := { frames := 1, cells := 0, slots := 0, locals := 22 }
set_option maxHeartbeats 4000000 in
set_option maxRecDepth 100000 in
theorem kw_Spaces_tableOf (l : Launch) (dC : Nat → ClassId) (dI : Nat → Nat → Nat) (q : Nat → Nat) (cI cZ : ClassId) (sz : Nat) (σ : CS) (z1 : Int32) (z2 : Int32) (v : Int32) (hf : mc_Spaces_tableOf σ z1 z2 = some v) : Met l ny_Spaces_tableOf nw_Spaces_tableOf rm_Spaces_tableOf (va_Pc [.ref (q 4), .int z1, .int z2] (pr_ (dC, dI) (wd_C q cI cZ) [(cI, .int), (cZ, .boolean)] sz σ)) (qi_ (dC, dI) (wd_C q cI cZ) [(cI, .int), (cZ, .boolean)] (va_A (wd_C q cI cZ σ) sz) v σ) 0 0 (va_A (wd_C q cI cZ σ) sz) := by
  refine Met.ofW (cc := nb_Spaces_tableOf) (maxL := 3) (ret := (some .int)) (by decide) rfl ?_
  intro p e s m args below meth c s₁ B hml hv
  obtain ⟨rfl, hsz, hP, hK, hD0, hN⟩ := hv
  have hx := B.exec
  have hb := B.bytes
  have hr := B.returns
  have hts := atoms_spec (ws := nw_Spaces_tableOf) B.pre
  have hB : ∀ w ∈ BG, w.before ([.ref (q 4), .int z1, .int z2] : List Value).toArray s = true := fun w h => hts w (List.mem_cons_of_mem _ h)
  have hown : s.vm.findClass "MovedFrames$Spaces" = some m.cls := findClass_of_methodNamed B.named
  have hlocks := B.notSynchronized
  subst hsz
  have hD := hD0.self (sz := s.heap.size)
  generalize hAe : va_A (wd_C q cI cZ σ) s.heap.size = A at hD ⊢
  have hA : ∀ q : Nat, s.heap.size ≤ q → A q := fun q h => by rw [← hAe]; exact Or.inr h
  have hS : va_S A s.heap s.heap [] := va_S.rf
  have hl := lv_entry ([.ref (q 4), .int z1, .int z2]) (n := 3) (Nat.le_of_ble_eq_true rfl)
  rw [lg_entry_eq]
  generalize (lg_sl ([.ref (q 4), .int z1, .int z2]) ++ List.replicate (3 - (lg_sl ([.ref (q 4), .int z1, .int z2])).length) Slot.unset).toArray = ls at hl ⊢
  have hl : lv_has ls 3 [(0, .ref (q 4)), (1, .int z1), (2, .int z2)] := hl
  have hH : s.heap = s.heap := rfl
  unfold mc_Spaces_tableOf at hf
  refine lv_aload_n hx hb nd_Spaces_tableOf_0 rfl (lv_at hl 0 rfl) ?_
  refine lv_iload_n hx hb nd_Spaces_tableOf_1 rfl (lv_at hl 1 rfl) ?_
  obtain ⟨r1, hc, hf⟩ := mi_cp_el hf
  refine ca_i (va_runV (C := "MovedFrames$Spaces") (As := [.int z1]) (rest := []) ⟨hx, hb, hml, hown, hB⟩ (kw_Spaces_isThere l dC dI q cI cZ _ σ z1 r1 hc) ⟨callB_of 1 hB (gi_ lk_159) rfl rfl rfl (hB _ lk_5) (hB _ lk_156) (by decide +kernel) ⟨Nat.le_of_ble_eq_true rfl, Nat.le_of_ble_eq_true rfl⟩, hB _ lk_157, hB _ lk_158⟩ ⟨bl_, va_recv (ci := 4) (q0 := 4) hK hP rfl rfl, pre_ hP hK hD hN⟩ rfl rfl hl.1 rfl (lv_room (Nat.le_of_ble_eq_true rfl)) nd_Spaces_tableOf_2 ⟨Nat.zero_le _, Nat.zero_le _⟩) hD hS hA (fun H locs hP hD hS => ?_)
  refine lv_if_eq (tgt := 15) hx hb nd_Spaces_tableOf_5 (by decide) (fun hc => ?_) (fun hc => ?_)
  · have hf := mi_if_t hc hf
    refine lv_iconst (v := (-1)) hx hb nd_Spaces_tableOf_15 (by decide) ?_
    exact re_i hx hb hr hlocks (mi_eq hf) (rfl) hP hK hD hS nd_Spaces_tableOf_16
  · have hf := mi_if_f hc hf
    refine lv_iload_n hx hb nd_Spaces_tableOf_8 rfl (lv_at hl 2 rfl) ?_
    obtain ⟨r2, hc, hf⟩ := mi_cp_el hf
    refine ca_i (va_runS (As := [.int z2]) (rest := []) ⟨hx, hb, hml, hown, hB⟩ (kw_Spaces_isPage l dC dI q cI cZ _ σ z2 r2 hc) ⟨callB_of 1 hB (gi_ lk_162) rfl rfl rfl (hB _ lk_5) (hB _ lk_160) (by decide +kernel) ⟨Nat.le_of_ble_eq_true rfl, Nat.le_of_ble_eq_true rfl⟩, hB _ lk_161⟩ ⟨bl_, pre_ hP hK hD hN⟩ rfl rfl hl.1 rfl (lv_room (Nat.le_of_ble_eq_true rfl)) nd_Spaces_tableOf_9 ⟨Nat.zero_le _, Nat.zero_le _⟩) hD hS hA (fun H locs hP hD hS => ?_)
    refine lv_if_ne (tgt := 17) hx hb nd_Spaces_tableOf_12 (by decide) (fun hc => ?_) (fun hc => ?_)
    · have hf := mi_if_f hc hf
      refine lv_aload_n hx hb nd_Spaces_tableOf_17 rfl (lv_at hl 0 rfl) ?_
      refine va_get (D := (dC, dI)) (ci := 4) (v := .ref (q 1)) (C := RX4) (T := TX4) (N := 4) hx hb hB inB4 hown hK hP 4 rfl rfl 0 (by decide) (hB _ lk_80) (fun _ h9 => h9) rfl nd_Spaces_tableOf_18 ?_
      refine lv_aload_n hx hb nd_Spaces_tableOf_21 rfl (lv_at hl 0 rfl) ?_
      refine lv_iload_n hx hb nd_Spaces_tableOf_22 rfl (lv_at hl 1 rfl) ?_
      refine lv_iload_n hx hb nd_Spaces_tableOf_23 rfl (lv_at hl 2 rfl) ?_
      obtain ⟨r3, hc, hf⟩ := mi_cp_el hf
      refine ca_i (va_runV (C := "MovedFrames$Spaces") (As := [.int z1, .int z2]) (rest := [.ref (q 1)]) ⟨hx, hb, hml, hown, hB⟩ (kw_Spaces_rootEntry l dC dI q cI cZ _ σ z1 z2 r3 hc) ⟨callB_of 2 hB (gi_ lk_166) rfl rfl rfl (hB _ lk_5) (hB _ lk_163) (by decide +kernel) ⟨Nat.le_of_ble_eq_true rfl, Nat.le_of_ble_eq_true rfl⟩, hB _ lk_165, hB _ ls_1⟩ ⟨bl_, va_recv (ci := 4) (q0 := 4) hK hP rfl rfl, pre_ hP hK hD hN⟩ rfl rfl hl.1 rfl (lv_room (Nat.le_of_ble_eq_true rfl)) nd_Spaces_tableOf_24 ⟨Nat.zero_le _, Nat.zero_le _⟩) hD hS hA (fun H locs hP hD hS => ?_)
      obtain ⟨r4, hc, hf⟩ := mi_cp_el hf
      refine ca_i (va_runV (C := "MovedFrames$Frames") (As := [.int r3]) (rest := []) ⟨hx, hb, hml, hown, hB⟩ (kw_Frames_read l dC dI q cI cZ _ σ r3 r4 hc) ⟨callB_of 1 hB (gi_ lk_170) rfl rfl rfl (hB _ lk_2) (hB _ lk_167) (by decide +kernel) ⟨Nat.le_of_ble_eq_true rfl, Nat.le_of_ble_eq_true rfl⟩, hB _ lk_168, hB _ lk_169⟩ ⟨bl_, va_recv (ci := 0) (q0 := 1) hK hP rfl rfl, pre_ hP hK hD hN⟩ rfl rfl hl.1 rfl (lv_room (Nat.le_of_ble_eq_true rfl)) nd_Spaces_tableOf_27 ⟨Nat.zero_le _, Nat.zero_le _⟩) hD hS hA (fun H locs hP hD hS => ?_)
      refine lv_iconst (v := 1) hx hb nd_Spaces_tableOf_30 (by decide) ?_
      refine lv_isub hx hb nd_Spaces_tableOf_31 ?_
      exact re_i hx hb hr hlocks (mi_eq hf) (rfl) hP hK hD hS nd_Spaces_tableOf_32
    · have hf := mi_if_t hc hf
      refine lv_iconst (v := (-1)) hx hb nd_Spaces_tableOf_15 (by decide) ?_
      exact re_i hx hb hr hlocks (mi_eq hf) (rfl) hP hK hD hS nd_Spaces_tableOf_16
abbrev rm_Spaces_frameOf : Room := { frames := 2, cells := 0, slots := 0, locals := 44 }
set_option maxHeartbeats 4000000 in
set_option maxRecDepth 100000 in
theorem kw_Spaces_frameOf (l : Launch) (dC : Nat → ClassId) (dI : Nat → Nat → Nat) (q : Nat → Nat) (cI cZ : ClassId) (sz : Nat) (σ : CS) (z1 : Int32) (z2 : Int32) (v : Int32) (hf : mc_Spaces_frameOf σ z1 z2 = some v) : Met l ny_Spaces_frameOf nw_Spaces_frameOf rm_Spaces_frameOf (va_Pc [.ref (q 4), .int z1, .int z2] (pr_ (dC, dI) (wd_C q cI cZ) [(cI, .int), (cZ, .boolean)] sz σ)) (qi_ (dC, dI) (wd_C q cI cZ) [(cI, .int), (cZ, .boolean)] (va_A (wd_C q cI cZ σ) sz) v σ) 0 0 (va_A (wd_C q cI cZ σ) sz) := by
  refine Met.ofW (cc := nb_Spaces_frameOf) (maxL := 4) (ret := (some .int)) (by decide) rfl ?_
  intro p e s m args below meth c s₁ B hml hv
  obtain ⟨rfl, hsz, hP, hK, hD0, hN⟩ := hv
  have hx := B.exec
  have hb := B.bytes
  have hr := B.returns
  have hts := atoms_spec (ws := nw_Spaces_frameOf) B.pre
  have hB : ∀ w ∈ BG, w.before ([.ref (q 4), .int z1, .int z2] : List Value).toArray s = true := fun w h => hts w (List.mem_cons_of_mem _ h)
  have hown : s.vm.findClass "MovedFrames$Spaces" = some m.cls := findClass_of_methodNamed B.named
  have hlocks := B.notSynchronized
  subst hsz
  have hD := hD0.self (sz := s.heap.size)
  generalize hAe : va_A (wd_C q cI cZ σ) s.heap.size = A at hD ⊢
  have hA : ∀ q : Nat, s.heap.size ≤ q → A q := fun q h => by rw [← hAe]; exact Or.inr h
  have hS : va_S A s.heap s.heap [] := va_S.rf
  have hl := lv_entry ([.ref (q 4), .int z1, .int z2]) (n := 4) (Nat.le_of_ble_eq_true rfl)
  rw [lg_entry_eq]
  generalize (lg_sl ([.ref (q 4), .int z1, .int z2]) ++ List.replicate (4 - (lg_sl ([.ref (q 4), .int z1, .int z2])).length) Slot.unset).toArray = ls at hl ⊢
  have hl : lv_has ls 4 [(0, .ref (q 4)), (1, .int z1), (2, .int z2)] := hl
  have hH : s.heap = s.heap := rfl
  unfold mc_Spaces_frameOf at hf
  refine lv_aload_n hx hb nd_Spaces_frameOf_0 rfl (lv_at hl 0 rfl) ?_
  refine lv_iload_n hx hb nd_Spaces_frameOf_1 rfl (lv_at hl 1 rfl) ?_
  refine lv_iload_n hx hb nd_Spaces_frameOf_2 rfl (lv_at hl 2 rfl) ?_
  obtain ⟨r1, hc, hf⟩ := mi_cp_el hf
  refine ca_i (va_runV (C := "MovedFrames$Spaces") (As := [.int z1, .int z2]) (rest := []) ⟨hx, hb, hml, hown, hB⟩ (kw_Spaces_tableOf l dC dI q cI cZ _ σ z1 z2 r1 hc) ⟨callB_of 2 hB (gi_ lk_155) rfl rfl rfl (hB _ lk_5) (hB _ lk_152) (by decide +kernel) ⟨Nat.le_of_ble_eq_true rfl, Nat.le_of_ble_eq_true rfl⟩, hB _ lk_154, hB _ ls_0⟩ ⟨bl_, va_recv (ci := 4) (q0 := 4) hK hP rfl rfl, pre_ hP hK hD hN⟩ rfl rfl hl.1 rfl (lv_room (Nat.le_of_ble_eq_true rfl)) nd_Spaces_frameOf_3 ⟨Nat.zero_le _, Nat.zero_le _⟩) hD hS hA (fun H locs hP hD hS => ?_)
  refine lv_istore_n (lv' := [(3, .int r1), (0, .ref (q 4)), (1, .int z1), (2, .int z2)]) hx hb nd_Spaces_frameOf_6 rfl hl (by decide) rfl (fun ls hl => ?_)
  refine lv_iload_n hx hb nd_Spaces_frameOf_7 rfl (lv_at hl 0 rfl) ?_
  refine lv_iconst (v := (-1)) hx hb nd_Spaces_frameOf_8 (by decide) ?_
  refine lv_icmp_ne (tgt := 16) hx hb nd_Spaces_frameOf_9 (by decide) (fun hc => ?_) (fun hc => ?_)
  · have hf := mi_if_f hc hf
    refine lv_aload_n hx hb nd_Spaces_frameOf_16 rfl (lv_at hl 1 rfl) ?_
    refine va_get (D := (dC, dI)) (ci := 4) (v := .ref (q 1)) (C := RX4) (T := TX4) (N := 4) hx hb hB inB4 hown hK hP 4 rfl rfl 0 (by decide) (hB _ lk_80) (fun _ h9 => h9) rfl nd_Spaces_frameOf_17 ?_
    refine lv_iload_n hx hb nd_Spaces_frameOf_20 rfl (lv_at hl 0 rfl) ?_
    refine lv_bipush (v := 16) hx hb nd_Spaces_frameOf_21 (by decide) ?_
    refine lv_imul hx hb nd_Spaces_frameOf_23 ?_
    refine lv_iload_n hx hb nd_Spaces_frameOf_24 rfl (lv_at hl 3 rfl) ?_
    refine lv_bipush (v := 16) hx hb nd_Spaces_frameOf_25 (by decide) ?_
    refine lv_irem hx hb nd_Spaces_frameOf_27 (by decide) ?_
    refine lv_iadd hx hb nd_Spaces_frameOf_28 ?_
    obtain ⟨r2, hc, hf⟩ := mi_cp_el hf
    refine ca_i (va_runV (C := "MovedFrames$Frames") (As := [.int ((r1 * (16 : Int32)) + (z2 - z2 / (16 : Int32) * (16 : Int32)))]) (rest := []) ⟨hx, hb, hml, hown, hB⟩ (kw_Frames_read l dC dI q cI cZ _ σ ((r1 * (16 : Int32)) + (z2 - z2 / (16 : Int32) * (16 : Int32))) r2 hc) ⟨callB_of 1 hB (gi_ lk_170) rfl rfl rfl (hB _ lk_2) (hB _ lk_167) (by decide +kernel) ⟨Nat.le_of_ble_eq_true rfl, Nat.le_of_ble_eq_true rfl⟩, hB _ lk_168, hB _ lk_169⟩ ⟨bl_, va_recv (ci := 0) (q0 := 1) hK hP rfl rfl, pre_ hP hK hD hN⟩ rfl rfl hl.1 rfl (lv_room (Nat.le_of_ble_eq_true rfl)) nd_Spaces_frameOf_29 ⟨Nat.zero_le _, Nat.zero_le _⟩) hD hS hA (fun H locs hP hD hS => ?_)
    refine lv_iconst (v := 1) hx hb nd_Spaces_frameOf_32 (by decide) ?_
    refine lv_isub hx hb nd_Spaces_frameOf_33 ?_
    exact re_i hx hb hr hlocks (mi_eq hf) (rfl) hP hK hD hS nd_Spaces_frameOf_34
  · have hf := mi_if_t hc hf
    refine lv_iconst (v := (-1)) hx hb nd_Spaces_frameOf_12 (by decide) ?_
    refine lv_goto (tgt := 34) hx hb nd_Spaces_frameOf_13 (by decide) ?_
    exact re_i hx hb hr hlocks (mi_eq hf) (rfl) hP hK hD hS nd_Spaces_frameOf_34
abbrev rm_Spaces_isEmptyTable : Room := { frames := 1, cells := 0, slots := 0, locals := 21 }
set_option maxHeartbeats 4000000 in
set_option maxRecDepth 100000 in
theorem kw_Spaces_isEmptyTable (l : Launch) (dC : Nat → ClassId) (dI : Nat → Nat → Nat) (q : Nat → Nat) (cI cZ : ClassId) (sz : Nat) (σ : CS) (z1 : Int32) (v : Int32) (hf : mc_Spaces_isEmptyTable σ z1 = some v) : Met l ny_Spaces_isEmptyTable nw_Spaces_isEmptyTable rm_Spaces_isEmptyTable (va_Pc [.ref (q 4), .int z1] (pr_ (dC, dI) (wd_C q cI cZ) [(cI, .int), (cZ, .boolean)] sz σ)) (qi_ (dC, dI) (wd_C q cI cZ) [(cI, .int), (cZ, .boolean)] (va_A (wd_C q cI cZ σ) sz) v σ) 0 0 (va_A (wd_C q cI cZ σ) sz) := by
  refine Met.ofW (cc := nb_Spaces_isEmptyTable) (maxL := 3) (ret := (some .boolean)) (by decide) rfl ?_
  intro p e s m args below meth c s₁ B hml hv
  obtain ⟨rfl, hsz, hP, hK, hD0, hN⟩ := hv
  have hx := B.exec
  have hb := B.bytes
  have hr := B.returns
  have hts := atoms_spec (ws := nw_Spaces_isEmptyTable) B.pre
  have hB : ∀ w ∈ BG, w.before ([.ref (q 4), .int z1] : List Value).toArray s = true := fun w h => hts w (List.mem_cons_of_mem _ h)
  have hown : s.vm.findClass "MovedFrames$Spaces" = some m.cls := findClass_of_methodNamed B.named
  have hlocks := B.notSynchronized
  subst hsz
  have hD := hD0.self (sz := s.heap.size)
  generalize hAe : va_A (wd_C q cI cZ σ) s.heap.size = A at hD ⊢
  have hA : ∀ q : Nat, s.heap.size ≤ q → A q := fun q h => by rw [← hAe]; exact Or.inr h
  have hS : va_S A s.heap s.heap [] := va_S.rf
  have hl := lv_entry ([.ref (q 4), .int z1]) (n := 3) (Nat.le_of_ble_eq_true rfl)
  rw [lg_entry_eq]
  generalize (lg_sl ([.ref (q 4), .int z1]) ++ List.replicate (3 - (lg_sl ([.ref (q 4), .int z1])).length) Slot.unset).toArray = ls at hl ⊢
  have hl : lv_has ls 3 [(0, .ref (q 4)), (1, .int z1)] := hl
  have B2 : ∀ (k2 : Int32 → Int32 → CS → Option (Int32)) (hk2 : ∀ (x1 : Int32) (x2 : Int32), k2 x1 x2 σ = some v → bk_ p l e rm_Spaces_isEmptyTable s m ([.ref (q 4), .int z1] : List Value).toArray below meth c (MQ below (qi_ (dC, dI) (wd_C q cI cZ) [(cI, .int), (cZ, .boolean)] A v σ) ([.ref (q 4), .int z1] : List Value).toArray s 0 0 A) A (dC, dI) (wd_C q cI cZ) 3 2 [(0, .ref (q 4)), (1, .int x1), (2, .int x2)] [] σ) (x1 : Int32) (x2 : Int32), mc_Spaces_isEmptyTable_b2 k2 x1 x2 σ = some v → bk_ p l e rm_Spaces_isEmptyTable s m ([.ref (q 4), .int z1] : List Value).toArray below meth c (MQ below (qi_ (dC, dI) (wd_C q cI cZ) [(cI, .int), (cZ, .boolean)] A v σ) ([.ref (q 4), .int z1] : List Value).toArray s 0 0 A) A (dC, dI) (wd_C q cI cZ) 3 2 [(0, .ref (q 4)), (1, .int x1), (2, .int x2)] [] σ := by
    intro k2 hk2 x1 x2 hf ls H locs hl hP hD hS
    unfold mc_Spaces_isEmptyTable_b2 at hf
    refine lv_iload_n hx hb nd_Spaces_isEmptyTable_2 rfl (lv_at hl 2 rfl) ?_
    refine lv_bipush (v := 16) hx hb nd_Spaces_isEmptyTable_3 (by decide) ?_
    refine lv_icmp_ge (tgt := 32) hx hb nd_Spaces_isEmptyTable_5 (by decide) (fun hc => ?_) (fun hc => ?_)
    · have hf := mi_if_t hc hf
      refine lv_iconst (v := 1) hx hb nd_Spaces_isEmptyTable_32 (by decide) ?_
      exact re_z hx hb hr hlocks (Or.inr rfl) (mi_eq hf) (rfl) hP hK hD hS nd_Spaces_isEmptyTable_33
    · have hf := mi_if_f hc hf
      refine lv_aload_n hx hb nd_Spaces_isEmptyTable_8 rfl (lv_at hl 0 rfl) ?_
      refine va_get (D := (dC, dI)) (ci := 4) (v := .ref (q 1)) (C := RX4) (T := TX4) (N := 4) hx hb hB inB4 hown hK hP 4 rfl rfl 0 (by decide) (hB _ lk_80) (fun _ h9 => h9) rfl nd_Spaces_isEmptyTable_9 ?_
      refine lv_iload_n hx hb nd_Spaces_isEmptyTable_12 rfl (lv_at hl 1 rfl) ?_
      refine lv_bipush (v := 16) hx hb nd_Spaces_isEmptyTable_13 (by decide) ?_
      refine lv_imul hx hb nd_Spaces_isEmptyTable_15 ?_
      refine lv_iload_n hx hb nd_Spaces_isEmptyTable_16 rfl (lv_at hl 2 rfl) ?_
      refine lv_iadd hx hb nd_Spaces_isEmptyTable_17 ?_
      obtain ⟨r1, hc, hf⟩ := mi_cp_el hf
      refine ca_i (va_runV (C := "MovedFrames$Frames") (As := [.int ((x1 * (16 : Int32)) + x2)]) (rest := []) ⟨hx, hb, hml, hown, hB⟩ (kw_Frames_read l dC dI q cI cZ _ σ ((x1 * (16 : Int32)) + x2) r1 hc) ⟨callB_of 1 hB (gi_ lk_170) rfl rfl rfl (hB _ lk_2) (hB _ lk_167) (by decide +kernel) ⟨Nat.le_of_ble_eq_true rfl, Nat.le_of_ble_eq_true rfl⟩, hB _ lk_168, hB _ lk_169⟩ ⟨bl_, va_recv (ci := 0) (q0 := 1) hK hP rfl rfl, pre_ hP hK hD hN⟩ rfl rfl hl.1 rfl (lv_room (Nat.le_of_ble_eq_true rfl)) nd_Spaces_isEmptyTable_18 ⟨Nat.zero_le _, Nat.zero_le _⟩) hD hS hA (fun H locs hP hD hS => ?_)
      refine lv_if_eq (tgt := 26) hx hb nd_Spaces_isEmptyTable_21 (by decide) (fun hc => ?_) (fun hc => ?_)
      · have hf := mi_if_t hc hf
        refine lv_iinc (k := 2) (v := x2 + (1 : Int32)) (lv' := [(2, .int (x2 + (1 : Int32))), (0, .ref (q 4)), (1, .int x1)]) hx hb nd_Spaces_isEmptyTable_26 hl rfl (congrArg (fun z => x2 + z) (by decide : Int32.ofInt 1 = (1 : Int32))) (by decide) rfl (fun ls hl => ?_)
        refine lv_goto (tgt := 2) hx hb nd_Spaces_isEmptyTable_29 (by decide) ?_
        exact hk2 x1 (x2 + (1 : Int32)) hf _ _ _ (lv_sub hl [1, 2, 0] rfl) hP hD hS
      · have hf := mi_if_f hc hf
        refine lv_iconst (v := 0) hx hb nd_Spaces_isEmptyTable_24 (by decide) ?_
        exact re_z hx hb hr hlocks (Or.inl rfl) (mi_eq hf) (rfl) hP hK hD hS nd_Spaces_isEmptyTable_25
  have L2 : ∀ (n : Nat) (x1 : Int32) (x2 : Int32), mc_Spaces_isEmptyTable_l2 n x1 x2 σ = some v → bk_ p l e rm_Spaces_isEmptyTable s m ([.ref (q 4), .int z1] : List Value).toArray below meth c (MQ below (qi_ (dC, dI) (wd_C q cI cZ) [(cI, .int), (cZ, .boolean)] A v σ) ([.ref (q 4), .int z1] : List Value).toArray s 0 0 A) A (dC, dI) (wd_C q cI cZ) 3 2 [(0, .ref (q 4)), (1, .int x1), (2, .int x2)] [] σ := by
    intro n
    induction n with
    | zero =>
      intro x1 x2 hf
      exact mi_no hf
    | succ n ih =>
      intro x1 x2 hf
      exact B2 (mc_Spaces_isEmptyTable_l2 n) ih x1 x2 hf
  have hH : s.heap = s.heap := rfl
  unfold mc_Spaces_isEmptyTable at hf
  refine lv_iconst (v := 0) hx hb nd_Spaces_isEmptyTable_0 (by decide) ?_
  refine lv_istore_n (lv' := [(2, .int (0 : Int32)), (0, .ref (q 4)), (1, .int z1)]) hx hb nd_Spaces_isEmptyTable_1 rfl hl (by decide) rfl (fun ls hl => ?_)
  exact L2 FU z1 (0 : Int32) hf _ _ _ (lv_sub hl [1, 2, 0] rfl) hP hD hS
abbrev rm_Spaces_removePage : Room := { frames := 3, cells := 0, slots := 0, locals := 67 }
set_option maxHeartbeats 4000000 in
set_option maxRecDepth 100000 in
theorem kw_Spaces_removePage (l : Launch) (dC : Nat → ClassId) (dI : Nat → Nat → Nat) (q : Nat → Nat) (cI cZ : ClassId) (sz : Nat) (σ : CS) (z1 : Int32) (z2 : Int32) (σ' : CS) (hf : mc_Spaces_removePage σ z1 z2 = some σ') : Met l ny_Spaces_removePage nw_Spaces_removePage rm_Spaces_removePage (va_Pc [.ref (q 4), .int z1, .int z2] (pr_ (dC, dI) (wd_C q cI cZ) [(cI, .int), (cZ, .boolean)] sz σ)) (qv_ (dC, dI) (wd_C q cI cZ) [(cI, .int), (cZ, .boolean)] (va_A (wd_C q cI cZ σ) sz) σ') 0 0 (va_A (wd_C q cI cZ σ) sz) := by
  refine Met.ofW (cc := nb_Spaces_removePage) (maxL := 4) (ret := none) (by decide) rfl ?_
  intro p e s m args below meth c s₁ B hml hv
  obtain ⟨rfl, hsz, hP, hK, hD0, hN⟩ := hv
  have hx := B.exec
  have hb := B.bytes
  have hr := B.returns
  have hts := atoms_spec (ws := nw_Spaces_removePage) B.pre
  have hB : ∀ w ∈ BG, w.before ([.ref (q 4), .int z1, .int z2] : List Value).toArray s = true := fun w h => hts w (List.mem_cons_of_mem _ h)
  have hown : s.vm.findClass "MovedFrames$Spaces" = some m.cls := findClass_of_methodNamed B.named
  have hlocks := B.notSynchronized
  subst hsz
  have hD := hD0.self (sz := s.heap.size)
  generalize hAe : va_A (wd_C q cI cZ σ) s.heap.size = A at hD ⊢
  have hA : ∀ q : Nat, s.heap.size ≤ q → A q := fun q h => by rw [← hAe]; exact Or.inr h
  have hS : va_S A s.heap s.heap [] := va_S.rf
  have hl := lv_entry ([.ref (q 4), .int z1, .int z2]) (n := 4) (Nat.le_of_ble_eq_true rfl)
  rw [lg_entry_eq]
  generalize (lg_sl ([.ref (q 4), .int z1, .int z2]) ++ List.replicate (4 - (lg_sl ([.ref (q 4), .int z1, .int z2])).length) Slot.unset).toArray = ls at hl ⊢
  have hl : lv_has ls 4 [(0, .ref (q 4)), (1, .int z1), (2, .int z2)] := hl
  have hH : s.heap = s.heap := rfl
  unfold mc_Spaces_removePage at hf
  refine lv_aload_n hx hb nd_Spaces_removePage_0 rfl (lv_at hl 0 rfl) ?_
  refine lv_iload_n hx hb nd_Spaces_removePage_1 rfl (lv_at hl 1 rfl) ?_
  refine lv_iload_n hx hb nd_Spaces_removePage_2 rfl (lv_at hl 2 rfl) ?_
  obtain ⟨r1, hc, hf⟩ := mi_cp_el hf
  refine ca_i (va_runV (C := "MovedFrames$Spaces") (As := [.int z1, .int z2]) (rest := []) ⟨hx, hb, hml, hown, hB⟩ (kw_Spaces_tableOf l dC dI q cI cZ _ σ z1 z2 r1 hc) ⟨callB_of 2 hB (gi_ lk_155) rfl rfl rfl (hB _ lk_5) (hB _ lk_152) (by decide +kernel) ⟨Nat.le_of_ble_eq_true rfl, Nat.le_of_ble_eq_true rfl⟩, hB _ lk_154, hB _ ls_0⟩ ⟨bl_, va_recv (ci := 4) (q0 := 4) hK hP rfl rfl, pre_ hP hK hD hN⟩ rfl rfl hl.1 rfl (lv_room (Nat.le_of_ble_eq_true rfl)) nd_Spaces_removePage_3 ⟨Nat.zero_le _, Nat.zero_le _⟩) hD hS hA (fun H locs hP hD hS => ?_)
  refine lv_istore_n (lv' := [(3, .int r1), (0, .ref (q 4)), (1, .int z1), (2, .int z2)]) hx hb nd_Spaces_removePage_6 rfl hl (by decide) rfl (fun ls hl => ?_)
  refine lv_aload_n hx hb nd_Spaces_removePage_7 rfl (lv_at hl 1 rfl) ?_
  refine va_get (D := (dC, dI)) (ci := 4) (v := .ref (q 1)) (C := RX4) (T := TX4) (N := 4) hx hb hB inB4 hown hK hP 4 rfl rfl 0 (by decide) (hB _ lk_80) (fun _ h9 => h9) rfl nd_Spaces_removePage_8 ?_
  refine lv_aload_n hx hb nd_Spaces_removePage_11 rfl (lv_at hl 1 rfl) ?_
  refine lv_iload_n hx hb nd_Spaces_removePage_12 rfl (lv_at hl 2 rfl) ?_
  refine lv_iload_n hx hb nd_Spaces_removePage_13 rfl (lv_at hl 3 rfl) ?_
  obtain ⟨r2, hc, hf⟩ := mi_cp_el hf
  refine ca_i (va_runV (C := "MovedFrames$Spaces") (As := [.int z1, .int z2]) (rest := [.ref (q 1)]) ⟨hx, hb, hml, hown, hB⟩ (kw_Spaces_frameOf l dC dI q cI cZ _ σ z1 z2 r2 hc) ⟨callB_of 2 hB (gi_ lk_151) rfl rfl rfl (hB _ lk_5) (hB _ lk_485) (by decide +kernel) ⟨Nat.le_of_ble_eq_true rfl, Nat.le_of_ble_eq_true rfl⟩, hB _ lk_149, hB _ lk_150⟩ ⟨bl_, va_recv (ci := 4) (q0 := 4) hK hP rfl rfl, pre_ hP hK hD hN⟩ rfl rfl hl.1 rfl (lv_room (Nat.le_of_ble_eq_true rfl)) nd_Spaces_removePage_14 ⟨Nat.zero_le _, Nat.zero_le _⟩) hD hS hA (fun H locs hP hD hS => ?_)
  obtain ⟨σ3, hc, hf⟩ := mi_cv_el hf
  refine ca_v (va_runV (C := "MovedFrames$Frames") (As := [.int r2]) (rest := []) ⟨hx, hb, hml, hown, hB⟩ (kw_Frames_makeFree l dC dI q cI cZ _ σ r2 σ3 hc) ⟨callB_of 1 hB (gi_ lk_372) rfl rfl rfl (hB _ lk_2) (hB _ lk_438) (by decide +kernel) ⟨Nat.le_of_ble_eq_true rfl, Nat.le_of_ble_eq_true rfl⟩, hB _ lk_370, hB _ lk_371⟩ ⟨bl_, va_recv (ci := 0) (q0 := 1) hK hP rfl rfl, pre_ hP hK hD hN⟩ rfl rfl hl.1 rfl (lv_room (Nat.le_of_ble_eq_true rfl)) nd_Spaces_removePage_17 ⟨Nat.zero_le _, Nat.zero_le _⟩) hD hS hA (fun H locs hP hD hS => ?_)
  refine lv_aload_n hx hb nd_Spaces_removePage_20 rfl (lv_at hl 1 rfl) ?_
  refine va_get (D := (dC, dI)) (ci := 4) (v := .ref (q 1)) (C := RX4) (T := TX4) (N := 4) hx hb hB inB4 hown hK hP 4 rfl rfl 0 (by decide) (hB _ lk_80) (fun _ h9 => h9) rfl nd_Spaces_removePage_21 ?_
  refine lv_iload_n hx hb nd_Spaces_removePage_24 rfl (lv_at hl 0 rfl) ?_
  refine lv_bipush (v := 16) hx hb nd_Spaces_removePage_25 (by decide) ?_
  refine lv_imul hx hb nd_Spaces_removePage_27 ?_
  refine lv_iload_n hx hb nd_Spaces_removePage_28 rfl (lv_at hl 3 rfl) ?_
  refine lv_bipush (v := 16) hx hb nd_Spaces_removePage_29 (by decide) ?_
  refine lv_irem hx hb nd_Spaces_removePage_31 (by decide) ?_
  refine lv_iadd hx hb nd_Spaces_removePage_32 ?_
  refine lv_iconst (v := 0) hx hb nd_Spaces_removePage_33 (by decide) ?_
  obtain ⟨σ4, hc, hf⟩ := mi_cv_el hf
  refine ca_v (va_runV (C := "MovedFrames$Frames") (As := [.int ((r1 * (16 : Int32)) + (z2 - z2 / (16 : Int32) * (16 : Int32))), .int (0 : Int32)]) (rest := []) ⟨hx, hb, hml, hown, hB⟩ (kw_Frames_write l dC dI q cI cZ _ σ3 ((r1 * (16 : Int32)) + (z2 - z2 / (16 : Int32) * (16 : Int32))) (0 : Int32) σ4 hc) ⟨callB_of 2 hB (gi_ lk_338) rfl rfl rfl (hB _ lk_2) (hB _ lk_490) (by decide +kernel) ⟨Nat.le_of_ble_eq_true rfl, Nat.le_of_ble_eq_true rfl⟩, hB _ lk_336, hB _ lk_337⟩ ⟨bl_, va_recv (ci := 0) (q0 := 1) hK hP rfl rfl, pre_ hP hK hD hN⟩ rfl rfl hl.1 rfl (lv_room (Nat.le_of_ble_eq_true rfl)) nd_Spaces_removePage_34 ⟨Nat.zero_le _, Nat.zero_le _⟩) hD hS hA (fun H locs hP hD hS => ?_)
  refine lv_aload_n hx hb nd_Spaces_removePage_37 rfl (lv_at hl 1 rfl) ?_
  refine lv_iload_n hx hb nd_Spaces_removePage_38 rfl (lv_at hl 0 rfl) ?_
  obtain ⟨r5, hc, hf⟩ := mi_cp_el hf
  refine ca_i (va_runV (C := "MovedFrames$Spaces") (As := [.int r1]) (rest := []) ⟨hx, hb, hml, hown, hB⟩ (kw_Spaces_isEmptyTable l dC dI q cI cZ _ σ4 r1 r5 hc) ⟨callB_of 1 hB (gi_ lk_494) rfl rfl rfl (hB _ lk_5) (hB _ lk_491) (by decide +kernel) ⟨Nat.le_of_ble_eq_true rfl, Nat.le_of_ble_eq_true rfl⟩, hB _ lk_493, hB _ ls_17⟩ ⟨bl_, va_recv (ci := 4) (q0 := 4) hK hP rfl rfl, pre_ hP hK hD hN⟩ rfl rfl hl.1 rfl (lv_room (Nat.le_of_ble_eq_true rfl)) nd_Spaces_removePage_39 ⟨Nat.zero_le _, Nat.zero_le _⟩) hD hS hA (fun H locs hP hD hS => ?_)
  refine lv_if_eq (tgt := 67) hx hb nd_Spaces_removePage_42 (by decide) (fun hc => ?_) (fun hc => ?_)
  · have hf := mi_if_t hc hf
    exact re_v hx hb hr hlocks (mi_eq hf) hP hK hD hS nd_Spaces_removePage_67
  · have hf := mi_if_f hc hf
    refine lv_aload_n hx hb nd_Spaces_removePage_45 rfl (lv_at hl 1 rfl) ?_
    refine va_get (D := (dC, dI)) (ci := 4) (v := .ref (q 1)) (C := RX4) (T := TX4) (N := 4) hx hb hB inB4 hown hK hP 4 rfl rfl 0 (by decide) (hB _ lk_80) (fun _ h9 => h9) rfl nd_Spaces_removePage_46 ?_
    refine lv_iload_n hx hb nd_Spaces_removePage_49 rfl (lv_at hl 0 rfl) ?_
    obtain ⟨σ6, hc, hf⟩ := mi_cv_el hf
    refine ca_v (va_runV (C := "MovedFrames$Frames") (As := [.int r1]) (rest := []) ⟨hx, hb, hml, hown, hB⟩ (kw_Frames_makeFree l dC dI q cI cZ _ σ4 r1 σ6 hc) ⟨callB_of 1 hB (gi_ lk_372) rfl rfl rfl (hB _ lk_2) (hB _ lk_438) (by decide +kernel) ⟨Nat.le_of_ble_eq_true rfl, Nat.le_of_ble_eq_true rfl⟩, hB _ lk_370, hB _ lk_371⟩ ⟨bl_, va_recv (ci := 0) (q0 := 1) hK hP rfl rfl, pre_ hP hK hD hN⟩ rfl rfl hl.1 rfl (lv_room (Nat.le_of_ble_eq_true rfl)) nd_Spaces_removePage_50 ⟨Nat.zero_le _, Nat.zero_le _⟩) hD hS hA (fun H locs hP hD hS => ?_)
    refine lv_aload_n hx hb nd_Spaces_removePage_53 rfl (lv_at hl 1 rfl) ?_
    refine va_get (D := (dC, dI)) (ci := 4) (v := .ref (q 1)) (C := RX4) (T := TX4) (N := 4) hx hb hB inB4 hown hK hP 4 rfl rfl 0 (by decide) (hB _ lk_80) (fun _ h9 => h9) rfl nd_Spaces_removePage_54 ?_
    refine lv_aload_n hx hb nd_Spaces_removePage_57 rfl (lv_at hl 1 rfl) ?_
    refine lv_iload_n hx hb nd_Spaces_removePage_58 rfl (lv_at hl 2 rfl) ?_
    refine lv_iload_n hx hb nd_Spaces_removePage_59 rfl (lv_at hl 3 rfl) ?_
    obtain ⟨r7, hc, hf⟩ := mi_cp_el hf
    refine ca_i (va_runV (C := "MovedFrames$Spaces") (As := [.int z1, .int z2]) (rest := [.ref (q 1)]) ⟨hx, hb, hml, hown, hB⟩ (kw_Spaces_rootEntry l dC dI q cI cZ _ σ6 z1 z2 r7 hc) ⟨callB_of 2 hB (gi_ lk_166) rfl rfl rfl (hB _ lk_5) (hB _ lk_163) (by decide +kernel) ⟨Nat.le_of_ble_eq_true rfl, Nat.le_of_ble_eq_true rfl⟩, hB _ lk_165, hB _ ls_1⟩ ⟨bl_, va_recv (ci := 4) (q0 := 4) hK hP rfl rfl, pre_ hP hK hD hN⟩ rfl rfl hl.1 rfl (lv_room (Nat.le_of_ble_eq_true rfl)) nd_Spaces_removePage_60 ⟨Nat.zero_le _, Nat.zero_le _⟩) hD hS hA (fun H locs hP hD hS => ?_)
    refine lv_iconst (v := 0) hx hb nd_Spaces_removePage_63 (by decide) ?_
    obtain ⟨σ8, hc, hf⟩ := mi_cv_el hf
    refine ca_v (va_runV (C := "MovedFrames$Frames") (As := [.int r7, .int (0 : Int32)]) (rest := []) ⟨hx, hb, hml, hown, hB⟩ (kw_Frames_write l dC dI q cI cZ _ σ6 r7 (0 : Int32) σ8 hc) ⟨callB_of 2 hB (gi_ lk_338) rfl rfl rfl (hB _ lk_2) (hB _ lk_490) (by decide +kernel) ⟨Nat.le_of_ble_eq_true rfl, Nat.le_of_ble_eq_true rfl⟩, hB _ lk_336, hB _ lk_337⟩ ⟨bl_, va_recv (ci := 0) (q0 := 1) hK hP rfl rfl, pre_ hP hK hD hN⟩ rfl rfl hl.1 rfl (lv_room (Nat.le_of_ble_eq_true rfl)) nd_Spaces_removePage_64 ⟨Nat.zero_le _, Nat.zero_le _⟩) hD hS hA (fun H locs hP hD hS => ?_)
    exact re_v hx hb hr hlocks (mi_eq hf) hP hK hD hS nd_Spaces_removePage_67
abbrev rm_Spaces_takeFromRegion : Room := { frames := 4, cells := 0, slots := 0, locals := 90 }
set_option maxHeartbeats 4000000 in
set_option maxRecDepth 100000 in
theorem kw_Spaces_takeFromRegion (l : Launch) (dC : Nat → ClassId) (dI : Nat → Nat → Nat) (q : Nat → Nat) (cI cZ : ClassId) (sz : Nat) (σ : CS) (z1 : Int32) (z2 : Int32) (z3 : Int32) (v : Int32) (σ' : CS) (hf : mc_Spaces_takeFromRegion σ z1 z2 z3 = some (v, σ')) : Met l ny_Spaces_takeFromRegion nw_Spaces_takeFromRegion rm_Spaces_takeFromRegion (va_Pc [.ref (q 4), .int z1, .int z2, .int z3] (pr_ (dC, dI) (wd_C q cI cZ) [(cI, .int), (cZ, .boolean)] sz σ)) (qi_ (dC, dI) (wd_C q cI cZ) [(cI, .int), (cZ, .boolean)] (va_A (wd_C q cI cZ σ) sz) v σ') 0 0 (va_A (wd_C q cI cZ σ) sz) := by
  refine Met.ofW (cc := nb_Spaces_takeFromRegion) (maxL := 6) (ret := (some .int)) (by decide) rfl ?_
  intro p e s m args below meth c s₁ B hml hv
  obtain ⟨rfl, hsz, hP, hK, hD0, hN⟩ := hv
  have hx := B.exec
  have hb := B.bytes
  have hr := B.returns
  have hts := atoms_spec (ws := nw_Spaces_takeFromRegion) B.pre
  have hB : ∀ w ∈ BG, w.before ([.ref (q 4), .int z1, .int z2, .int z3] : List Value).toArray s = true := fun w h => hts w (List.mem_cons_of_mem _ h)
  have hown : s.vm.findClass "MovedFrames$Spaces" = some m.cls := findClass_of_methodNamed B.named
  have hlocks := B.notSynchronized
  subst hsz
  have hD := hD0.self (sz := s.heap.size)
  generalize hAe : va_A (wd_C q cI cZ σ) s.heap.size = A at hD ⊢
  have hA : ∀ q : Nat, s.heap.size ≤ q → A q := fun q h => by rw [← hAe]; exact Or.inr h
  have hS : va_S A s.heap s.heap [] := va_S.rf
  have hl := lv_entry ([.ref (q 4), .int z1, .int z2, .int z3]) (n := 6) (Nat.le_of_ble_eq_true rfl)
  rw [lg_entry_eq]
  generalize (lg_sl ([.ref (q 4), .int z1, .int z2, .int z3]) ++ List.replicate (6 - (lg_sl ([.ref (q 4), .int z1, .int z2, .int z3])).length) Slot.unset).toArray = ls at hl ⊢
  have hl : lv_has ls 6 [(0, .ref (q 4)), (1, .int z1), (2, .int z2), (3, .int z3)] := hl
  have B6 : ∀ (k6 : Int32 → Int32 → Int32 → Int32 → Int32 → CS → Option (Int32 × CS)) (hk6 : ∀ (x1 : Int32) (x2 : Int32) (x3 : Int32) (x4 : Int32) (x5 : Int32) (σ : CS), k6 x1 x2 x3 x4 x5 σ = some (v, σ') → bk_ p l e rm_Spaces_takeFromRegion s m ([.ref (q 4), .int z1, .int z2, .int z3] : List Value).toArray below meth c (MQ below (qi_ (dC, dI) (wd_C q cI cZ) [(cI, .int), (cZ, .boolean)] A v σ') ([.ref (q 4), .int z1, .int z2, .int z3] : List Value).toArray s 0 0 A) A (dC, dI) (wd_C q cI cZ) 6 6 [(0, .ref (q 4)), (1, .int x1), (2, .int x2), (3, .int x3), (4, .int x4), (5, .int x5)] [] σ) (x1 : Int32) (x2 : Int32) (x3 : Int32) (x4 : Int32) (x5 : Int32) (σ : CS), mc_Spaces_takeFromRegion_b6 k6 x1 x2 x3 x4 x5 σ = some (v, σ') → bk_ p l e rm_Spaces_takeFromRegion s m ([.ref (q 4), .int z1, .int z2, .int z3] : List Value).toArray below meth c (MQ below (qi_ (dC, dI) (wd_C q cI cZ) [(cI, .int), (cZ, .boolean)] A v σ') ([.ref (q 4), .int z1, .int z2, .int z3] : List Value).toArray s 0 0 A) A (dC, dI) (wd_C q cI cZ) 6 6 [(0, .ref (q 4)), (1, .int x1), (2, .int x2), (3, .int x3), (4, .int x4), (5, .int x5)] [] σ := by
    intro k6 hk6 x1 x2 x3 x4 x5 σ hf ls H locs hl hP hD hS
    unfold mc_Spaces_takeFromRegion_b6 at hf
    refine lv_iload hx hb nd_Spaces_takeFromRegion_6 (lv_at hl 5 rfl) ?_
    refine lv_iload_n hx hb nd_Spaces_takeFromRegion_8 rfl (lv_at hl 2 rfl) ?_
    refine lv_iload_n hx hb nd_Spaces_takeFromRegion_9 rfl (lv_at hl 3 rfl) ?_
    refine lv_iadd hx hb nd_Spaces_takeFromRegion_10 ?_
    refine lv_icmp_ge (tgt := 49) hx hb nd_Spaces_takeFromRegion_11 (by decide) (fun hc => ?_) (fun hc => ?_)
    · have hf := mi_if_t hc hf
      refine lv_iload hx hb nd_Spaces_takeFromRegion_49 (lv_at hl 4 rfl) ?_
      exact re_i hx hb hr hlocks ((mi_pr hf).1) ((mi_pr hf).2) hP hK hD hS nd_Spaces_takeFromRegion_51
    · have hf := mi_if_f hc hf
      refine lv_aload_n hx hb nd_Spaces_takeFromRegion_14 rfl (lv_at hl 0 rfl) ?_
      refine lv_iload_n hx hb nd_Spaces_takeFromRegion_15 rfl (lv_at hl 1 rfl) ?_
      refine lv_iload hx hb nd_Spaces_takeFromRegion_16 (lv_at hl 5 rfl) ?_
      refine lv_iconst (v := 0) hx hb nd_Spaces_takeFromRegion_18 (by decide) ?_
      obtain ⟨σ1, hc, hf⟩ := mi_cv_el hf
      refine ca_v (va_runV (C := "MovedFrames$Spaces") (As := [.int x1, .int x5, .int (0 : Int32)]) (rest := []) ⟨hx, hb, hml, hown, hB⟩ (kw_Spaces_setRegion l dC dI q cI cZ _ σ x1 x5 (0 : Int32) σ1 hc) ⟨callB_of 3 hB (gi_ lk_473) rfl rfl rfl (hB _ lk_5) (hB _ lk_470) (by decide +kernel) ⟨Nat.le_of_ble_eq_true rfl, Nat.le_of_ble_eq_true rfl⟩, hB _ lk_472, hB _ ls_15⟩ ⟨bl_, va_recv (ci := 4) (q0 := 4) hK hP rfl rfl, pre_ hP hK hD hN⟩ rfl rfl hl.1 rfl (lv_room (Nat.le_of_ble_eq_true rfl)) nd_Spaces_takeFromRegion_19 ⟨Nat.zero_le _, Nat.zero_le _⟩) hD hS hA (fun H locs hP hD hS => ?_)
      refine lv_aload_n hx hb nd_Spaces_takeFromRegion_22 rfl (lv_at hl 0 rfl) ?_
      refine lv_iload_n hx hb nd_Spaces_takeFromRegion_23 rfl (lv_at hl 1 rfl) ?_
      refine lv_iload hx hb nd_Spaces_takeFromRegion_24 (lv_at hl 5 rfl) ?_
      obtain ⟨r2, hc, hf⟩ := mi_cp_el hf
      refine ca_i (va_runV (C := "MovedFrames$Spaces") (As := [.int x1, .int x5]) (rest := []) ⟨hx, hb, hml, hown, hB⟩ (kw_Spaces_frameOf l dC dI q cI cZ _ σ1 x1 x5 r2 hc) ⟨callB_of 2 hB (gi_ lk_151) rfl rfl rfl (hB _ lk_5) (hB _ lk_485) (by decide +kernel) ⟨Nat.le_of_ble_eq_true rfl, Nat.le_of_ble_eq_true rfl⟩, hB _ lk_149, hB _ lk_150⟩ ⟨bl_, va_recv (ci := 4) (q0 := 4) hK hP rfl rfl, pre_ hP hK hD hN⟩ rfl rfl hl.1 rfl (lv_room (Nat.le_of_ble_eq_true rfl)) nd_Spaces_takeFromRegion_26 ⟨Nat.zero_le _, Nat.zero_le _⟩) hD hS hA (fun H locs hP hD hS => ?_)
      refine lv_iconst (v := (-1)) hx hb nd_Spaces_takeFromRegion_29 (by decide) ?_
      refine lv_icmp_eq (tgt := 43) hx hb nd_Spaces_takeFromRegion_30 (by decide) (fun hc => ?_) (fun hc => ?_)
      · have hf := mi_if_t hc hf
        refine lv_iinc (k := 5) (v := x5 + (1 : Int32)) (lv' := [(5, .int (x5 + (1 : Int32))), (0, .ref (q 4)), (1, .int x1), (2, .int x2), (3, .int x3), (4, .int x4)]) hx hb nd_Spaces_takeFromRegion_43 hl rfl (congrArg (fun z => x5 + z) (by decide : Int32.ofInt 1 = (1 : Int32))) (by decide) rfl (fun ls hl => ?_)
        refine lv_goto (tgt := 6) hx hb nd_Spaces_takeFromRegion_46 (by decide) ?_
        exact hk6 x1 x2 x3 x4 (x5 + (1 : Int32)) σ1 hf _ _ _ (lv_sub hl [1, 2, 3, 4, 5, 0] rfl) hP hD hS
      · have hf := mi_if_f hc hf
        refine lv_aload_n hx hb nd_Spaces_takeFromRegion_33 rfl (lv_at hl 0 rfl) ?_
        refine lv_iload_n hx hb nd_Spaces_takeFromRegion_34 rfl (lv_at hl 1 rfl) ?_
        refine lv_iload hx hb nd_Spaces_takeFromRegion_35 (lv_at hl 5 rfl) ?_
        obtain ⟨σ3, hc, hf⟩ := mi_cv_el hf
        refine ca_v (va_runV (C := "MovedFrames$Spaces") (As := [.int x1, .int x5]) (rest := []) ⟨hx, hb, hml, hown, hB⟩ (kw_Spaces_removePage l dC dI q cI cZ _ σ1 x1 x5 σ3 hc) ⟨callB_of 2 hB (gi_ lk_489) rfl rfl rfl (hB _ lk_5) (hB _ lk_486) (by decide +kernel) ⟨Nat.le_of_ble_eq_true rfl, Nat.le_of_ble_eq_true rfl⟩, hB _ lk_488, hB _ ls_16⟩ ⟨bl_, va_recv (ci := 4) (q0 := 4) hK hP rfl rfl, pre_ hP hK hD hN⟩ rfl rfl hl.1 rfl (lv_room (Nat.le_of_ble_eq_true rfl)) nd_Spaces_takeFromRegion_37 ⟨Nat.zero_le _, Nat.zero_le _⟩) hD hS hA (fun H locs hP hD hS => ?_)
        refine lv_iinc (k := 4) (v := x4 + (1 : Int32)) (lv' := [(4, .int (x4 + (1 : Int32))), (0, .ref (q 4)), (1, .int x1), (2, .int x2), (3, .int x3), (5, .int x5)]) hx hb nd_Spaces_takeFromRegion_40 hl rfl (congrArg (fun z => x4 + z) (by decide : Int32.ofInt 1 = (1 : Int32))) (by decide) rfl (fun ls hl => ?_)
        refine lv_iinc (k := 5) (v := x5 + (1 : Int32)) (lv' := [(5, .int (x5 + (1 : Int32))), (4, .int (x4 + (1 : Int32))), (0, .ref (q 4)), (1, .int x1), (2, .int x2), (3, .int x3)]) hx hb nd_Spaces_takeFromRegion_43 hl rfl (congrArg (fun z => x5 + z) (by decide : Int32.ofInt 1 = (1 : Int32))) (by decide) rfl (fun ls hl => ?_)
        refine lv_goto (tgt := 6) hx hb nd_Spaces_takeFromRegion_46 (by decide) ?_
        exact hk6 x1 x2 x3 (x4 + (1 : Int32)) (x5 + (1 : Int32)) σ3 hf _ _ _ (lv_sub hl [2, 3, 4, 5, 1, 0] rfl) hP hD hS
  have L6 : ∀ (n : Nat) (x1 : Int32) (x2 : Int32) (x3 : Int32) (x4 : Int32) (x5 : Int32) (σ : CS), mc_Spaces_takeFromRegion_l6 n x1 x2 x3 x4 x5 σ = some (v, σ') → bk_ p l e rm_Spaces_takeFromRegion s m ([.ref (q 4), .int z1, .int z2, .int z3] : List Value).toArray below meth c (MQ below (qi_ (dC, dI) (wd_C q cI cZ) [(cI, .int), (cZ, .boolean)] A v σ') ([.ref (q 4), .int z1, .int z2, .int z3] : List Value).toArray s 0 0 A) A (dC, dI) (wd_C q cI cZ) 6 6 [(0, .ref (q 4)), (1, .int x1), (2, .int x2), (3, .int x3), (4, .int x4), (5, .int x5)] [] σ := by
    intro n
    induction n with
    | zero =>
      intro x1 x2 x3 x4 x5 σ hf
      exact mi_no hf
    | succ n ih =>
      intro x1 x2 x3 x4 x5 σ hf
      exact B6 (mc_Spaces_takeFromRegion_l6 n) ih x1 x2 x3 x4 x5 σ hf
  have hH : s.heap = s.heap := rfl
  unfold mc_Spaces_takeFromRegion at hf
  refine lv_iconst (v := 0) hx hb nd_Spaces_takeFromRegion_0 (by decide) ?_
  refine lv_istore (lv' := [(4, .int (0 : Int32)), (0, .ref (q 4)), (1, .int z1), (2, .int z2), (3, .int z3)]) hx hb nd_Spaces_takeFromRegion_1 hl (by decide) rfl (fun ls hl => ?_)
  refine lv_iload_n hx hb nd_Spaces_takeFromRegion_3 rfl (lv_at hl 3 rfl) ?_
  refine lv_istore (lv' := [(5, .int z2), (4, .int (0 : Int32)), (0, .ref (q 4)), (1, .int z1), (2, .int z2), (3, .int z3)]) hx hb nd_Spaces_takeFromRegion_4 hl (by decide) rfl (fun ls hl => ?_)
  exact L6 FU z1 z2 z3 (0 : Int32) z2 σ hf _ _ _ (lv_sub hl [2, 3, 4, 5, 1, 0] rfl) hP hD hS
abbrev rm_F_munmap : Room := { frames := 8, cells := 0, slots := 0, locals := 134 }
set_option maxHeartbeats 4000000 in
set_option maxRecDepth 100000 in
theorem kw_F_munmap (l : Launch) (dC : Nat → ClassId) (dI : Nat → Nat → Nat) (q : Nat → Nat) (cI cZ : ClassId) (sz : Nat) (σ : CS) (z1 : Int32) (z2 : Int32) (z3 : Int32) (v : Int32) (σ' : CS) (hf : mc_munmap σ z1 z2 z3 = some (v, 0, σ')) : Met l ny_F_munmap nw_F_munmap rm_F_munmap (va_Pc [.ref (q 0), .int z1, .int z2, .int z3] (pr_ (dC, dI) (wd_C q cI cZ) [(cI, .int), (cZ, .boolean)] sz σ)) (qi_ (dC, dI) (wd_C q cI cZ) [(cI, .int), (cZ, .boolean)] (va_A (wd_C q cI cZ σ) sz) v σ') 0 0 (va_A (wd_C q cI cZ σ) sz) := by
  refine Met.ofW (cc := nb_F_munmap) (maxL := 4) (ret := (some .int)) (by decide) rfl ?_
  intro p e s m args below meth c s₁ B hml hv
  obtain ⟨rfl, hsz, hP, hK, hD0, hN⟩ := hv
  have hx := B.exec
  have hb := B.bytes
  have hr := B.returns
  have hts := atoms_spec (ws := nw_F_munmap) B.pre
  have hB : ∀ w ∈ BG, w.before ([.ref (q 0), .int z1, .int z2, .int z3] : List Value).toArray s = true := fun w h => hts w (List.mem_cons_of_mem _ h)
  have hown : s.vm.findClass "MovedFrames" = some m.cls := findClass_of_methodNamed B.named
  have hlocks := B.notSynchronized
  subst hsz
  have hD := hD0.self (sz := s.heap.size)
  generalize hAe : va_A (wd_C q cI cZ σ) s.heap.size = A at hD ⊢
  have hA : ∀ q : Nat, s.heap.size ≤ q → A q := fun q h => by rw [← hAe]; exact Or.inr h
  have hS : va_S A s.heap s.heap [] := va_S.rf
  have hl := lv_entry ([.ref (q 0), .int z1, .int z2, .int z3]) (n := 4) (Nat.le_of_ble_eq_true rfl)
  rw [lg_entry_eq]
  generalize (lg_sl ([.ref (q 0), .int z1, .int z2, .int z3]) ++ List.replicate (4 - (lg_sl ([.ref (q 0), .int z1, .int z2, .int z3])).length) Slot.unset).toArray = ls at hl ⊢
  have hl : lv_has ls 4 [(0, .ref (q 0)), (1, .int z1), (2, .int z2), (3, .int z3)] := hl
  have hH : s.heap = s.heap := rfl
  unfold mc_munmap at hf
  refine lv_aload_n hx hb nd_F_munmap_0 rfl (lv_at hl 0 rfl) ?_
  refine lv_iload_n hx hb nd_F_munmap_1 rfl (lv_at hl 1 rfl) ?_
  refine lv_iload_n hx hb nd_F_munmap_2 rfl (lv_at hl 2 rfl) ?_
  refine lv_iload_n hx hb nd_F_munmap_3 rfl (lv_at hl 3 rfl) ?_
  obtain ⟨r3, n9, hc, hq⟩ := mi_tq_el hf
  rcases hq with ⟨h9, hf⟩ | ⟨h9, hf⟩
  · subst h9
    refine ca_v (va_runV (C := "MovedFrames") (As := [.int z1, .int z2, .int z3]) (rest := []) ⟨hx, hb, hml, hown, hB⟩ (kw_F_checkPages l dC dI q cI cZ _ σ z1 z2 z3 r3 hc) ⟨callB_of 3 hB (gi_ lk_449) rfl rfl rfl (hB _ lk_1) (hB _ lk_446) (by decide +kernel) ⟨Nat.le_of_ble_eq_true rfl, Nat.le_of_ble_eq_true rfl⟩, hB _ lk_448, hB _ ls_13⟩ ⟨bl_, va_recv (ci := 5) (q0 := 0) hK hP rfl rfl, pre_ hP hK hD hN⟩ rfl rfl hl.1 rfl (lv_room (Nat.le_of_ble_eq_true rfl)) nd_F_munmap_4 ⟨Nat.zero_le _, Nat.zero_le _⟩) hD hS hA (fun H locs hP hD hS => ?_)
    refine lv_aload_n hx hb nd_F_munmap_7 rfl (lv_at hl 0 rfl) ?_
    refine va_get (D := (dC, dI)) (ci := 5) (v := .ref (q 4)) (C := RX5) (T := TX5) (N := 5) hx hb hB inB5 hown hK hP 0 rfl rfl 3 (by decide) (hB _ lk_116) (fun _ h9 => h9) rfl nd_F_munmap_8 ?_
    refine lv_iload_n hx hb nd_F_munmap_11 rfl (lv_at hl 1 rfl) ?_
    refine lv_iload_n hx hb nd_F_munmap_12 rfl (lv_at hl 2 rfl) ?_
    refine lv_iload_n hx hb nd_F_munmap_13 rfl (lv_at hl 3 rfl) ?_
    obtain ⟨r2, σ1, hc, hf⟩ := mi_cw_el hf
    refine ca_i (va_runV (C := "MovedFrames$Spaces") (As := [.int z1, .int z2, .int z3]) (rest := []) ⟨hx, hb, hml, hown, hB⟩ (kw_Spaces_takeFromRegion l dC dI q cI cZ _ σ z1 z2 z3 r2 σ1 hc) ⟨callB_of 3 hB (gi_ lk_484) rfl rfl rfl (hB _ lk_5) (hB _ lk_481) (by decide +kernel) ⟨Nat.le_of_ble_eq_true rfl, Nat.le_of_ble_eq_true rfl⟩, hB _ lk_482, hB _ lk_483⟩ ⟨bl_, va_recv (ci := 4) (q0 := 4) hK hP rfl rfl, pre_ hP hK hD hN⟩ rfl rfl hl.1 rfl (lv_room (Nat.le_of_ble_eq_true rfl)) nd_F_munmap_14 ⟨Nat.zero_le _, Nat.zero_le _⟩) hD hS hA (fun H locs hP hD hS => ?_)
    exact re_i hx hb hr hlocks ((mi_t3 hf).1) ((mi_t3 hf).2.2) hP hK hD hS nd_F_munmap_17
  · exact absurd (congrArg (fun z => z.2.1) hf).symm h9
abbrev rt_F_munmap : Room := { frames := 8, cells := 1, slots := 6, locals := 134 }
set_option maxHeartbeats 4000000 in
set_option maxRecDepth 100000 in
theorem kt_F_munmap (l : Launch) (dC : Nat → ClassId) (dI : Nat → Nat → Nat) (q : Nat → Nat) (cI cZ : ClassId) (sz : Nat) (σ : CS) (z1 : Int32) (z2 : Int32) (z3 : Int32) (v : Int32) (n : Nat) (σ' : CS) (htr : l.stackTraces = false) (hn : ¬ n = 0) (hf : mc_munmap σ z1 z2 z3 = some (v, n, σ')) : vx_Met l ny_F_munmap nw_F_munmap rt_F_munmap (va_Pc [.ref (q 0), .int z1, .int z2, .int z3] (prx_ (dC, dI) (wd_C q cI cZ) [(cI, .int), (cZ, .boolean)] sz σ)) (fi_ (dC, dI) (wd_C q cI cZ) [(cI, .int), (cZ, .boolean)] (va_A (wd_C q cI cZ σ) sz)) (xx_ (dC, dI) (wd_C q cI cZ) [(cI, .int), (cZ, .boolean)] (va_A (wd_C q cI cZ σ) sz) n σ') 1 6 (va_A (wd_C q cI cZ σ) sz) := by
  refine vx_ofW (cc := nb_F_munmap) (maxL := 4) (ret := (some .int)) (by decide) rfl ?_
  intro p e s m args below meth c s₁ B hml hno hv
  obtain ⟨rfl, ⟨hsz, hP, hK, hD0, hN⟩, hT, hZ⟩ := hv
  have hx := B.exec
  have hb := B.bytes
  have hr := B.returns
  have hts := atoms_spec (ws := nw_F_munmap) B.pre
  have hB : ∀ w ∈ BG, w.before ([.ref (q 0), .int z1, .int z2, .int z3] : List Value).toArray s = true := fun w h => hts w (List.mem_cons_of_mem _ h)
  have hown : s.vm.findClass "MovedFrames" = some m.cls := findClass_of_methodNamed B.named
  have hlocks := B.notSynchronized
  subst hsz
  have hD := hD0.self (sz := s.heap.size)
  generalize hAe : va_A (wd_C q cI cZ σ) s.heap.size = A at hD hZ ⊢
  have hA : ∀ q : Nat, s.heap.size ≤ q → A q := fun q h => by rw [← hAe]; exact Or.inr h
  have hS : va_S A s.heap s.heap [] := va_S.rf
  have hl := lv_entry ([.ref (q 0), .int z1, .int z2, .int z3]) (n := 4) (Nat.le_of_ble_eq_true rfl)
  rw [lg_entry_eq]
  generalize (lg_sl ([.ref (q 0), .int z1, .int z2, .int z3]) ++ List.replicate (4 - (lg_sl ([.ref (q 0), .int z1, .int z2, .int z3])).length) Slot.unset).toArray = ls at hl ⊢
  have hl : lv_has ls 4 [(0, .ref (q 0)), (1, .int z1), (2, .int z2), (3, .int z3)] := hl
  have hH : s.heap = s.heap := rfl
  unfold mc_munmap at hf
  refine lv_aload_n hx hb nd_F_munmap_0 rfl (lv_at hl 0 rfl) ?_
  refine lv_iload_n hx hb nd_F_munmap_1 rfl (lv_at hl 1 rfl) ?_
  refine lv_iload_n hx hb nd_F_munmap_2 rfl (lv_at hl 2 rfl) ?_
  refine lv_iload_n hx hb nd_F_munmap_3 rfl (lv_at hl 3 rfl) ?_
  obtain ⟨r3, n9, hc, hq⟩ := mi_tq_el hf
  rcases hq with ⟨h9, hf⟩ | ⟨h9, hf⟩
  · subst h9
    refine ca_v (va_runV (C := "MovedFrames") (As := [.int z1, .int z2, .int z3]) (rest := []) ⟨hx, hb, hml, hown, hB⟩ (kw_F_checkPages l dC dI q cI cZ _ σ z1 z2 z3 r3 hc) ⟨callB_of 3 hB (gi_ lk_449) rfl rfl rfl (hB _ lk_1) (hB _ lk_446) (by decide +kernel) ⟨Nat.le_of_ble_eq_true rfl, Nat.le_of_ble_eq_true rfl⟩, hB _ lk_448, hB _ ls_13⟩ ⟨bl_, va_recv (ci := 5) (q0 := 0) hK hP rfl rfl, pre_ hP hK hD hN⟩ rfl rfl hl.1 rfl (lv_room (Nat.le_of_ble_eq_true rfl)) nd_F_munmap_4 ⟨Nat.zero_le _, Nat.zero_le _⟩) hD hS hA (fun H locs hP hD hS => ?_)
    refine lv_aload_n hx hb nd_F_munmap_7 rfl (lv_at hl 0 rfl) ?_
    refine va_get (D := (dC, dI)) (ci := 5) (v := .ref (q 4)) (C := RX5) (T := TX5) (N := 5) hx hb hB inB5 hown hK hP 0 rfl rfl 3 (by decide) (hB _ lk_116) (fun _ h9 => h9) rfl nd_F_munmap_8 ?_
    refine lv_iload_n hx hb nd_F_munmap_11 rfl (lv_at hl 1 rfl) ?_
    refine lv_iload_n hx hb nd_F_munmap_12 rfl (lv_at hl 2 rfl) ?_
    refine lv_iload_n hx hb nd_F_munmap_13 rfl (lv_at hl 3 rfl) ?_
    obtain ⟨r2, σ1, hc, hf⟩ := mi_cw_el hf
    refine ca_i (va_runV (C := "MovedFrames$Spaces") (As := [.int z1, .int z2, .int z3]) (rest := []) ⟨hx, hb, hml, hown, hB⟩ (kw_Spaces_takeFromRegion l dC dI q cI cZ _ σ z1 z2 z3 r2 σ1 hc) ⟨callB_of 3 hB (gi_ lk_484) rfl rfl rfl (hB _ lk_5) (hB _ lk_481) (by decide +kernel) ⟨Nat.le_of_ble_eq_true rfl, Nat.le_of_ble_eq_true rfl⟩, hB _ lk_482, hB _ lk_483⟩ ⟨bl_, va_recv (ci := 4) (q0 := 4) hK hP rfl rfl, pre_ hP hK hD hN⟩ rfl rfl hl.1 rfl (lv_room (Nat.le_of_ble_eq_true rfl)) nd_F_munmap_14 ⟨Nat.zero_le _, Nat.zero_le _⟩) hD hS hA (fun H locs hP hD hS => ?_)
    exact absurd (mi_t3 hf).2.1.symm hn
  · obtain ⟨-, hm, hs9⟩ := mi_t3 (congrArg some hf)
    have hm := hm.symm
    subst hm
    have hs9 := hs9.symm
    subst hs9
    exact cx_v (vx_runV (C := "MovedFrames") (As := [.int z1, .int z2, .int z3]) (rest := []) ⟨hx, hb, hml, hown, hB⟩ (kt_F_checkPages l dC dI q cI cZ _ σ z1 z2 z3 r3 n9 htr h9 hc) ⟨callB_of 3 hB (gi_ lk_449) rfl rfl rfl (hB _ lk_1) (hB _ lk_446) (by decide +kernel) ⟨Nat.le_of_ble_eq_true rfl, Nat.le_of_ble_eq_true rfl⟩, hB _ lk_448, hB _ ls_13⟩ ⟨blx_, va_recv (ci := 5) (q0 := 0) hK hP rfl rfl, prex_ hP hK hD hN hT hZ hS hA⟩ rfl rfl hl.1 rfl (lv_room (Nat.le_of_ble_eq_true rfl)) nd_F_munmap_4 ⟨Nat.le_of_ble_eq_true rfl, Nat.le_of_ble_eq_true rfl⟩) hno hlocks hK hD hS hA
abbrev rm_F_orFault : Room := { frames := 0, cells := 0, slots := 0, locals := 0 }
set_option maxHeartbeats 4000000 in
set_option maxRecDepth 100000 in
theorem kw_F_orFault (l : Launch) (dC : Nat → ClassId) (dI : Nat → Nat → Nat) (q : Nat → Nat) (cI cZ : ClassId) (sz : Nat) (σ : CS) (z0 : Int32) (v : Int32) (hf : mc_orFault z0 = some (v, 0)) : Met l ny_F_orFault nw_F_orFault rm_F_orFault (va_Pc [.int z0] (pr_ (dC, dI) (wd_C q cI cZ) [(cI, .int), (cZ, .boolean)] sz σ)) (qi_ (dC, dI) (wd_C q cI cZ) [(cI, .int), (cZ, .boolean)] (va_A (wd_C q cI cZ σ) sz) v σ) 0 0 (va_A (wd_C q cI cZ σ) sz) := by
  refine Met.ofW (cc := nb_F_orFault) (maxL := 1) (ret := (some .int)) (by decide) rfl ?_
  intro p e s m args below meth c s₁ B hml hv
  obtain ⟨rfl, hsz, hP, hK, hD0, hN⟩ := hv
  have hx := B.exec
  have hb := B.bytes
  have hr := B.returns
  have hts := atoms_spec (ws := nw_F_orFault) B.pre
  have hB : ∀ w ∈ BG, w.before ([.int z0] : List Value).toArray s = true := fun w h => hts w (List.mem_cons_of_mem _ h)
  have hown : s.vm.findClass "MovedFrames" = some m.cls := findClass_of_methodNamed B.named
  have hlocks := B.notSynchronized
  subst hsz
  have hD := hD0.self (sz := s.heap.size)
  generalize hAe : va_A (wd_C q cI cZ σ) s.heap.size = A at hD ⊢
  have hA : ∀ q : Nat, s.heap.size ≤ q → A q := fun q h => by rw [← hAe]; exact Or.inr h
  have hS : va_S A s.heap s.heap [] := va_S.rf
  have hl := lv_entry ([.int z0]) (n := 1) (Nat.le_of_ble_eq_true rfl)
  rw [lg_entry_eq]
  generalize (lg_sl ([.int z0]) ++ List.replicate (1 - (lg_sl ([.int z0])).length) Slot.unset).toArray = ls at hl ⊢
  have hl : lv_has ls 1 [(0, .int z0)] := hl
  have hH : s.heap = s.heap := rfl
  unfold mc_orFault at hf
  refine lv_iload_n hx hb nd_F_orFault_0 rfl (lv_at hl 0 rfl) ?_
  refine lv_iconst (v := (-1)) hx hb nd_F_orFault_1 (by decide) ?_
  refine lv_icmp_ne (tgt := 15) hx hb nd_F_orFault_2 (by decide) (fun hc => ?_) (fun hc => ?_)
  · have hf := mi_if_f hc hf
    refine lv_iload_n hx hb nd_F_orFault_15 rfl (lv_at hl 0 rfl) ?_
    exact re_i hx hb hr hlocks ((mi_t2 hf).1) (rfl) hP hK hD hS nd_F_orFault_16
  · have hf := mi_if_t hc hf
    exact absurd (mi_t2 hf).2 (by decide)
abbrev rt_F_orFault : Room := { frames := 6, cells := 1, slots := 6, locals := 90 }
set_option maxHeartbeats 4000000 in
set_option maxRecDepth 100000 in
theorem kt_F_orFault (l : Launch) (dC : Nat → ClassId) (dI : Nat → Nat → Nat) (q : Nat → Nat) (cI cZ : ClassId) (sz : Nat) (σ : CS) (z0 : Int32) (v : Int32) (n : Nat) (htr : l.stackTraces = false) (hn : ¬ n = 0) (hf : mc_orFault z0 = some (v, n)) : vx_Met l ny_F_orFault nw_F_orFault rt_F_orFault (va_Pc [.int z0] (prx_ (dC, dI) (wd_C q cI cZ) [(cI, .int), (cZ, .boolean)] sz σ)) (fi_ (dC, dI) (wd_C q cI cZ) [(cI, .int), (cZ, .boolean)] (va_A (wd_C q cI cZ σ) sz)) (xx_ (dC, dI) (wd_C q cI cZ) [(cI, .int), (cZ, .boolean)] (va_A (wd_C q cI cZ σ) sz) n σ) 1 6 (va_A (wd_C q cI cZ σ) sz) := by
  refine vx_ofW (cc := nb_F_orFault) (maxL := 1) (ret := (some .int)) (by decide) rfl ?_
  intro p e s m args below meth c s₁ B hml hno hv
  obtain ⟨rfl, ⟨hsz, hP, hK, hD0, hN⟩, hT, hZ⟩ := hv
  have hx := B.exec
  have hb := B.bytes
  have hr := B.returns
  have hts := atoms_spec (ws := nw_F_orFault) B.pre
  have hB : ∀ w ∈ BG, w.before ([.int z0] : List Value).toArray s = true := fun w h => hts w (List.mem_cons_of_mem _ h)
  have hown : s.vm.findClass "MovedFrames" = some m.cls := findClass_of_methodNamed B.named
  have hlocks := B.notSynchronized
  subst hsz
  have hD := hD0.self (sz := s.heap.size)
  generalize hAe : va_A (wd_C q cI cZ σ) s.heap.size = A at hD hZ ⊢
  have hA : ∀ q : Nat, s.heap.size ≤ q → A q := fun q h => by rw [← hAe]; exact Or.inr h
  have hS : va_S A s.heap s.heap [] := va_S.rf
  have hl := lv_entry ([.int z0]) (n := 1) (Nat.le_of_ble_eq_true rfl)
  rw [lg_entry_eq]
  generalize (lg_sl ([.int z0]) ++ List.replicate (1 - (lg_sl ([.int z0])).length) Slot.unset).toArray = ls at hl ⊢
  have hl : lv_has ls 1 [(0, .int z0)] := hl
  have hH : s.heap = s.heap := rfl
  unfold mc_orFault at hf
  refine lv_iload_n hx hb nd_F_orFault_0 rfl (lv_at hl 0 rfl) ?_
  refine lv_iconst (v := (-1)) hx hb nd_F_orFault_1 (by decide) ?_
  refine lv_icmp_ne (tgt := 15) hx hb nd_F_orFault_2 (by decide) (fun hc => ?_) (fun hc => ?_)
  · have hf := mi_if_f hc hf
    refine lv_iload_n hx hb nd_F_orFault_15 rfl (lv_at hl 0 rfl) ?_
    exact absurd (mi_t2 hf).2.symm hn
  · have hf := mi_if_t hc hf
    have hm := mi_t2 hf
    exact th_ (text := "nothing at that address") hx hb htr hown (by decide) (by decide) (hB _ lk_511) (hB _ lk_14) hT.2.2.2.2.2.2.2.2.1 (sa_MovedFrames_173 hB hT) sg_MovedFrames_173 hZ hP hK hD hS (hl.1.trans hml.symm) nd_F_orFault_5 nd_F_orFault_8 nd_F_orFault_9 nd_F_orFault_11 nd_F_orFault_14 hno (Nat.le_of_ble_eq_true rfl) (Nat.le_of_ble_eq_true rfl) (Nat.le_of_ble_eq_true rfl) (Nat.le_of_ble_eq_true rfl) hlocks hn (by rw [← hm.2]; rfl) rfl
/-- a contract of a method whose class's name isn't plain, but that no row of the natives stands for (as Met.ofW) -/
theorem ofWF_ {l : Launch} {y : MethodName} {ws ws' : List Cond} {rm : Room} {Pc : Array Value → State → Prop} {Qc : Array Value → State → Outcome → State → Prop} {mc ms : Nat} {free : Addr → Prop} {cc : ByteArray} {maxL : Nat} {ret : Option FieldType}
    (hy : plainFor y = true) (hw : ws = Cond.code y cc maxL ret :: ws')
    (body : ∀ p e s m args below meth c s₁, BodyLoose p l y (headSpec ws rm) cc maxL ret e s m args below meth c s₁ → c.maxLocals = maxL → Pc args s →
      W p l e (headSpec ws rm).room s m args below meth c s.heap [] 0 0 (MQ below Qc args s mc ms free) (entryFrame m args maxL)) : Met l y ws rm Pc Qc mc ms free := by
  refine MetFree.of_bodySF (code := cc) (maxLocals := maxL) (ret := ret) hy ?_ ?_
  · intro args s m h hn
    obtain ⟨meth, c, h1, h2, h3, h4, h5, h6, -, -⟩ := Cond.code_spec hn (atoms_spec (ws := ws) h _ (by rw [hw]; exact List.mem_cons_self))
    exact ⟨meth, c, h1, h2, h3, h4, h5, h6⟩
  · intro p e s m args below meth c s₁ B hml hP _
    have hh0 : s₁.heap = s.heap := by rw [B.state]; rfl
    obtain ⟨t, a1, o, b1, b2, b3⟩ := body p e s m args below meth c s₁ B hml hP s₁ hh0 (Stand.of_body B)
    exact ⟨t, o, a1, b1, b2, ⟨b3.1, b3.2⟩⟩
abbrev rm_JM_floorDiv : Room := { frames := 0, cells := 0, slots := 0, locals := 0 }
set_option maxHeartbeats 4000000 in
set_option maxRecDepth 100000 in
theorem kw_JM_floorDiv (l : Launch) (dC : Nat → ClassId) (dI : Nat → Nat → Nat) (q : Nat → Nat) (cI cZ : ClassId) (sz : Nat) (σ : CS) (z0 : Int32) (z1 : Int32) (v : Int32) (hf : mc_floorDiv z0 z1 = some v) : Met l ny_JM_floorDiv nw_JM_floorDiv rm_JM_floorDiv (va_Pc [.int z0, .int z1] (pr_ (dC, dI) (wd_C q cI cZ) [(cI, .int), (cZ, .boolean)] sz σ)) (qi_ (dC, dI) (wd_C q cI cZ) [(cI, .int), (cZ, .boolean)] (va_A (wd_C q cI cZ σ) sz) v σ) 0 0 (va_A (wd_C q cI cZ σ) sz) := by
  refine ofWF_ (cc := nb_JM_floorDiv) (maxL := 3) (ret := (some .int)) (by decide +kernel) rfl ?_
  intro p e s m args below meth c s₁ B hml hv
  obtain ⟨rfl, hsz, hP, hK, hD0, hN⟩ := hv
  have hx := B.exec
  have hb := B.bytes
  have hr := B.returns
  have hts := atoms_spec (ws := nw_JM_floorDiv) B.pre
  have hB : ∀ w ∈ BG, w.before ([.int z0, .int z1] : List Value).toArray s = true := fun w h => hts w (List.mem_cons_of_mem _ h)
  have hown : s.vm.findClass "java/lang/Math" = some m.cls := findClass_of_methodNamed B.named
  have hlocks := B.notSynchronized
  subst hsz
  have hD := hD0.self (sz := s.heap.size)
  generalize hAe : va_A (wd_C q cI cZ σ) s.heap.size = A at hD ⊢
  have hA : ∀ q : Nat, s.heap.size ≤ q → A q := fun q h => by rw [← hAe]; exact Or.inr h
  have hS : va_S A s.heap s.heap [] := va_S.rf
  have hl := lv_entry ([.int z0, .int z1]) (n := 3) (Nat.le_of_ble_eq_true rfl)
  rw [lg_entry_eq]
  generalize (lg_sl ([.int z0, .int z1]) ++ List.replicate (3 - (lg_sl ([.int z0, .int z1])).length) Slot.unset).toArray = ls at hl ⊢
  have hl : lv_has ls 3 [(0, .int z0), (1, .int z1)] := hl
  have hH : s.heap = s.heap := rfl
  unfold mc_floorDiv at hf
  refine lv_iload_n hx hb nd_JM_floorDiv_0 rfl (lv_at hl 0 rfl) ?_
  refine lv_iload_n hx hb nd_JM_floorDiv_1 rfl (lv_at hl 1 rfl) ?_
  obtain ⟨hg, hf⟩ := mi_gd_el hf
  refine lv_idiv hx hb nd_JM_floorDiv_2 hg ?_
  refine lv_istore_n (lv' := [(2, .int (z0 / z1)), (0, .int z0), (1, .int z1)]) hx hb nd_JM_floorDiv_3 rfl hl (by decide) rfl (fun ls hl => ?_)
  refine lv_iload_n hx hb nd_JM_floorDiv_4 rfl (lv_at hl 1 rfl) ?_
  refine lv_iload_n hx hb nd_JM_floorDiv_5 rfl (lv_at hl 2 rfl) ?_
  refine lv_ixor hx hb nd_JM_floorDiv_6 ?_
  refine lv_if_ge (tgt := 21) hx hb nd_JM_floorDiv_7 (by decide) (fun hc => ?_) (fun hc => ?_)
  · have hf := mi_if_t hc hf
    refine lv_iload_n hx hb nd_JM_floorDiv_21 rfl (lv_at hl 0 rfl) ?_
    exact re_i hx hb hr hlocks (mi_eq hf) (rfl) hP hK hD hS nd_JM_floorDiv_22
  · have hf := mi_if_f hc hf
    refine lv_iload_n hx hb nd_JM_floorDiv_10 rfl (lv_at hl 0 rfl) ?_
    refine lv_iload_n hx hb nd_JM_floorDiv_11 rfl (lv_at hl 2 rfl) ?_
    refine lv_imul hx hb nd_JM_floorDiv_12 ?_
    refine lv_iload_n hx hb nd_JM_floorDiv_13 rfl (lv_at hl 1 rfl) ?_
    refine lv_icmp_eq (tgt := 21) hx hb nd_JM_floorDiv_14 (by decide) (fun hc => ?_) (fun hc => ?_)
    · have hf := mi_if_t hc hf
      refine lv_iload_n hx hb nd_JM_floorDiv_21 rfl (lv_at hl 0 rfl) ?_
      exact re_i hx hb hr hlocks (mi_eq hf) (rfl) hP hK hD hS nd_JM_floorDiv_22
    · have hf := mi_if_f hc hf
      refine lv_iload_n hx hb nd_JM_floorDiv_17 rfl (lv_at hl 0 rfl) ?_
      refine lv_iconst (v := 1) hx hb nd_JM_floorDiv_18 (by decide) ?_
      refine lv_isub hx hb nd_JM_floorDiv_19 ?_
      exact re_i hx hb hr hlocks (mi_eq hf) (rfl) hP hK hD hS nd_JM_floorDiv_20
