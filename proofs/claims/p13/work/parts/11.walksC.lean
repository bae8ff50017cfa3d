abbrev rm_F_orNotAsTold : Room := { frames := 0, cells := 0, slots := 0, locals := 0 }
set_option maxHeartbeats 4000000 in
set_option maxRecDepth 100000 in
theorem kw_F_orNotAsTold (l : Launch) (dC : Nat → ClassId) (dI : Nat → Nat → Nat) (q : Nat → Nat) (cI cZ : ClassId) (sz : Nat) (σ : CS) (z0 : Int32) (v : Int32) (hf : mc_orNotAsTold z0 = some (v, 0)) : Met l ny_F_orNotAsTold nw_F_orNotAsTold rm_F_orNotAsTold (va_Pc [.int z0] (pr_ (dC, dI) (wd_C q cI cZ) [(cI, .int), (cZ, .boolean)] sz σ)) (qi_ (dC, dI) (wd_C q cI cZ) [(cI, .int), (cZ, .boolean)] (va_A (wd_C q cI cZ σ) sz) v σ) 0 0 (va_A (wd_C q cI cZ σ) sz) := by
  refine Met.ofW (cc := nb_F_orNotAsTold) (maxL := 1) (ret := (some .int)) (by decide) rfl ?_
  intro p e s m args below meth c s₁ B hml hv
  obtain ⟨rfl, hsz, hP, hK, hD0, hN⟩ := hv
  have hx := B.exec
  have hb := B.bytes
  have hr := B.returns
  have hts := atoms_spec (ws := nw_F_orNotAsTold) B.pre
  have hB : ∀ w ∈ BG, w.before ([.int z0] : List Value).toArray s = true := fun w h => hts w (List.mem_cons_of_mem _ h)
  have hown : s.vm.findClass "MovedFrames" = some m.cls := findClass_of_methodNamed B.named
  have hlocks := B.notSynchronized
  subst hsz
  have hD := hD0.self (sz := s.heap.size)
  generalize hAe : va_A (wd_C q cI cZ σ) s.heap.size = A at hD ⊢
  have hA : ∀ q : Nat, s.heap.size ≤ q → A q := fun q h => by rw [← hAe]; exact Or.inr h
  have hS : va_S A s.heap s.heap [] := va_S.rf
  have hl := lv_entry ([.int z0]) (n := 1) (Nat.le_of_ble_eq_true rfl)
  rw [lg_entry_eq]
  generalize (lg_sl ([.int z0]) ++ List.replicate (1 - (lg_sl ([.int z0])).length) Slot.unset).toArray = ls at hl ⊢
  have hl : lv_has ls 1 [(0, .int z0)] := hl
  have hH : s.heap = s.heap := rfl
  unfold mc_orNotAsTold at hf
  refine lv_iload_n hx hb nd_F_orNotAsTold_0 rfl (lv_at hl 0 rfl) ?_
  refine lv_iconst (v := (-1)) hx hb nd_F_orNotAsTold_1 (by decide) ?_
  refine lv_icmp_ne (tgt := 15) hx hb nd_F_orNotAsTold_2 (by decide) (fun hc => ?_) (fun hc => ?_)
  · have hf := mi_if_f hc hf
    refine lv_iload_n hx hb nd_F_orNotAsTold_15 rfl (lv_at hl 0 rfl) ?_
    exact re_i hx hb hr hlocks ((mi_t2 hf).1) (rfl) hP hK hD hS nd_F_orNotAsTold_16
  · have hf := mi_if_t hc hf
    exact absurd (mi_t2 hf).2 (by decide)
abbrev rt_F_orNotAsTold : Room := { frames := 6, cells := 1, slots := 6, locals := 90 }
set_option maxHeartbeats 4000000 in
set_option maxRecDepth 100000 in
theorem kt_F_orNotAsTold (l : Launch) (dC : Nat → ClassId) (dI : Nat → Nat → Nat) (q : Nat → Nat) (cI cZ : ClassId) (sz : Nat) (σ : CS) (z0 : Int32) (v : Int32) (n : Nat) (htr : l.stackTraces = false) (hn : ¬ n = 0) (hf : mc_orNotAsTold z0 = some (v, n)) : vx_Met l ny_F_orNotAsTold nw_F_orNotAsTold rt_F_orNotAsTold (va_Pc [.int z0] (prx_ (dC, dI) (wd_C q cI cZ) [(cI, .int), (cZ, .boolean)] sz σ)) (fi_ (dC, dI) (wd_C q cI cZ) [(cI, .int), (cZ, .boolean)] (va_A (wd_C q cI cZ σ) sz)) (xx_ (dC, dI) (wd_C q cI cZ) [(cI, .int), (cZ, .boolean)] (va_A (wd_C q cI cZ σ) sz) n σ) 1 6 (va_A (wd_C q cI cZ σ) sz) := by
  refine vx_ofW (cc := nb_F_orNotAsTold) (maxL := 1) (ret := (some .int)) (by decide) rfl ?_
  intro p e s m args below meth c s₁ B hml hno hv
  obtain ⟨rfl, ⟨hsz, hP, hK, hD0, hN⟩, hT, hZ⟩ := hv
  have hx := B.exec
  have hb := B.bytes
  have hr := B.returns
  have hts := atoms_spec (ws := nw_F_orNotAsTold) B.pre
  have hB : ∀ w ∈ BG, w.before ([.int z0] : List Value).toArray s = true := fun w h => hts w (List.mem_cons_of_mem _ h)
  have hown : s.vm.findClass "MovedFrames" = some m.cls := findClass_of_methodNamed B.named
  have hlocks := B.notSynchronized
  subst hsz
  have hD := hD0.self (sz := s.heap.size)
  generalize hAe : va_A (wd_C q cI cZ σ) s.heap.size = A at hD hZ ⊢
  have hA : ∀ q : Nat, s.heap.size ≤ q → A q := fun q h => by rw [← hAe]; exact Or.inr h
  have hS : va_S A s.heap s.heap [] := va_S.rf
  have hl := lv_entry ([.int z0]) (n := 1) (Nat.le_of_ble_eq_true rfl)
  rw [lg_entry_eq]
  generalize (lg_sl ([.int z0]) ++ List.replicate (1 - (lg_sl ([.int z0])).length) Slot.unset).toArray = ls at hl ⊢
  have hl : lv_has ls 1 [(0, .int z0)] := hl
  have hH : s.heap = s.heap := rfl
  unfold mc_orNotAsTold at hf
  refine lv_iload_n hx hb nd_F_orNotAsTold_0 rfl (lv_at hl 0 rfl) ?_
  refine lv_iconst (v := (-1)) hx hb nd_F_orNotAsTold_1 (by decide) ?_
  refine lv_icmp_ne (tgt := 15) hx hb nd_F_orNotAsTold_2 (by decide) (fun hc => ?_) (fun hc => ?_)
  · have hf := mi_if_f hc hf
    refine lv_iload_n hx hb nd_F_orNotAsTold_15 rfl (lv_at hl 0 rfl) ?_
    exact absurd (mi_t2 hf).2.symm hn
  · have hf := mi_if_t hc hf
    have hm := mi_t2 hf
    exact th_ (text := "nothing with that number is there") hx hb htr hown (by decide) (by decide) (hB _ lk_224) (hB _ lk_11) hT.2.2.2.1 (sa_MovedFrames_52 hB hT) sg_MovedFrames_52 hZ hP hK hD hS (hl.1.trans hml.symm) nd_F_orNotAsTold_5 nd_F_orNotAsTold_8 nd_F_orNotAsTold_9 nd_F_orNotAsTold_11 nd_F_orNotAsTold_14 hno (Nat.le_of_ble_eq_true rfl) (Nat.le_of_ble_eq_true rfl) (Nat.le_of_ble_eq_true rfl) (Nat.le_of_ble_eq_true rfl) hlocks hn (by rw [← hm.2]; rfl) rfl
abbrev rm_F_kfree : Room := { frames := 7, cells := 0, slots := 0, locals := 110 }
set_option maxHeartbeats 4000000 in
set_option maxRecDepth 100000 in
theorem kw_F_kfree (l : Launch) (dC : Nat → ClassId) (dI : Nat → Nat → Nat) (q : Nat → Nat) (cI cZ : ClassId) (sz : Nat) (σ : CS) (z1 : Int32) (v : Int32) (σ' : CS) (hf : mc_kfree σ z1 = some (v, 0, σ')) : Met l ny_F_kfree nw_F_kfree rm_F_kfree (va_Pc [.ref (q 0), .int z1] (pr_ (dC, dI) (wd_C q cI cZ) [(cI, .int), (cZ, .boolean)] sz σ)) (qv_ (dC, dI) (wd_C q cI cZ) [(cI, .int), (cZ, .boolean)] (va_A (wd_C q cI cZ σ) sz) σ') 0 0 (va_A (wd_C q cI cZ σ) sz) := by
  refine Met.ofW (cc := nb_F_kfree) (maxL := 2) (ret := none) (by decide) rfl ?_
  intro p e s m args below meth c s₁ B hml hv
  obtain ⟨rfl, hsz, hP, hK, hD0, hN⟩ := hv
  have hx := B.exec
  have hb := B.bytes
  have hr := B.returns
  have hts := atoms_spec (ws := nw_F_kfree) B.pre
  have hB : ∀ w ∈ BG, w.before ([.ref (q 0), .int z1] : List Value).toArray s = true := fun w h => hts w (List.mem_cons_of_mem _ h)
  have hown : s.vm.findClass "MovedFrames" = some m.cls := findClass_of_methodNamed B.named
  have hlocks := B.notSynchronized
  subst hsz
  have hD := hD0.self (sz := s.heap.size)
  generalize hAe : va_A (wd_C q cI cZ σ) s.heap.size = A at hD ⊢
  have hA : ∀ q : Nat, s.heap.size ≤ q → A q := fun q h => by rw [← hAe]; exact Or.inr h
  have hS : va_S A s.heap s.heap [] := va_S.rf
  have hl := lv_entry ([.ref (q 0), .int z1]) (n := 2) (Nat.le_of_ble_eq_true rfl)
  rw [lg_entry_eq]
  generalize (lg_sl ([.ref (q 0), .int z1]) ++ List.replicate (2 - (lg_sl ([.ref (q 0), .int z1])).length) Slot.unset).toArray = ls at hl ⊢
  have hl : lv_has ls 2 [(0, .ref (q 0)), (1, .int z1)] := hl
  have hH : s.heap = s.heap := rfl
  unfold mc_kfree at hf
  refine lv_aload_n hx hb nd_F_kfree_0 rfl (lv_at hl 0 rfl) ?_
  refine va_get (D := (dC, dI)) (ci := 5) (v := .ref (q 2)) (C := RX5) (T := TX5) (N := 5) hx hb hB inB5 hown hK hP 0 rfl rfl 1 (by decide) (hB _ lk_114) (fun _ h9 => h9) rfl nd_F_kfree_1 ?_
  refine lv_iload_n hx hb nd_F_kfree_4 rfl (lv_at hl 1 rfl) ?_
  obtain ⟨r2, σ1, hc, hf⟩ := mi_cw_el hf
  refine ca_i (va_runV (C := "MovedFrames$Slabs") (As := [.int z1]) (rest := []) ⟨hx, hb, hml, hown, hB⟩ (kw_Slabs_remove l dC dI q cI cZ _ σ z1 r2 σ1 hc) ⟨callB_of 1 hB (gi_ lk_368) rfl rfl rfl (hB _ lk_3) (hB _ lk_365) (by decide +kernel) ⟨Nat.le_of_ble_eq_true rfl, Nat.le_of_ble_eq_true rfl⟩, hB _ lk_366, hB _ lk_367⟩ ⟨bl_, va_recv (ci := 3) (q0 := 2) hK hP rfl rfl, pre_ hP hK hD hN⟩ rfl rfl hl.1 rfl (lv_room (Nat.le_of_ble_eq_true rfl)) nd_F_kfree_5 ⟨Nat.zero_le _, Nat.zero_le _⟩) hD hS hA (fun H locs hP hD hS => ?_)
  obtain ⟨r3, n9, hc, hq⟩ := mi_tq_el hf
  rcases hq with ⟨h9, hf⟩ | ⟨h9, hf⟩
  · subst h9
    refine ca_i (va_runS (As := [.int r2]) (rest := []) ⟨hx, hb, hml, hown, hB⟩ (kw_F_orNotAsTold l dC dI q cI cZ _ σ1 r2 r3 hc) ⟨callB_of 1 hB (gi_ lk_375) rfl rfl rfl (hB _ lk_1) (hB _ lk_373) (by decide +kernel) ⟨Nat.le_of_ble_eq_true rfl, Nat.le_of_ble_eq_true rfl⟩, hB _ lk_374⟩ ⟨bl_, pre_ hP hK hD hN⟩ rfl rfl hl.1 rfl (lv_room (Nat.le_of_ble_eq_true rfl)) nd_F_kfree_8 ⟨Nat.zero_le _, Nat.zero_le _⟩) hD hS hA (fun H locs hP hD hS => ?_)
    refine lv_pop hx hb nd_F_kfree_11 rfl ?_
    exact re_v hx hb hr hlocks ((mi_t3 hf).2.2) hP hK hD hS nd_F_kfree_12
  · exact absurd (congrArg (fun z => z.2.1) hf).symm h9
abbrev rt_F_kfree : Room := { frames := 7, cells := 1, slots := 6, locals := 110 }
set_option maxHeartbeats 4000000 in
set_option maxRecDepth 100000 in
theorem kt_F_kfree (l : Launch) (dC : Nat → ClassId) (dI : Nat → Nat → Nat) (q : Nat → Nat) (cI cZ : ClassId) (sz : Nat) (σ : CS) (z1 : Int32) (v : Int32) (n : Nat) (σ' : CS) (htr : l.stackTraces = false) (hn : ¬ n = 0) (hf : mc_kfree σ z1 = some (v, n, σ')) : vx_Met l ny_F_kfree nw_F_kfree rt_F_kfree (va_Pc [.ref (q 0), .int z1] (prx_ (dC, dI) (wd_C q cI cZ) [(cI, .int), (cZ, .boolean)] sz σ)) (fv_ (dC, dI) (wd_C q cI cZ) [(cI, .int), (cZ, .boolean)] (va_A (wd_C q cI cZ σ) sz)) (xx_ (dC, dI) (wd_C q cI cZ) [(cI, .int), (cZ, .boolean)] (va_A (wd_C q cI cZ σ) sz) n σ') 1 6 (va_A (wd_C q cI cZ σ) sz) := by
  refine vx_ofW (cc := nb_F_kfree) (maxL := 2) (ret := none) (by decide) rfl ?_
  intro p e s m args below meth c s₁ B hml hno hv
  obtain ⟨rfl, ⟨hsz, hP, hK, hD0, hN⟩, hT, hZ⟩ := hv
  have hx := B.exec
  have hb := B.bytes
  have hr := B.returns
  have hts := atoms_spec (ws := nw_F_kfree) B.pre
  have hB : ∀ w ∈ BG, w.before ([.ref (q 0), .int z1] : List Value).toArray s = true := fun w h => hts w (List.mem_cons_of_mem _ h)
  have hown : s.vm.findClass "MovedFrames" = some m.cls := findClass_of_methodNamed B.named
  have hlocks := B.notSynchronized
  subst hsz
  have hD := hD0.self (sz := s.heap.size)
  generalize hAe : va_A (wd_C q cI cZ σ) s.heap.size = A at hD hZ ⊢
  have hA : ∀ q : Nat, s.heap.size ≤ q → A q := fun q h => by rw [← hAe]; exact Or.inr h
  have hS : va_S A s.heap s.heap [] := va_S.rf
  have hl := lv_entry ([.ref (q 0), .int z1]) (n := 2) (Nat.le_of_ble_eq_true rfl)
  rw [lg_entry_eq]
  generalize (lg_sl ([.ref (q 0), .int z1]) ++ List.replicate (2 - (lg_sl ([.ref (q 0), .int z1])).length) Slot.unset).toArray = ls at hl ⊢
  have hl : lv_has ls 2 [(0, .ref (q 0)), (1, .int z1)] := hl
  have hH : s.heap = s.heap := rfl
  unfold mc_kfree at hf
  refine lv_aload_n hx hb nd_F_kfree_0 rfl (lv_at hl 0 rfl) ?_
  refine va_get (D := (dC, dI)) (ci := 5) (v := .ref (q 2)) (C := RX5) (T := TX5) (N := 5) hx hb hB inB5 hown hK hP 0 rfl rfl 1 (by decide) (hB _ lk_114) (fun _ h9 => h9) rfl nd_F_kfree_1 ?_
  refine lv_iload_n hx hb nd_F_kfree_4 rfl (lv_at hl 1 rfl) ?_
  obtain ⟨r2, σ1, hc, hf⟩ := mi_cw_el hf
  refine ca_i (va_runV (C := "MovedFrames$Slabs") (As := [.int z1]) (rest := []) ⟨hx, hb, hml, hown, hB⟩ (kw_Slabs_remove l dC dI q cI cZ _ σ z1 r2 σ1 hc) ⟨callB_of 1 hB (gi_ lk_368) rfl rfl rfl (hB _ lk_3) (hB _ lk_365) (by decide +kernel) ⟨Nat.le_of_ble_eq_true rfl, Nat.le_of_ble_eq_true rfl⟩, hB _ lk_366, hB _ lk_367⟩ ⟨bl_, va_recv (ci := 3) (q0 := 2) hK hP rfl rfl, pre_ hP hK hD hN⟩ rfl rfl hl.1 rfl (lv_room (Nat.le_of_ble_eq_true rfl)) nd_F_kfree_5 ⟨Nat.zero_le _, Nat.zero_le _⟩) hD hS hA (fun H locs hP hD hS => ?_)
  obtain ⟨r3, n9, hc, hq⟩ := mi_tq_el hf
  rcases hq with ⟨h9, hf⟩ | ⟨h9, hf⟩
  · subst h9
    refine ca_i (va_runS (As := [.int r2]) (rest := []) ⟨hx, hb, hml, hown, hB⟩ (kw_F_orNotAsTold l dC dI q cI cZ _ σ1 r2 r3 hc) ⟨callB_of 1 hB (gi_ lk_375) rfl rfl rfl (hB _ lk_1) (hB _ lk_373) (by decide +kernel) ⟨Nat.le_of_ble_eq_true rfl, Nat.le_of_ble_eq_true rfl⟩, hB _ lk_374⟩ ⟨bl_, pre_ hP hK hD hN⟩ rfl rfl hl.1 rfl (lv_room (Nat.le_of_ble_eq_true rfl)) nd_F_kfree_8 ⟨Nat.zero_le _, Nat.zero_le _⟩) hD hS hA (fun H locs hP hD hS => ?_)
    refine lv_pop hx hb nd_F_kfree_11 rfl ?_
    exact absurd (mi_t3 hf).2.1.symm hn
  · obtain ⟨-, hm, hs9⟩ := mi_t3 (congrArg some hf)
    have hm := hm.symm
    subst hm
    have hs9 := hs9.symm
    subst hs9
    exact cx_i (vx_runS (As := [.int r2]) (rest := []) ⟨hx, hb, hml, hown, hB⟩ (kt_F_orNotAsTold l dC dI q cI cZ _ σ1 r2 r3 n9 htr h9 hc) ⟨callB_of 1 hB (gi_ lk_375) rfl rfl rfl (hB _ lk_1) (hB _ lk_373) (by decide +kernel) ⟨Nat.le_of_ble_eq_true rfl, Nat.le_of_ble_eq_true rfl⟩, hB _ lk_374⟩ ⟨blx_, prex_ hP hK hD hN hT hZ hS hA⟩ rfl rfl hl.1 rfl (lv_room (Nat.le_of_ble_eq_true rfl)) nd_F_kfree_8 ⟨Nat.le_of_ble_eq_true rfl, Nat.le_of_ble_eq_true rfl⟩) hno hlocks hK hD hS hA
abbrev rm_Ranges_lowestRoom : Room := { frames := 0, cells := 0, slots := 0, locals := 0 }
set_option maxHeartbeats 4000000 in
set_option maxRecDepth 100000 in
theorem kw_Ranges_lowestRoom (l : Launch) (dC : Nat → ClassId) (dI : Nat → Nat → Nat) (q : Nat → Nat) (cI cZ : ClassId) (sz : Nat) (σ : CS) (z1 : Int32) (v : Int32) (hf : mc_Ranges_lowestRoom σ z1 = some v) : Met l ny_Ranges_lowestRoom nw_Ranges_lowestRoom rm_Ranges_lowestRoom (va_Pc [.ref (q 3), .int z1] (pr_ (dC, dI) (wd_C q cI cZ) [(cI, .int), (cZ, .boolean)] sz σ)) (qi_ (dC, dI) (wd_C q cI cZ) [(cI, .int), (cZ, .boolean)] (va_A (wd_C q cI cZ σ) sz) v σ) 0 0 (va_A (wd_C q cI cZ σ) sz) := by
  refine Met.ofW (cc := nb_Ranges_lowestRoom) (maxL := 4) (ret := (some .int)) (by decide) rfl ?_
  intro p e s m args below meth c s₁ B hml hv
  obtain ⟨rfl, hsz, hP, hK, hD0, hN⟩ := hv
  have hx := B.exec
  have hb := B.bytes
  have hr := B.returns
  have hts := atoms_spec (ws := nw_Ranges_lowestRoom) B.pre
  have hB : ∀ w ∈ BG, w.before ([.ref (q 3), .int z1] : List Value).toArray s = true := fun w h => hts w (List.mem_cons_of_mem _ h)
  have hown : s.vm.findClass "MovedFrames$Ranges" = some m.cls := findClass_of_methodNamed B.named
  have hlocks := B.notSynchronized
  subst hsz
  have hD := hD0.self (sz := s.heap.size)
  generalize hAe : va_A (wd_C q cI cZ σ) s.heap.size = A at hD ⊢
  have hA : ∀ q : Nat, s.heap.size ≤ q → A q := fun q h => by rw [← hAe]; exact Or.inr h
  have hS : va_S A s.heap s.heap [] := va_S.rf
  have hl := lv_entry ([.ref (q 3), .int z1]) (n := 4) (Nat.le_of_ble_eq_true rfl)
  rw [lg_entry_eq]
  generalize (lg_sl ([.ref (q 3), .int z1]) ++ List.replicate (4 - (lg_sl ([.ref (q 3), .int z1])).length) Slot.unset).toArray = ls at hl ⊢
  have hl : lv_has ls 4 [(0, .ref (q 3)), (1, .int z1)] := hl
  have B26 : ∀ (k4 : Int32 → Int32 → Int32 → CS → Option (Int32)) (hk4 : ∀ (x1 : Int32) (x2 : Int32) (x3 : Int32), k4 x1 x2 x3 σ = some v → bk_ p l e rm_Ranges_lowestRoom s m ([.ref (q 3), .int z1] : List Value).toArray below meth c (MQ below (qi_ (dC, dI) (wd_C q cI cZ) [(cI, .int), (cZ, .boolean)] A v σ) ([.ref (q 3), .int z1] : List Value).toArray s 0 0 A) A (dC, dI) (wd_C q cI cZ) 4 4 [(0, .ref (q 3)), (1, .int x1), (2, .int x2), (3, .int x3)] [] σ) (x1 : Int32) (x3 : Int32) (y0 : Int32), mc_Ranges_lowestRoom_b26 k4 x1 x3 y0 σ = some v → bk_ p l e rm_Ranges_lowestRoom s m ([.ref (q 3), .int z1] : List Value).toArray below meth c (MQ below (qi_ (dC, dI) (wd_C q cI cZ) [(cI, .int), (cZ, .boolean)] A v σ) ([.ref (q 3), .int z1] : List Value).toArray s 0 0 A) A (dC, dI) (wd_C q cI cZ) 4 26 [(0, .ref (q 3)), (1, .int x1), (3, .int x3)] [.int y0] σ := by
    intro k4 hk4 x1 x3 y0 hf ls H locs hl hP hD hS
    unfold mc_Ranges_lowestRoom_b26 at hf
    refine lv_istore_n (lv' := [(2, .int y0), (0, .ref (q 3)), (1, .int x1), (3, .int x3)]) hx hb nd_Ranges_lowestRoom_26 rfl hl (by decide) rfl (fun ls hl => ?_)
    refine lv_iload_n hx hb nd_Ranges_lowestRoom_27 rfl (lv_at hl 0 rfl) ?_
    refine lv_iload_n hx hb nd_Ranges_lowestRoom_28 rfl (lv_at hl 2 rfl) ?_
    refine lv_icmp_ne (tgt := 38) hx hb nd_Ranges_lowestRoom_29 (by decide) (fun hc => ?_) (fun hc => ?_)
    · have hf := mi_if_f hc hf
      refine lv_iinc (k := 3) (v := x3 + (1 : Int32)) (lv' := [(3, .int (x3 + (1 : Int32))), (2, .int y0), (0, .ref (q 3)), (1, .int x1)]) hx hb nd_Ranges_lowestRoom_38 hl rfl (congrArg (fun z => x3 + z) (by decide : Int32.ofInt 1 = (1 : Int32))) (by decide) rfl (fun ls hl => ?_)
      refine lv_goto (tgt := 4) hx hb nd_Ranges_lowestRoom_41 (by decide) ?_
      exact hk4 x1 y0 (x3 + (1 : Int32)) hf _ _ _ (lv_sub hl [2, 3, 1, 0] rfl) hP hD hS
    · have hf := mi_if_t hc hf
      refine lv_iload_n hx hb nd_Ranges_lowestRoom_32 rfl (lv_at hl 3 rfl) ?_
      refine lv_iload_n hx hb nd_Ranges_lowestRoom_33 rfl (lv_at hl 2 rfl) ?_
      refine lv_isub hx hb nd_Ranges_lowestRoom_34 ?_
      refine lv_iconst (v := 1) hx hb nd_Ranges_lowestRoom_35 (by decide) ?_
      refine lv_iadd hx hb nd_Ranges_lowestRoom_36 ?_
      exact re_i hx hb hr hlocks (mi_eq hf) (rfl) hP hK hD hS nd_Ranges_lowestRoom_37
  have B4 : ∀ (k4 : Int32 → Int32 → Int32 → CS → Option (Int32)) (hk4 : ∀ (x1 : Int32) (x2 : Int32) (x3 : Int32), k4 x1 x2 x3 σ = some v → bk_ p l e rm_Ranges_lowestRoom s m ([.ref (q 3), .int z1] : List Value).toArray below meth c (MQ below (qi_ (dC, dI) (wd_C q cI cZ) [(cI, .int), (cZ, .boolean)] A v σ) ([.ref (q 3), .int z1] : List Value).toArray s 0 0 A) A (dC, dI) (wd_C q cI cZ) 4 4 [(0, .ref (q 3)), (1, .int x1), (2, .int x2), (3, .int x3)] [] σ) (x1 : Int32) (x2 : Int32) (x3 : Int32), mc_Ranges_lowestRoom_b4 k4 x1 x2 x3 σ = some v → bk_ p l e rm_Ranges_lowestRoom s m ([.ref (q 3), .int z1] : List Value).toArray below meth c (MQ below (qi_ (dC, dI) (wd_C q cI cZ) [(cI, .int), (cZ, .boolean)] A v σ) ([.ref (q 3), .int z1] : List Value).toArray s 0 0 A) A (dC, dI) (wd_C q cI cZ) 4 4 [(0, .ref (q 3)), (1, .int x1), (2, .int x2), (3, .int x3)] [] σ := by
    intro k4 hk4 x1 x2 x3 hf ls H locs hl hP hD hS
    unfold mc_Ranges_lowestRoom_b4 at hf
    refine lv_iload_n hx hb nd_Ranges_lowestRoom_4 rfl (lv_at hl 3 rfl) ?_
    refine lv_bipush (v := 64) hx hb nd_Ranges_lowestRoom_5 (by decide) ?_
    refine lv_icmp_ge (tgt := 44) hx hb nd_Ranges_lowestRoom_7 (by decide) (fun hc => ?_) (fun hc => ?_)
    · have hf := mi_if_t hc hf
      refine lv_iconst (v := (-1)) hx hb nd_Ranges_lowestRoom_44 (by decide) ?_
      exact re_i hx hb hr hlocks (mi_eq hf) (rfl) hP hK hD hS nd_Ranges_lowestRoom_45
    · have hf := mi_if_f hc hf
      refine lv_aload_n hx hb nd_Ranges_lowestRoom_10 rfl (lv_at hl 0 rfl) ?_
      refine va_get (D := (dC, dI)) (ci := 1) (v := .ref (q 10)) (C := RX1) (T := TX1) (N := 3) hx hb hB inB1 hown hK hP 3 rfl rfl 1 (by decide) (hB _ lk_65) (fun _ h9 => h9) rfl nd_Ranges_lowestRoom_11 ?_
      refine lv_iload_n hx hb nd_Ranges_lowestRoom_14 rfl (lv_at hl 3 rfl) ?_
      obtain ⟨hg, hf⟩ := mi_gd_el hf
      refine va_iald hx hb hK hP 10 0 rfl rfl hg nd_Ranges_lowestRoom_15 ?_
      refine lv_if_ne (tgt := 25) hx hb nd_Ranges_lowestRoom_16 (by decide) (fun hc => ?_) (fun hc => ?_)
      · have hf := mi_if_f hc hf
        refine lv_iconst (v := 0) hx hb nd_Ranges_lowestRoom_25 (by decide) ?_
        exact B26 k4 hk4 x1 x3 (0 : Int32) hf _ _ _ (lv_sub hl [0, 1, 3] rfl) hP hD hS
      · have hf := mi_if_t hc hf
        refine lv_iload_n hx hb nd_Ranges_lowestRoom_19 rfl (lv_at hl 2 rfl) ?_
        refine lv_iconst (v := 1) hx hb nd_Ranges_lowestRoom_20 (by decide) ?_
        refine lv_iadd hx hb nd_Ranges_lowestRoom_21 ?_
        refine lv_goto (tgt := 26) hx hb nd_Ranges_lowestRoom_22 (by decide) ?_
        exact B26 k4 hk4 x1 x3 (x2 + (1 : Int32)) hf _ _ _ (lv_sub hl [0, 1, 3] rfl) hP hD hS
  have L4 : ∀ (n : Nat) (x1 : Int32) (x2 : Int32) (x3 : Int32), mc_Ranges_lowestRoom_l4 n x1 x2 x3 σ = some v → bk_ p l e rm_Ranges_lowestRoom s m ([.ref (q 3), .int z1] : List Value).toArray below meth c (MQ below (qi_ (dC, dI) (wd_C q cI cZ) [(cI, .int), (cZ, .boolean)] A v σ) ([.ref (q 3), .int z1] : List Value).toArray s 0 0 A) A (dC, dI) (wd_C q cI cZ) 4 4 [(0, .ref (q 3)), (1, .int x1), (2, .int x2), (3, .int x3)] [] σ := by
    intro n
    induction n with
    | zero =>
      intro x1 x2 x3 hf
      exact mi_no hf
    | succ n ih =>
      intro x1 x2 x3 hf
      exact B4 (mc_Ranges_lowestRoom_l4 n) ih x1 x2 x3 hf
  have hH : s.heap = s.heap := rfl
  unfold mc_Ranges_lowestRoom at hf
  refine lv_iconst (v := 0) hx hb nd_Ranges_lowestRoom_0 (by decide) ?_
  refine lv_istore_n (lv' := [(2, .int (0 : Int32)), (0, .ref (q 3)), (1, .int z1)]) hx hb nd_Ranges_lowestRoom_1 rfl hl (by decide) rfl (fun ls hl => ?_)
  refine lv_iconst (v := 0) hx hb nd_Ranges_lowestRoom_2 (by decide) ?_
  refine lv_istore_n (lv' := [(3, .int (0 : Int32)), (2, .int (0 : Int32)), (0, .ref (q 3)), (1, .int z1)]) hx hb nd_Ranges_lowestRoom_3 rfl hl (by decide) rfl (fun ls hl => ?_)
  exact L4 FU z1 (0 : Int32) (0 : Int32) hf _ _ _ (lv_sub hl [2, 3, 1, 0] rfl) hP hD hS
abbrev rm_JL_bitCount : Room := { frames := 0, cells := 0, slots := 0, locals := 0 }
set_option maxHeartbeats 4000000 in
set_option maxRecDepth 100000 in
theorem kw_JL_bitCount (l : Launch) (dC : Nat → ClassId) (dI : Nat → Nat → Nat) (q : Nat → Nat) (cI cZ : ClassId) (sz : Nat) (σ : CS) (z0 : Int64) (v : Int32) (hf : mc_bitCount z0 = some v) : Met l ny_JL_bitCount nw_JL_bitCount rm_JL_bitCount (va_Pc [.long z0] (pr_ (dC, dI) (wd_C q cI cZ) [(cI, .int), (cZ, .boolean)] sz σ)) (qi_ (dC, dI) (wd_C q cI cZ) [(cI, .int), (cZ, .boolean)] (va_A (wd_C q cI cZ σ) sz) v σ) 0 0 (va_A (wd_C q cI cZ σ) sz) := by
  refine Met.ofW (cc := nb_JL_bitCount) (maxL := 2) (ret := (some .int)) (by decide) rfl ?_
  intro p e s m args below meth c s₁ B hml hv
  obtain ⟨rfl, hsz, hP, hK, hD0, hN⟩ := hv
  have hx := B.exec
  have hb := B.bytes
  have hr := B.returns
  have hts := atoms_spec (ws := nw_JL_bitCount) B.pre
  have hB : ∀ w ∈ BG, w.before ([.long z0] : List Value).toArray s = true := fun w h => hts w (List.mem_cons_of_mem _ h)
  have hown : s.vm.findClass "java/lang/Long" = some m.cls := findClass_of_methodNamed B.named
  have hlocks := B.notSynchronized
  subst hsz
  have hD := hD0.self (sz := s.heap.size)
  generalize hAe : va_A (wd_C q cI cZ σ) s.heap.size = A at hD ⊢
  have hA : ∀ q : Nat, s.heap.size ≤ q → A q := fun q h => by rw [← hAe]; exact Or.inr h
  have hS : va_S A s.heap s.heap [] := va_S.rf
  have hl := lv_entry ([.long z0]) (n := 2) (Nat.le_of_ble_eq_true rfl)
  rw [lg_entry_eq]
  generalize (lg_sl ([.long z0]) ++ List.replicate (2 - (lg_sl ([.long z0])).length) Slot.unset).toArray = ls at hl ⊢
  have hl : lv_has ls 2 [(0, .long z0)] := hl
  have hH : s.heap = s.heap := rfl
  unfold mc_bitCount at hf
  refine lv_lload_n hx hb nd_JL_bitCount_0 rfl (lv_at hl 0 rfl) ?_
  refine lv_lload_n hx hb nd_JL_bitCount_1 rfl (lv_at hl 0 rfl) ?_
  refine lv_iconst (v := 1) hx hb nd_JL_bitCount_2 (by decide) ?_
  refine lv_lushr (v := (z0.toUInt64 >>> ((1 : Int32).toInt64.toUInt64 &&& Int64.toUInt64 63)).toInt64) hx hb nd_JL_bitCount_3 rfl ?_
  refine lv_ldc2 (v := 6148914691236517205) hx hb hown (hB _ lk_204) nd_JL_bitCount_4 ?_
  refine lv_land hx hb nd_JL_bitCount_7 ?_
  refine lv_lsub hx hb nd_JL_bitCount_8 ?_
  refine lv_lstore_n (lv' := [(0, .long (z0 - (((z0.toUInt64 >>> ((1 : Int32).toInt64.toUInt64 &&& Int64.toUInt64 63)).toInt64) &&& (6148914691236517205 : Int64))))]) hx hb nd_JL_bitCount_9 rfl hl (by decide) rfl (fun ls hl => ?_)
  refine lv_lload_n hx hb nd_JL_bitCount_10 rfl (lv_at hl 0 rfl) ?_
  refine lv_ldc2 (v := 3689348814741910323) hx hb hown (hB _ lk_205) nd_JL_bitCount_11 ?_
  refine lv_land hx hb nd_JL_bitCount_14 ?_
  refine lv_lload_n hx hb nd_JL_bitCount_15 rfl (lv_at hl 0 rfl) ?_
  refine lv_iconst (v := 2) hx hb nd_JL_bitCount_16 (by decide) ?_
  refine lv_lushr (v := ((z0 - (((z0.toUInt64 >>> ((1 : Int32).toInt64.toUInt64 &&& Int64.toUInt64 63)).toInt64) &&& (6148914691236517205 : Int64))).toUInt64 >>> ((2 : Int32).toInt64.toUInt64 &&& Int64.toUInt64 63)).toInt64) hx hb nd_JL_bitCount_17 rfl ?_
  refine lv_ldc2 (v := 3689348814741910323) hx hb hown (hB _ lk_205) nd_JL_bitCount_18 ?_
  refine lv_land hx hb nd_JL_bitCount_21 ?_
  refine lv_ladd hx hb nd_JL_bitCount_22 ?_
  refine lv_lstore_n (lv' := [(0, .long (((z0 - (((z0.toUInt64 >>> ((1 : Int32).toInt64.toUInt64 &&& Int64.toUInt64 63)).toInt64) &&& (6148914691236517205 : Int64))) &&& (3689348814741910323 : Int64)) + ((((z0 - (((z0.toUInt64 >>> ((1 : Int32).toInt64.toUInt64 &&& Int64.toUInt64 63)).toInt64) &&& (6148914691236517205 : Int64))).toUInt64 >>> ((2 : Int32).toInt64.toUInt64 &&& Int64.toUInt64 63)).toInt64) &&& (3689348814741910323 : Int64))))]) hx hb nd_JL_bitCount_23 rfl hl (by decide) rfl (fun ls hl => ?_)
  refine lv_lload_n hx hb nd_JL_bitCount_24 rfl (lv_at hl 0 rfl) ?_
  refine lv_lload_n hx hb nd_JL_bitCount_25 rfl (lv_at hl 0 rfl) ?_
  refine lv_iconst (v := 4) hx hb nd_JL_bitCount_26 (by decide) ?_
  refine lv_lushr (v := ((((z0 - (((z0.toUInt64 >>> ((1 : Int32).toInt64.toUInt64 &&& Int64.toUInt64 63)).toInt64) &&& (6148914691236517205 : Int64))) &&& (3689348814741910323 : Int64)) + ((((z0 - (((z0.toUInt64 >>> ((1 : Int32).toInt64.toUInt64 &&& Int64.toUInt64 63)).toInt64) &&& (6148914691236517205 : Int64))).toUInt64 >>> ((2 : Int32).toInt64.toUInt64 &&& Int64.toUInt64 63)).toInt64) &&& (3689348814741910323 : Int64))).toUInt64 >>> ((4 : Int32).toInt64.toUInt64 &&& Int64.toUInt64 63)).toInt64) hx hb nd_JL_bitCount_27 rfl ?_
  refine lv_ladd hx hb nd_JL_bitCount_28 ?_
  refine lv_ldc2 (v := 1085102592571150095) hx hb hown (hB _ lk_206) nd_JL_bitCount_29 ?_
  refine lv_land hx hb nd_JL_bitCount_32 ?_
  refine lv_lstore_n (lv' := [(0, .long (((((z0 - (((z0.toUInt64 >>> ((1 : Int32).toInt64.toUInt64 &&& Int64.toUInt64 63)).toInt64) &&& (6148914691236517205 : Int64))) &&& (3689348814741910323 : Int64)) + ((((z0 - (((z0.toUInt64 >>> ((1 : Int32).toInt64.toUInt64 &&& Int64.toUInt64 63)).toInt64) &&& (6148914691236517205 : Int64))).toUInt64 >>> ((2 : Int32).toInt64.toUInt64 &&& Int64.toUInt64 63)).toInt64) &&& (3689348814741910323 : Int64))) + (((((z0 - (((z0.toUInt64 >>> ((1 : Int32).toInt64.toUInt64 &&& Int64.toUInt64 63)).toInt64) &&& (6148914691236517205 : Int64))) &&& (3689348814741910323 : Int64)) + ((((z0 - (((z0.toUInt64 >>> ((1 : Int32).toInt64.toUInt64 &&& Int64.toUInt64 63)).toInt64) &&& (6148914691236517205 : Int64))).toUInt64 >>> ((2 : Int32).toInt64.toUInt64 &&& Int64.toUInt64 63)).toInt64) &&& (3689348814741910323 : Int64))).toUInt64 >>> ((4 : Int32).toInt64.toUInt64 &&& Int64.toUInt64 63)).toInt64)) &&& (1085102592571150095 : Int64)))]) hx hb nd_JL_bitCount_33 rfl hl (by decide) rfl (fun ls hl => ?_)
  refine lv_lload_n hx hb nd_JL_bitCount_34 rfl (lv_at hl 0 rfl) ?_
  refine lv_lload_n hx hb nd_JL_bitCount_35 rfl (lv_at hl 0 rfl) ?_
  refine lv_bipush (v := 8) hx hb nd_JL_bitCount_36 (by decide) ?_
  refine lv_lushr (v := ((((((z0 - (((z0.toUInt64 >>> ((1 : Int32).toInt64.toUInt64 &&& Int64.toUInt64 63)).toInt64) &&& (6148914691236517205 : Int64))) &&& (3689348814741910323 : Int64)) + ((((z0 - (((z0.toUInt64 >>> ((1 : Int32).toInt64.toUInt64 &&& Int64.toUInt64 63)).toInt64) &&& (6148914691236517205 : Int64))).toUInt64 >>> ((2 : Int32).toInt64.toUInt64 &&& Int64.toUInt64 63)).toInt64) &&& (3689348814741910323 : Int64))) + (((((z0 - (((z0.toUInt64 >>> ((1 : Int32).toInt64.toUInt64 &&& Int64.toUInt64 63)).toInt64) &&& (6148914691236517205 : Int64))) &&& (3689348814741910323 : Int64)) + ((((z0 - (((z0.toUInt64 >>> ((1 : Int32).toInt64.toUInt64 &&& Int64.toUInt64 63)).toInt64) &&& (6148914691236517205 : Int64))).toUInt64 >>> ((2 : Int32).toInt64.toUInt64 &&& Int64.toUInt64 63)).toInt64) &&& (3689348814741910323 : Int64))).toUInt64 >>> ((4 : Int32).toInt64.toUInt64 &&& Int64.toUInt64 63)).toInt64)) &&& (1085102592571150095 : Int64)).toUInt64 >>> ((8 : Int32).toInt64.toUInt64 &&& Int64.toUInt64 63)).toInt64) hx hb nd_JL_bitCount_38 rfl ?_
  refine lv_ladd hx hb nd_JL_bitCount_39 ?_
  refine lv_lstore_n (lv' := [(0, .long ((((((z0 - (((z0.toUInt64 >>> ((1 : Int32).toInt64.toUInt64 &&& Int64.toUInt64 63)).toInt64) &&& (6148914691236517205 : Int64))) &&& (3689348814741910323 : Int64)) + ((((z0 - (((z0.toUInt64 >>> ((1 : Int32).toInt64.toUInt64 &&& Int64.toUInt64 63)).toInt64) &&& (6148914691236517205 : Int64))).toUInt64 >>> ((2 : Int32).toInt64.toUInt64 &&& Int64.toUInt64 63)).toInt64) &&& (3689348814741910323 : Int64))) + (((((z0 - (((z0.toUInt64 >>> ((1 : Int32).toInt64.toUInt64 &&& Int64.toUInt64 63)).toInt64) &&& (6148914691236517205 : Int64))) &&& (3689348814741910323 : Int64)) + ((((z0 - (((z0.toUInt64 >>> ((1 : Int32).toInt64.toUInt64 &&& Int64.toUInt64 63)).toInt64) &&& (6148914691236517205 : Int64))).toUInt64 >>> ((2 : Int32).toInt64.toUInt64 &&& Int64.toUInt64 63)).toInt64) &&& (3689348814741910323 : Int64))).toUInt64 >>> ((4 : Int32).toInt64.toUInt64 &&& Int64.toUInt64 63)).toInt64)) &&& (1085102592571150095 : Int64)) + (((((((z0 - (((z0.toUInt64 >>> ((1 : Int32).toInt64.toUInt64 &&& Int64.toUInt64 63)).toInt64) &&& (6148914691236517205 : Int64))) &&& (3689348814741910323 : Int64)) + ((((z0 - (((z0.toUInt64 >>> ((1 : Int32).toInt64.toUInt64 &&& Int64.toUInt64 63)).toInt64) &&& (6148914691236517205 : Int64))).toUInt64 >>> ((2 : Int32).toInt64.toUInt64 &&& Int64.toUInt64 63)).toInt64) &&& (3689348814741910323 : Int64))) + (((((z0 - (((z0.toUInt64 >>> ((1 : Int32).toInt64.toUInt64 &&& Int64.toUInt64 63)).toInt64) &&& (6148914691236517205 : Int64))) &&& (3689348814741910323 : Int64)) + ((((z0 - (((z0.toUInt64 >>> ((1 : Int32).toInt64.toUInt64 &&& Int64.toUInt64 63)).toInt64) &&& (6148914691236517205 : Int64))).toUInt64 >>> ((2 : Int32).toInt64.toUInt64 &&& Int64.toUInt64 63)).toInt64) &&& (3689348814741910323 : Int64))).toUInt64 >>> ((4 : Int32).toInt64.toUInt64 &&& Int64.toUInt64 63)).toInt64)) &&& (1085102592571150095 : Int64)).toUInt64 >>> ((8 : Int32).toInt64.toUInt64 &&& Int64.toUInt64 63)).toInt64)))]) hx hb nd_JL_bitCount_40 rfl hl (by decide) rfl (fun ls hl => ?_)
  refine lv_lload_n hx hb nd_JL_bitCount_41 rfl (lv_at hl 0 rfl) ?_
  refine lv_lload_n hx hb nd_JL_bitCount_42 rfl (lv_at hl 0 rfl) ?_
  refine lv_bipush (v := 16) hx hb nd_JL_bitCount_43 (by decide) ?_
  refine lv_lushr (v := (((((((z0 - (((z0.toUInt64 >>> ((1 : Int32).toInt64.toUInt64 &&& Int64.toUInt64 63)).toInt64) &&& (6148914691236517205 : Int64))) &&& (3689348814741910323 : Int64)) + ((((z0 - (((z0.toUInt64 >>> ((1 : Int32).toInt64.toUInt64 &&& Int64.toUInt64 63)).toInt64) &&& (6148914691236517205 : Int64))).toUInt64 >>> ((2 : Int32).toInt64.toUInt64 &&& Int64.toUInt64 63)).toInt64) &&& (3689348814741910323 : Int64))) + (((((z0 - (((z0.toUInt64 >>> ((1 : Int32).toInt64.toUInt64 &&& Int64.toUInt64 63)).toInt64) &&& (6148914691236517205 : Int64))) &&& (3689348814741910323 : Int64)) + ((((z0 - (((z0.toUInt64 >>> ((1 : Int32).toInt64.toUInt64 &&& Int64.toUInt64 63)).toInt64) &&& (6148914691236517205 : Int64))).toUInt64 >>> ((2 : Int32).toInt64.toUInt64 &&& Int64.toUInt64 63)).toInt64) &&& (3689348814741910323 : Int64))).toUInt64 >>> ((4 : Int32).toInt64.toUInt64 &&& Int64.toUInt64 63)).toInt64)) &&& (1085102592571150095 : Int64)) + (((((((z0 - (((z0.toUInt64 >>> ((1 : Int32).toInt64.toUInt64 &&& Int64.toUInt64 63)).toInt64) &&& (6148914691236517205 : Int64))) &&& (3689348814741910323 : Int64)) + ((((z0 - (((z0.toUInt64 >>> ((1 : Int32).toInt64.toUInt64 &&& Int64.toUInt64 63)).toInt64) &&& (6148914691236517205 : Int64))).toUInt64 >>> ((2 : Int32).toInt64.toUInt64 &&& Int64.toUInt64 63)).toInt64) &&& (3689348814741910323 : Int64))) + (((((z0 - (((z0.toUInt64 >>> ((1 : Int32).toInt64.toUInt64 &&& Int64.toUInt64 63)).toInt64) &&& (6148914691236517205 : Int64))) &&& (3689348814741910323 : Int64)) + ((((z0 - (((z0.toUInt64 >>> ((1 : Int32).toInt64.toUInt64 &&& Int64.toUInt64 63)).toInt64) &&& (6148914691236517205 : Int64))).toUInt64 >>> ((2 : Int32).toInt64.toUInt64 &&& Int64.toUInt64 63)).toInt64) &&& (3689348814741910323 : Int64))).toUInt64 >>> ((4 : Int32).toInt64.toUInt64 &&& Int64.toUInt64 63)).toInt64)) &&& (1085102592571150095 : Int64)).toUInt64 >>> ((8 : Int32).toInt64.toUInt64 &&& Int64.toUInt64 63)).toInt64)).toUInt64 >>> ((16 : Int32).toInt64.toUInt64 &&& Int64.toUInt64 63)).toInt64) hx hb nd_JL_bitCount_45 rfl ?_
  refine lv_ladd hx hb nd_JL_bitCount_46 ?_
  refine lv_lstore_n (lv' := [(0, .long (((((((z0 - (((z0.toUInt64 >>> ((1 : Int32).toInt64.toUInt64 &&& Int64.toUInt64 63)).toInt64) &&& (6148914691236517205 : Int64))) &&& (3689348814741910323 : Int64)) + ((((z0 - (((z0.toUInt64 >>> ((1 : Int32).toInt64.toUInt64 &&& Int64.toUInt64 63)).toInt64) &&& (6148914691236517205 : Int64))).toUInt64 >>> ((2 : Int32).toInt64.toUInt64 &&& Int64.toUInt64 63)).toInt64) &&& (3689348814741910323 : Int64))) + (((((z0 - (((z0.toUInt64 >>> ((1 : Int32).toInt64.toUInt64 &&& Int64.toUInt64 63)).toInt64) &&& (6148914691236517205 : Int64))) &&& (3689348814741910323 : Int64)) + ((((z0 - (((z0.toUInt64 >>> ((1 : Int32).toInt64.toUInt64 &&& Int64.toUInt64 63)).toInt64) &&& (6148914691236517205 : Int64))).toUInt64 >>> ((2 : Int32).toInt64.toUInt64 &&& Int64.toUInt64 63)).toInt64) &&& (3689348814741910323 : Int64))).toUInt64 >>> ((4 : Int32).toInt64.toUInt64 &&& Int64.toUInt64 63)).toInt64)) &&& (1085102592571150095 : Int64)) + (((((((z0 - (((z0.toUInt64 >>> ((1 : Int32).toInt64.toUInt64 &&& Int64.toUInt64 63)).toInt64) &&& (6148914691236517205 : Int64))) &&& (3689348814741910323 : Int64)) + ((((z0 - (((z0.toUInt64 >>> ((1 : Int32).toInt64.toUInt64 &&& Int64.toUInt64 63)).toInt64) &&& (6148914691236517205 : Int64))).toUInt64 >>> ((2 : Int32).toInt64.toUInt64 &&& Int64.toUInt64 63)).toInt64) &&& (3689348814741910323 : Int64))) + (((((z0 - (((z0.toUInt64 >>> ((1 : Int32).toInt64.toUInt64 &&& Int64.toUInt64 63)).toInt64) &&& (6148914691236517205 : Int64))) &&& (3689348814741910323 : Int64)) + ((((z0 - (((z0.toUInt64 >>> ((1 : Int32).toInt64.toUInt64 &&& Int64.toUInt64 63)).toInt64) &&& (6148914691236517205 : Int64))).toUInt64 >>> ((2 : Int32).toInt64.toUInt64 &&& Int64.toUInt64 63)).toInt64) &&& (3689348814741910323 : Int64))).toUInt64 >>> ((4 : Int32).toInt64.toUInt64 &&& Int64.toUInt64 63)).toInt64)) &&& (1085102592571150095 : Int64)).toUInt64 >>> ((8 : Int32).toInt64.toUInt64 &&& Int64.toUInt64 63)).toInt64)) + ((((((((z0 - (((z0.toUInt64 >>> ((1 : Int32).toInt64.toUInt64 &&& Int64.toUInt64 63)).toInt64) &&& (6148914691236517205 : Int64))) &&& (3689348814741910323 : Int64)) + ((((z0 - (((z0.toUInt64 >>> ((1 : Int32).toInt64.toUInt64 &&& Int64.toUInt64 63)).toInt64) &&& (6148914691236517205 : Int64))).toUInt64 >>> ((2 : Int32).toInt64.toUInt64 &&& Int64.toUInt64 63)).toInt64) &&& (3689348814741910323 : Int64))) + (((((z0 - (((z0.toUInt64 >>> ((1 : Int32).toInt64.toUInt64 &&& Int64.toUInt64 63)).toInt64) &&& (6148914691236517205 : Int64))) &&& (3689348814741910323 : Int64)) + ((((z0 - (((z0.toUInt64 >>> ((1 : Int32).toInt64.toUInt64 &&& Int64.toUInt64 63)).toInt64) &&& (6148914691236517205 : Int64))).toUInt64 >>> ((2 : Int32).toInt64.toUInt64 &&& Int64.toUInt64 63)).toInt64) &&& (3689348814741910323 : Int64))).toUInt64 >>> ((4 : Int32).toInt64.toUInt64 &&& Int64.toUInt64 63)).toInt64)) &&& (1085102592571150095 : Int64)) + (((((((z0 - (((z0.toUInt64 >>> ((1 : Int32).toInt64.toUInt64 &&& Int64.toUInt64 63)).toInt64) &&& (6148914691236517205 : Int64))) &&& (3689348814741910323 : Int64)) + ((((z0 - (((z0.toUInt64 >>> ((1 : Int32).toInt64.toUInt64 &&& Int64.toUInt64 63)).toInt64) &&& (6148914691236517205 : Int64))).toUInt64 >>> ((2 : Int32).toInt64.toUInt64 &&& Int64.toUInt64 63)).toInt64) &&& (3689348814741910323 : Int64))) + (((((z0 - (((z0.toUInt64 >>> ((1 : Int32).toInt64.toUInt64 &&& Int64.toUInt64 63)).toInt64) &&& (6148914691236517205 : Int64))) &&& (3689348814741910323 : Int64)) + ((((z0 - (((z0.toUInt64 >>> ((1 : Int32).toInt64.toUInt64 &&& Int64.toUInt64 63)).toInt64) &&& (6148914691236517205 : Int64))).toUInt64 >>> ((2 : Int32).toInt64.toUInt64 &&& Int64.toUInt64 63)).toInt64) &&& (3689348814741910323 : Int64))).toUInt64 >>> ((4 : Int32).toInt64.toUInt64 &&& Int64.toUInt64 63)).toInt64)) &&& (1085102592571150095 : Int64)).toUInt64 >>> ((8 : Int32).toInt64.toUInt64 &&& Int64.toUInt64 63)).toInt64)).toUInt64 >>> ((16 : Int32).toInt64.toUInt64 &&& Int64.toUInt64 63)).toInt64)))]) hx hb nd_JL_bitCount_47 rfl hl (by decide) rfl (fun ls hl => ?_)
  refine lv_lload_n hx hb nd_JL_bitCount_48 rfl (lv_at hl 0 rfl) ?_
  refine lv_lload_n hx hb nd_JL_bitCount_49 rfl (lv_at hl 0 rfl) ?_
  refine lv_bipush (v := 32) hx hb nd_JL_bitCount_50 (by decide) ?_
  refine lv_lushr (v := ((((((((z0 - (((z0.toUInt64 >>> ((1 : Int32).toInt64.toUInt64 &&& Int64.toUInt64 63)).toInt64) &&& (6148914691236517205 : Int64))) &&& (3689348814741910323 : Int64)) + ((((z0 - (((z0.toUInt64 >>> ((1 : Int32).toInt64.toUInt64 &&& Int64.toUInt64 63)).toInt64) &&& (6148914691236517205 : Int64))).toUInt64 >>> ((2 : Int32).toInt64.toUInt64 &&& Int64.toUInt64 63)).toInt64) &&& (3689348814741910323 : Int64))) + (((((z0 - (((z0.toUInt64 >>> ((1 : Int32).toInt64.toUInt64 &&& Int64.toUInt64 63)).toInt64) &&& (6148914691236517205 : Int64))) &&& (3689348814741910323 : Int64)) + ((((z0 - (((z0.toUInt64 >>> ((1 : Int32).toInt64.toUInt64 &&& Int64.toUInt64 63)).toInt64) &&& (6148914691236517205 : Int64))).toUInt64 >>> ((2 : Int32).toInt64.toUInt64 &&& Int64.toUInt64 63)).toInt64) &&& (3689348814741910323 : Int64))).toUInt64 >>> ((4 : Int32).toInt64.toUInt64 &&& Int64.toUInt64 63)).toInt64)) &&& (1085102592571150095 : Int64)) + (((((((z0 - (((z0.toUInt64 >>> ((1 : Int32).toInt64.toUInt64 &&& Int64.toUInt64 63)).toInt64) &&& (6148914691236517205 : Int64))) &&& (3689348814741910323 : Int64)) + ((((z0 - (((z0.toUInt64 >>> ((1 : Int32).toInt64.toUInt64 &&& Int64.toUInt64 63)).toInt64) &&& (6148914691236517205 : Int64))).toUInt64 >>> ((2 : Int32).toInt64.toUInt64 &&& Int64.toUInt64 63)).toInt64) &&& (3689348814741910323 : Int64))) + (((((z0 - (((z0.toUInt64 >>> ((1 : Int32).toInt64.toUInt64 &&& Int64.toUInt64 63)).toInt64) &&& (6148914691236517205 : Int64))) &&& (3689348814741910323 : Int64)) + ((((z0 - (((z0.toUInt64 >>> ((1 : Int32).toInt64.toUInt64 &&& Int64.toUInt64 63)).toInt64) &&& (6148914691236517205 : Int64))).toUInt64 >>> ((2 : Int32).toInt64.toUInt64 &&& Int64.toUInt64 63)).toInt64) &&& (3689348814741910323 : Int64))).toUInt64 >>> ((4 : Int32).toInt64.toUInt64 &&& Int64.toUInt64 63)).toInt64)) &&& (1085102592571150095 : Int64)).toUInt64 >>> ((8 : Int32).toInt64.toUInt64 &&& Int64.toUInt64 63)).toInt64)) + ((((((((z0 - (((z0.toUInt64 >>> ((1 : Int32).toInt64.toUInt64 &&& Int64.toUInt64 63)).toInt64) &&& (6148914691236517205 : Int64))) &&& (3689348814741910323 : Int64)) + ((((z0 - (((z0.toUInt64 >>> ((1 : Int32).toInt64.toUInt64 &&& Int64.toUInt64 63)).toInt64) &&& (6148914691236517205 : Int64))).toUInt64 >>> ((2 : Int32).toInt64.toUInt64 &&& Int64.toUInt64 63)).toInt64) &&& (3689348814741910323 : Int64))) + (((((z0 - (((z0.toUInt64 >>> ((1 : Int32).toInt64.toUInt64 &&& Int64.toUInt64 63)).toInt64) &&& (6148914691236517205 : Int64))) &&& (3689348814741910323 : Int64)) + ((((z0 - (((z0.toUInt64 >>> ((1 : Int32).toInt64.toUInt64 &&& Int64.toUInt64 63)).toInt64) &&& (6148914691236517205 : Int64))).toUInt64 >>> ((2 : Int32).toInt64.toUInt64 &&& Int64.toUInt64 63)).toInt64) &&& (3689348814741910323 : Int64))).toUInt64 >>> ((4 : Int32).toInt64.toUInt64 &&& Int64.toUInt64 63)).toInt64)) &&& (1085102592571150095 : Int64)) + (((((((z0 - (((z0.toUInt64 >>> ((1 : Int32).toInt64.toUInt64 &&& Int64.toUInt64 63)).toInt64) &&& (6148914691236517205 : Int64))) &&& (3689348814741910323 : Int64)) + ((((z0 - (((z0.toUInt64 >>> ((1 : Int32).toInt64.toUInt64 &&& Int64.toUInt64 63)).toInt64) &&& (6148914691236517205 : Int64))).toUInt64 >>> ((2 : Int32).toInt64.toUInt64 &&& Int64.toUInt64 63)).toInt64) &&& (3689348814741910323 : Int64))) + (((((z0 - (((z0.toUInt64 >>> ((1 : Int32).toInt64.toUInt64 &&& Int64.toUInt64 63)).toInt64) &&& (6148914691236517205 : Int64))) &&& (3689348814741910323 : Int64)) + ((((z0 - (((z0.toUInt64 >>> ((1 : Int32).toInt64.toUInt64 &&& Int64.toUInt64 63)).toInt64) &&& (6148914691236517205 : Int64))).toUInt64 >>> ((2 : Int32).toInt64.toUInt64 &&& Int64.toUInt64 63)).toInt64) &&& (3689348814741910323 : Int64))).toUInt64 >>> ((4 : Int32).toInt64.toUInt64 &&& Int64.toUInt64 63)).toInt64)) &&& (1085102592571150095 : Int64)).toUInt64 >>> ((8 : Int32).toInt64.toUInt64 &&& Int64.toUInt64 63)).toInt64)).toUInt64 >>> ((16 : Int32).toInt64.toUInt64 &&& Int64.toUInt64 63)).toInt64)).toUInt64 >>> ((32 : Int32).toInt64.toUInt64 &&& Int64.toUInt64 63)).toInt64) hx hb nd_JL_bitCount_52 rfl ?_
  refine lv_ladd hx hb nd_JL_bitCount_53 ?_
  refine lv_lstore_n (lv' := [(0, .long ((((((((z0 - (((z0.toUInt64 >>> ((1 : Int32).toInt64.toUInt64 &&& Int64.toUInt64 63)).toInt64) &&& (6148914691236517205 : Int64))) &&& (3689348814741910323 : Int64)) + ((((z0 - (((z0.toUInt64 >>> ((1 : Int32).toInt64.toUInt64 &&& Int64.toUInt64 63)).toInt64) &&& (6148914691236517205 : Int64))).toUInt64 >>> ((2 : Int32).toInt64.toUInt64 &&& Int64.toUInt64 63)).toInt64) &&& (3689348814741910323 : Int64))) + (((((z0 - (((z0.toUInt64 >>> ((1 : Int32).toInt64.toUInt64 &&& Int64.toUInt64 63)).toInt64) &&& (6148914691236517205 : Int64))) &&& (3689348814741910323 : Int64)) + ((((z0 - (((z0.toUInt64 >>> ((1 : Int32).toInt64.toUInt64 &&& Int64.toUInt64 63)).toInt64) &&& (6148914691236517205 : Int64))).toUInt64 >>> ((2 : Int32).toInt64.toUInt64 &&& Int64.toUInt64 63)).toInt64) &&& (3689348814741910323 : Int64))).toUInt64 >>> ((4 : Int32).toInt64.toUInt64 &&& Int64.toUInt64 63)).toInt64)) &&& (1085102592571150095 : Int64)) + (((((((z0 - (((z0.toUInt64 >>> ((1 : Int32).toInt64.toUInt64 &&& Int64.toUInt64 63)).toInt64) &&& (6148914691236517205 : Int64))) &&& (3689348814741910323 : Int64)) + ((((z0 - (((z0.toUInt64 >>> ((1 : Int32).toInt64.toUInt64 &&& Int64.toUInt64 63)).toInt64) &&& (6148914691236517205 : Int64))).toUInt64 >>> ((2 : Int32).toInt64.toUInt64 &&& Int64.toUInt64 63)).toInt64) &&& (3689348814741910323 : Int64))) + (((((z0 - (((z0.toUInt64 >>> ((1 : Int32).toInt64.toUInt64 &&& Int64.toUInt64 63)).toInt64) &&& (6148914691236517205 : Int64))) &&& (3689348814741910323 : Int64)) + ((((z0 - (((z0.toUInt64 >>> ((1 : Int32).toInt64.toUInt64 &&& Int64.toUInt64 63)).toInt64) &&& (6148914691236517205 : Int64))).toUInt64 >>> ((2 : Int32).toInt64.toUInt64 &&& Int64.toUInt64 63)).toInt64) &&& (3689348814741910323 : Int64))).toUInt64 >>> ((4 : Int32).toInt64.toUInt64 &&& Int64.toUInt64 63)).toInt64)) &&& (1085102592571150095 : Int64)).toUInt64 >>> ((8 : Int32).toInt64.toUInt64 &&& Int64.toUInt64 63)).toInt64)) + ((((((((z0 - (((z0.toUInt64 >>> ((1 : Int32).toInt64.toUInt64 &&& Int64.toUInt64 63)).toInt64) &&& (6148914691236517205 : Int64))) &&& (3689348814741910323 : Int64)) + ((((z0 - (((z0.toUInt64 >>> ((1 : Int32).toInt64.toUInt64 &&& Int64.toUInt64 63)).toInt64) &&& (6148914691236517205 : Int64))).toUInt64 >>> ((2 : Int32).toInt64.toUInt64 &&& Int64.toUInt64 63)).toInt64) &&& (3689348814741910323 : Int64))) + (((((z0 - (((z0.toUInt64 >>> ((1 : Int32).toInt64.toUInt64 &&& Int64.toUInt64 63)).toInt64) &&& (6148914691236517205 : Int64))) &&& (3689348814741910323 : Int64)) + ((((z0 - (((z0.toUInt64 >>> ((1 : Int32).toInt64.toUInt64 &&& Int64.toUInt64 63)).toInt64) &&& (6148914691236517205 : Int64))).toUInt64 >>> ((2 : Int32).toInt64.toUInt64 &&& Int64.toUInt64 63)).toInt64) &&& (3689348814741910323 : Int64))).toUInt64 >>> ((4 : Int32).toInt64.toUInt64 &&& Int64.toUInt64 63)).toInt64)) &&& (1085102592571150095 : Int64)) + (((((((z0 - (((z0.toUInt64 >>> ((1 : Int32).toInt64.toUInt64 &&& Int64.toUInt64 63)).toInt64) &&& (6148914691236517205 : Int64))) &&& (3689348814741910323 : Int64)) + ((((z0 - (((z0.toUInt64 >>> ((1 : Int32).toInt64.toUInt64 &&& Int64.toUInt64 63)).toInt64) &&& (6148914691236517205 : Int64))).toUInt64 >>> ((2 : Int32).toInt64.toUInt64 &&& Int64.toUInt64 63)).toInt64) &&& (3689348814741910323 : Int64))) + (((((z0 - (((z0.toUInt64 >>> ((1 : Int32).toInt64.toUInt64 &&& Int64.toUInt64 63)).toInt64) &&& (6148914691236517205 : Int64))) &&& (3689348814741910323 : Int64)) + ((((z0 - (((z0.toUInt64 >>> ((1 : Int32).toInt64.toUInt64 &&& Int64.toUInt64 63)).toInt64) &&& (6148914691236517205 : Int64))).toUInt64 >>> ((2 : Int32).toInt64.toUInt64 &&& Int64.toUInt64 63)).toInt64) &&& (3689348814741910323 : Int64))).toUInt64 >>> ((4 : Int32).toInt64.toUInt64 &&& Int64.toUInt64 63)).toInt64)) &&& (1085102592571150095 : Int64)).toUInt64 >>> ((8 : Int32).toInt64.toUInt64 &&& Int64.toUInt64 63)).toInt64)).toUInt64 >>> ((16 : Int32).toInt64.toUInt64 &&& Int64.toUInt64 63)).toInt64)) + (((((((((z0 - (((z0.toUInt64 >>> ((1 : Int32).toInt64.toUInt64 &&& Int64.toUInt64 63)).toInt64) &&& (6148914691236517205 : Int64))) &&& (3689348814741910323 : Int64)) + ((((z0 - (((z0.toUInt64 >>> ((1 : Int32).toInt64.toUInt64 &&& Int64.toUInt64 63)).toInt64) &&& (6148914691236517205 : Int64))).toUInt64 >>> ((2 : Int32).toInt64.toUInt64 &&& Int64.toUInt64 63)).toInt64) &&& (3689348814741910323 : Int64))) + (((((z0 - (((z0.toUInt64 >>> ((1 : Int32).toInt64.toUInt64 &&& Int64.toUInt64 63)).toInt64) &&& (6148914691236517205 : Int64))) &&& (3689348814741910323 : Int64)) + ((((z0 - (((z0.toUInt64 >>> ((1 : Int32).toInt64.toUInt64 &&& Int64.toUInt64 63)).toInt64) &&& (6148914691236517205 : Int64))).toUInt64 >>> ((2 : Int32).toInt64.toUInt64 &&& Int64.toUInt64 63)).toInt64) &&& (3689348814741910323 : Int64))).toUInt64 >>> ((4 : Int32).toInt64.toUInt64 &&& Int64.toUInt64 63)).toInt64)) &&& (1085102592571150095 : Int64)) + (((((((z0 - (((z0.toUInt64 >>> ((1 : Int32).toInt64.toUInt64 &&& Int64.toUInt64 63)).toInt64) &&& (6148914691236517205 : Int64))) &&& (3689348814741910323 : Int64)) + ((((z0 - (((z0.toUInt64 >>> ((1 : Int32).toInt64.toUInt64 &&& Int64.toUInt64 63)).toInt64) &&& (6148914691236517205 : Int64))).toUInt64 >>> ((2 : Int32).toInt64.toUInt64 &&& Int64.toUInt64 63)).toInt64) &&& (3689348814741910323 : Int64))) + (((((z0 - (((z0.toUInt64 >>> ((1 : Int32).toInt64.toUInt64 &&& Int64.toUInt64 63)).toInt64) &&& (6148914691236517205 : Int64))) &&& (3689348814741910323 : Int64)) + ((((z0 - (((z0.toUInt64 >>> ((1 : Int32).toInt64.toUInt64 &&& Int64.toUInt64 63)).toInt64) &&& (6148914691236517205 : Int64))).toUInt64 >>> ((2 : Int32).toInt64.toUInt64 &&& Int64.toUInt64 63)).toInt64) &&& (3689348814741910323 : Int64))).toUInt64 >>> ((4 : Int32).toInt64.toUInt64 &&& Int64.toUInt64 63)).toInt64)) &&& (1085102592571150095 : Int64)).toUInt64 >>> ((8 : Int32).toInt64.toUInt64 &&& Int64.toUInt64 63)).toInt64)) + ((((((((z0 - (((z0.toUInt64 >>> ((1 : Int32).toInt64.toUInt64 &&& Int64.toUInt64 63)).toInt64) &&& (6148914691236517205 : Int64))) &&& (3689348814741910323 : Int64)) + ((((z0 - (((z0.toUInt64 >>> ((1 : Int32).toInt64.toUInt64 &&& Int64.toUInt64 63)).toInt64) &&& (6148914691236517205 : Int64))).toUInt64 >>> ((2 : Int32).toInt64.toUInt64 &&& Int64.toUInt64 63)).toInt64) &&& (3689348814741910323 : Int64))) + (((((z0 - (((z0.toUInt64 >>> ((1 : Int32).toInt64.toUInt64 &&& Int64.toUInt64 63)).toInt64) &&& (6148914691236517205 : Int64))) &&& (3689348814741910323 : Int64)) + ((((z0 - (((z0.toUInt64 >>> ((1 : Int32).toInt64.toUInt64 &&& Int64.toUInt64 63)).toInt64) &&& (6148914691236517205 : Int64))).toUInt64 >>> ((2 : Int32).toInt64.toUInt64 &&& Int64.toUInt64 63)).toInt64) &&& (3689348814741910323 : Int64))).toUInt64 >>> ((4 : Int32).toInt64.toUInt64 &&& Int64.toUInt64 63)).toInt64)) &&& (1085102592571150095 : Int64)) + (((((((z0 - (((z0.toUInt64 >>> ((1 : Int32).toInt64.toUInt64 &&& Int64.toUInt64 63)).toInt64) &&& (6148914691236517205 : Int64))) &&& (3689348814741910323 : Int64)) + ((((z0 - (((z0.toUInt64 >>> ((1 : Int32).toInt64.toUInt64 &&& Int64.toUInt64 63)).toInt64) &&& (6148914691236517205 : Int64))).toUInt64 >>> ((2 : Int32).toInt64.toUInt64 &&& Int64.toUInt64 63)).toInt64) &&& (3689348814741910323 : Int64))) + (((((z0 - (((z0.toUInt64 >>> ((1 : Int32).toInt64.toUInt64 &&& Int64.toUInt64 63)).toInt64) &&& (6148914691236517205 : Int64))) &&& (3689348814741910323 : Int64)) + ((((z0 - (((z0.toUInt64 >>> ((1 : Int32).toInt64.toUInt64 &&& Int64.toUInt64 63)).toInt64) &&& (6148914691236517205 : Int64))).toUInt64 >>> ((2 : Int32).toInt64.toUInt64 &&& Int64.toUInt64 63)).toInt64) &&& (3689348814741910323 : Int64))).toUInt64 >>> ((4 : Int32).toInt64.toUInt64 &&& Int64.toUInt64 63)).toInt64)) &&& (1085102592571150095 : Int64)).toUInt64 >>> ((8 : Int32).toInt64.toUInt64 &&& Int64.toUInt64 63)).toInt64)).toUInt64 >>> ((16 : Int32).toInt64.toUInt64 &&& Int64.toUInt64 63)).toInt64)).toUInt64 >>> ((32 : Int32).toInt64.toUInt64 &&& Int64.toUInt64 63)).toInt64)))]) hx hb nd_JL_bitCount_54 rfl hl (by decide) rfl (fun ls hl => ?_)
  refine lv_lload_n hx hb nd_JL_bitCount_55 rfl (lv_at hl 0 rfl) ?_
  refine lv_l2i (v := ((((((((z0 - (((z0.toUInt64 >>> ((1 : Int32).toInt64.toUInt64 &&& Int64.toUInt64 63)).toInt64) &&& (6148914691236517205 : Int64))) &&& (3689348814741910323 : Int64)) + ((((z0 - (((z0.toUInt64 >>> ((1 : Int32).toInt64.toUInt64 &&& Int64.toUInt64 63)).toInt64) &&& (6148914691236517205 : Int64))).toUInt64 >>> ((2 : Int32).toInt64.toUInt64 &&& Int64.toUInt64 63)).toInt64) &&& (3689348814741910323 : Int64))) + (((((z0 - (((z0.toUInt64 >>> ((1 : Int32).toInt64.toUInt64 &&& Int64.toUInt64 63)).toInt64) &&& (6148914691236517205 : Int64))) &&& (3689348814741910323 : Int64)) + ((((z0 - (((z0.toUInt64 >>> ((1 : Int32).toInt64.toUInt64 &&& Int64.toUInt64 63)).toInt64) &&& (6148914691236517205 : Int64))).toUInt64 >>> ((2 : Int32).toInt64.toUInt64 &&& Int64.toUInt64 63)).toInt64) &&& (3689348814741910323 : Int64))).toUInt64 >>> ((4 : Int32).toInt64.toUInt64 &&& Int64.toUInt64 63)).toInt64)) &&& (1085102592571150095 : Int64)) + (((((((z0 - (((z0.toUInt64 >>> ((1 : Int32).toInt64.toUInt64 &&& Int64.toUInt64 63)).toInt64) &&& (6148914691236517205 : Int64))) &&& (3689348814741910323 : Int64)) + ((((z0 - (((z0.toUInt64 >>> ((1 : Int32).toInt64.toUInt64 &&& Int64.toUInt64 63)).toInt64) &&& (6148914691236517205 : Int64))).toUInt64 >>> ((2 : Int32).toInt64.toUInt64 &&& Int64.toUInt64 63)).toInt64) &&& (3689348814741910323 : Int64))) + (((((z0 - (((z0.toUInt64 >>> ((1 : Int32).toInt64.toUInt64 &&& Int64.toUInt64 63)).toInt64) &&& (6148914691236517205 : Int64))) &&& (3689348814741910323 : Int64)) + ((((z0 - (((z0.toUInt64 >>> ((1 : Int32).toInt64.toUInt64 &&& Int64.toUInt64 63)).toInt64) &&& (6148914691236517205 : Int64))).toUInt64 >>> ((2 : Int32).toInt64.toUInt64 &&& Int64.toUInt64 63)).toInt64) &&& (3689348814741910323 : Int64))).toUInt64 >>> ((4 : Int32).toInt64.toUInt64 &&& Int64.toUInt64 63)).toInt64)) &&& (1085102592571150095 : Int64)).toUInt64 >>> ((8 : Int32).toInt64.toUInt64 &&& Int64.toUInt64 63)).toInt64)) + ((((((((z0 - (((z0.toUInt64 >>> ((1 : Int32).toInt64.toUInt64 &&& Int64.toUInt64 63)).toInt64) &&& (6148914691236517205 : Int64))) &&& (3689348814741910323 : Int64)) + ((((z0 - (((z0.toUInt64 >>> ((1 : Int32).toInt64.toUInt64 &&& Int64.toUInt64 63)).toInt64) &&& (6148914691236517205 : Int64))).toUInt64 >>> ((2 : Int32).toInt64.toUInt64 &&& Int64.toUInt64 63)).toInt64) &&& (3689348814741910323 : Int64))) + (((((z0 - (((z0.toUInt64 >>> ((1 : Int32).toInt64.toUInt64 &&& Int64.toUInt64 63)).toInt64) &&& (6148914691236517205 : Int64))) &&& (3689348814741910323 : Int64)) + ((((z0 - (((z0.toUInt64 >>> ((1 : Int32).toInt64.toUInt64 &&& Int64.toUInt64 63)).toInt64) &&& (6148914691236517205 : Int64))).toUInt64 >>> ((2 : Int32).toInt64.toUInt64 &&& Int64.toUInt64 63)).toInt64) &&& (3689348814741910323 : Int64))).toUInt64 >>> ((4 : Int32).toInt64.toUInt64 &&& Int64.toUInt64 63)).toInt64)) &&& (1085102592571150095 : Int64)) + (((((((z0 - (((z0.toUInt64 >>> ((1 : Int32).toInt64.toUInt64 &&& Int64.toUInt64 63)).toInt64) &&& (6148914691236517205 : Int64))) &&& (3689348814741910323 : Int64)) + ((((z0 - (((z0.toUInt64 >>> ((1 : Int32).toInt64.toUInt64 &&& Int64.toUInt64 63)).toInt64) &&& (6148914691236517205 : Int64))).toUInt64 >>> ((2 : Int32).toInt64.toUInt64 &&& Int64.toUInt64 63)).toInt64) &&& (3689348814741910323 : Int64))) + (((((z0 - (((z0.toUInt64 >>> ((1 : Int32).toInt64.toUInt64 &&& Int64.toUInt64 63)).toInt64) &&& (6148914691236517205 : Int64))) &&& (3689348814741910323 : Int64)) + ((((z0 - (((z0.toUInt64 >>> ((1 : Int32).toInt64.toUInt64 &&& Int64.toUInt64 63)).toInt64) &&& (6148914691236517205 : Int64))).toUInt64 >>> ((2 : Int32).toInt64.toUInt64 &&& Int64.toUInt64 63)).toInt64) &&& (3689348814741910323 : Int64))).toUInt64 >>> ((4 : Int32).toInt64.toUInt64 &&& Int64.toUInt64 63)).toInt64)) &&& (1085102592571150095 : Int64)).toUInt64 >>> ((8 : Int32).toInt64.toUInt64 &&& Int64.toUInt64 63)).toInt64)).toUInt64 >>> ((16 : Int32).toInt64.toUInt64 &&& Int64.toUInt64 63)).toInt64)) + (((((((((z0 - (((z0.toUInt64 >>> ((1 : Int32).toInt64.toUInt64 &&& Int64.toUInt64 63)).toInt64) &&& (6148914691236517205 : Int64))) &&& (3689348814741910323 : Int64)) + ((((z0 - (((z0.toUInt64 >>> ((1 : Int32).toInt64.toUInt64 &&& Int64.toUInt64 63)).toInt64) &&& (6148914691236517205 : Int64))).toUInt64 >>> ((2 : Int32).toInt64.toUInt64 &&& Int64.toUInt64 63)).toInt64) &&& (3689348814741910323 : Int64))) + (((((z0 - (((z0.toUInt64 >>> ((1 : Int32).toInt64.toUInt64 &&& Int64.toUInt64 63)).toInt64) &&& (6148914691236517205 : Int64))) &&& (3689348814741910323 : Int64)) + ((((z0 - (((z0.toUInt64 >>> ((1 : Int32).toInt64.toUInt64 &&& Int64.toUInt64 63)).toInt64) &&& (6148914691236517205 : Int64))).toUInt64 >>> ((2 : Int32).toInt64.toUInt64 &&& Int64.toUInt64 63)).toInt64) &&& (3689348814741910323 : Int64))).toUInt64 >>> ((4 : Int32).toInt64.toUInt64 &&& Int64.toUInt64 63)).toInt64)) &&& (1085102592571150095 : Int64)) + (((((((z0 - (((z0.toUInt64 >>> ((1 : Int32).toInt64.toUInt64 &&& Int64.toUInt64 63)).toInt64) &&& (6148914691236517205 : Int64))) &&& (3689348814741910323 : Int64)) + ((((z0 - (((z0.toUInt64 >>> ((1 : Int32).toInt64.toUInt64 &&& Int64.toUInt64 63)).toInt64) &&& (6148914691236517205 : Int64))).toUInt64 >>> ((2 : Int32).toInt64.toUInt64 &&& Int64.toUInt64 63)).toInt64) &&& (3689348814741910323 : Int64))) + (((((z0 - (((z0.toUInt64 >>> ((1 : Int32).toInt64.toUInt64 &&& Int64.toUInt64 63)).toInt64) &&& (6148914691236517205 : Int64))) &&& (3689348814741910323 : Int64)) + ((((z0 - (((z0.toUInt64 >>> ((1 : Int32).toInt64.toUInt64 &&& Int64.toUInt64 63)).toInt64) &&& (6148914691236517205 : Int64))).toUInt64 >>> ((2 : Int32).toInt64.toUInt64 &&& Int64.toUInt64 63)).toInt64) &&& (3689348814741910323 : Int64))).toUInt64 >>> ((4 : Int32).toInt64.toUInt64 &&& Int64.toUInt64 63)).toInt64)) &&& (1085102592571150095 : Int64)).toUInt64 >>> ((8 : Int32).toInt64.toUInt64 &&& Int64.toUInt64 63)).toInt64)) + ((((((((z0 - (((z0.toUInt64 >>> ((1 : Int32).toInt64.toUInt64 &&& Int64.toUInt64 63)).toInt64) &&& (6148914691236517205 : Int64))) &&& (3689348814741910323 : Int64)) + ((((z0 - (((z0.toUInt64 >>> ((1 : Int32).toInt64.toUInt64 &&& Int64.toUInt64 63)).toInt64) &&& (6148914691236517205 : Int64))).toUInt64 >>> ((2 : Int32).toInt64.toUInt64 &&& Int64.toUInt64 63)).toInt64) &&& (3689348814741910323 : Int64))) + (((((z0 - (((z0.toUInt64 >>> ((1 : Int32).toInt64.toUInt64 &&& Int64.toUInt64 63)).toInt64) &&& (6148914691236517205 : Int64))) &&& (3689348814741910323 : Int64)) + ((((z0 - (((z0.toUInt64 >>> ((1 : Int32).toInt64.toUInt64 &&& Int64.toUInt64 63)).toInt64) &&& (6148914691236517205 : Int64))).toUInt64 >>> ((2 : Int32).toInt64.toUInt64 &&& Int64.toUInt64 63)).toInt64) &&& (3689348814741910323 : Int64))).toUInt64 >>> ((4 : Int32).toInt64.toUInt64 &&& Int64.toUInt64 63)).toInt64)) &&& (1085102592571150095 : Int64)) + (((((((z0 - (((z0.toUInt64 >>> ((1 : Int32).toInt64.toUInt64 &&& Int64.toUInt64 63)).toInt64) &&& (6148914691236517205 : Int64))) &&& (3689348814741910323 : Int64)) + ((((z0 - (((z0.toUInt64 >>> ((1 : Int32).toInt64.toUInt64 &&& Int64.toUInt64 63)).toInt64) &&& (6148914691236517205 : Int64))).toUInt64 >>> ((2 : Int32).toInt64.toUInt64 &&& Int64.toUInt64 63)).toInt64) &&& (3689348814741910323 : Int64))) + (((((z0 - (((z0.toUInt64 >>> ((1 : Int32).toInt64.toUInt64 &&& Int64.toUInt64 63)).toInt64) &&& (6148914691236517205 : Int64))) &&& (3689348814741910323 : Int64)) + ((((z0 - (((z0.toUInt64 >>> ((1 : Int32).toInt64.toUInt64 &&& Int64.toUInt64 63)).toInt64) &&& (6148914691236517205 : Int64))).toUInt64 >>> ((2 : Int32).toInt64.toUInt64 &&& Int64.toUInt64 63)).toInt64) &&& (3689348814741910323 : Int64))).toUInt64 >>> ((4 : Int32).toInt64.toUInt64 &&& Int64.toUInt64 63)).toInt64)) &&& (1085102592571150095 : Int64)).toUInt64 >>> ((8 : Int32).toInt64.toUInt64 &&& Int64.toUInt64 63)).toInt64)).toUInt64 >>> ((16 : Int32).toInt64.toUInt64 &&& Int64.toUInt64 63)).toInt64)).toUInt64 >>> ((32 : Int32).toInt64.toUInt64 &&& Int64.toUInt64 63)).toInt64)).toInt32) hx hb nd_JL_bitCount_56 rfl ?_
  refine lv_bipush (v := 127) hx hb nd_JL_bitCount_57 (by decide) ?_
  refine lv_iand hx hb nd_JL_bitCount_59 ?_
  exact re_i hx hb hr hlocks (mi_eq hf) (rfl) hP hK hD hS nd_JL_bitCount_60
abbrev rm_Frames_countFree : Room := { frames := 1, cells := 0, slots := 0, locals := 21 }
set_option maxHeartbeats 4000000 in
set_option maxRecDepth 100000 in
theorem kw_Frames_countFree (l : Launch) (dC : Nat → ClassId) (dI : Nat → Nat → Nat) (q : Nat → Nat) (cI cZ : ClassId) (sz : Nat) (σ : CS) (v : Int32) (hf : mc_Frames_countFree σ = some v) : Met l ny_Frames_countFree nw_Frames_countFree rm_Frames_countFree (va_Pc [.ref (q 1)] (pr_ (dC, dI) (wd_C q cI cZ) [(cI, .int), (cZ, .boolean)] sz σ)) (qi_ (dC, dI) (wd_C q cI cZ) [(cI, .int), (cZ, .boolean)] (va_A (wd_C q cI cZ σ) sz) v σ) 0 0 (va_A (wd_C q cI cZ σ) sz) := by
  refine Met.ofW (cc := nb_Frames_countFree) (maxL := 1) (ret := (some .int)) (by decide) rfl ?_
  intro p e s m args below meth c s₁ B hml hv
  obtain ⟨rfl, hsz, hP, hK, hD0, hN⟩ := hv
  have hx := B.exec
  have hb := B.bytes
  have hr := B.returns
  have hts := atoms_spec (ws := nw_Frames_countFree) B.pre
  have hB : ∀ w ∈ BG, w.before ([.ref (q 1)] : List Value).toArray s = true := fun w h => hts w (List.mem_cons_of_mem _ h)
  have hown : s.vm.findClass "MovedFrames$Frames" = some m.cls := findClass_of_methodNamed B.named
  have hlocks := B.notSynchronized
  subst hsz
  have hD := hD0.self (sz := s.heap.size)
  generalize hAe : va_A (wd_C q cI cZ σ) s.heap.size = A at hD ⊢
  have hA : ∀ q : Nat, s.heap.size ≤ q → A q := fun q h => by rw [← hAe]; exact Or.inr h
  have hS : va_S A s.heap s.heap [] := va_S.rf
  have hl := lv_entry ([.ref (q 1)]) (n := 1) (Nat.le_of_ble_eq_true rfl)
  rw [lg_entry_eq]
  generalize (lg_sl ([.ref (q 1)]) ++ List.replicate (1 - (lg_sl ([.ref (q 1)])).length) Slot.unset).toArray = ls at hl ⊢
  have hl : lv_has ls 1 [(0, .ref (q 1))] := hl
  have hH : s.heap = s.heap := rfl
  unfold mc_Frames_countFree at hf
  refine lv_aload_n hx hb nd_Frames_countFree_0 rfl (lv_at hl 0 rfl) ?_
  refine va_get (D := (dC, dI)) (ci := 0) (v := .long (gc_fb σ)) (C := RX0) (T := TX0) (N := 3) hx hb hB inB0 hown hK hP 1 rfl rfl 2 (by decide) (hB _ lk_33) (fun _ h9 => h9) rfl nd_Frames_countFree_1 ?_
  obtain ⟨r1, hc, hf⟩ := mi_cp_el hf
  refine ca_i (va_runS (As := [.long (gc_fb σ)]) (rest := []) ⟨hx, hb, hml, hown, hB⟩ (kw_JL_bitCount l dC dI q cI cZ _ σ (gc_fb σ) r1 hc) ⟨callB_of 1 hB (gi_ lk_203) rfl rfl rfl (hB _ lk_13) (hB _ lk_201) (by decide +kernel) ⟨Nat.le_of_ble_eq_true rfl, Nat.le_of_ble_eq_true rfl⟩, hB _ lk_202⟩ ⟨bl_, pre_ hP hK hD hN⟩ rfl rfl hl.1 rfl (lv_room (Nat.le_of_ble_eq_true rfl)) nd_Frames_countFree_4 ⟨Nat.zero_le _, Nat.zero_le _⟩) hD hS hA (fun H locs hP hD hS => ?_)
  exact re_i hx hb hr hlocks (mi_eq hf) (rfl) hP hK hD hS nd_Frames_countFree_7
abbrev rm_Ranges_add : Room := { frames := 3, cells := 0, slots := 0, locals := 71 }
set_option maxHeartbeats 4000000 in
set_option maxRecDepth 100000 in
theorem kw_Ranges_add (l : Launch) (dC : Nat → ClassId) (dI : Nat → Nat → Nat) (q : Nat → Nat) (cI cZ : ClassId) (sz : Nat) (σ : CS) (z1 : Int32) (v : Int32) (σ' : CS) (hf : mc_Ranges_add σ z1 = some (v, σ')) : Met l ny_Ranges_add nw_Ranges_add rm_Ranges_add (va_Pc [.ref (q 3), .int z1] (pr_ (dC, dI) (wd_C q cI cZ) [(cI, .int), (cZ, .boolean)] sz σ)) (qi_ (dC, dI) (wd_C q cI cZ) [(cI, .int), (cZ, .boolean)] (va_A (wd_C q cI cZ σ) sz) v σ') 0 0 (va_A (wd_C q cI cZ σ) sz) := by
  refine Met.ofW (cc := nb_Ranges_add) (maxL := 4) (ret := (some .int)) (by decide) rfl ?_
  intro p e s m args below meth c s₁ B hml hv
  obtain ⟨rfl, hsz, hP, hK, hD0, hN⟩ := hv
  have hx := B.exec
  have hb := B.bytes
  have hr := B.returns
  have hts := atoms_spec (ws := nw_Ranges_add) B.pre
  have hB : ∀ w ∈ BG, w.before ([.ref (q 3), .int z1] : List Value).toArray s = true := fun w h => hts w (List.mem_cons_of_mem _ h)
  have hown : s.vm.findClass "MovedFrames$Ranges" = some m.cls := findClass_of_methodNamed B.named
  have hlocks := B.notSynchronized
  subst hsz
  have hD := hD0.self (sz := s.heap.size)
  generalize hAe : va_A (wd_C q cI cZ σ) s.heap.size = A at hD ⊢
  have hA : ∀ q : Nat, s.heap.size ≤ q → A q := fun q h => by rw [← hAe]; exact Or.inr h
  have hS : va_S A s.heap s.heap [] := va_S.rf
  have hl := lv_entry ([.ref (q 3), .int z1]) (n := 4) (Nat.le_of_ble_eq_true rfl)
  rw [lg_entry_eq]
  generalize (lg_sl ([.ref (q 3), .int z1]) ++ List.replicate (4 - (lg_sl ([.ref (q 3), .int z1])).length) Slot.unset).toArray = ls at hl ⊢
  have hl : lv_has ls 4 [(0, .ref (q 3)), (1, .int z1)] := hl
  have B55 : ∀ (x1 : Int32) (x2 : Int32) (σ : CS), mc_Ranges_add_b55 x1 x2 σ = some (v, σ') → bk_ p l e rm_Ranges_add s m ([.ref (q 3), .int z1] : List Value).toArray below meth c (MQ below (qi_ (dC, dI) (wd_C q cI cZ) [(cI, .int), (cZ, .boolean)] A v σ') ([.ref (q 3), .int z1] : List Value).toArray s 0 0 A) A (dC, dI) (wd_C q cI cZ) 4 55 [(0, .ref (q 3)), (1, .int x1), (2, .int x2)] [] σ := by
    intro x1 x2 σ hf ls H locs hl hP hD hS
    unfold mc_Ranges_add_b55 at hf
    refine lv_aload_n hx hb nd_Ranges_add_55 rfl (lv_at hl 0 rfl) ?_
    refine va_get (D := (dC, dI)) (ci := 1) (v := .ref (q 11)) (C := RX1) (T := TX1) (N := 3) hx hb hB inB1 hown hK hP 3 rfl rfl 2 (by decide) (hB _ lk_66) (fun _ h9 => h9) rfl nd_Ranges_add_56 ?_
    refine lv_iload_n hx hb nd_Ranges_add_59 rfl (lv_at hl 2 rfl) ?_
    refine lv_iload_n hx hb nd_Ranges_add_60 rfl (lv_at hl 1 rfl) ?_
    obtain ⟨hg, hf⟩ := mi_gd_el hf
    refine va_iast hx hb hK hP hD hS 11 0 rfl rfl hg nd_Ranges_add_61 (fun H locs hP hD hS => ?_)
    obtain ⟨σ3, e9, hf⟩ := mi_wr_ex hf
    have hP : va_P (dC, dI) vwCl (wd_C q cI cZ σ3) H := by rw [e9]; exact hP
    have hD : va_D A (wd_C q cI cZ σ3) := by rw [e9]; exact hD
    refine lv_iload_n hx hb nd_Ranges_add_62 rfl (lv_at hl 2 rfl) ?_
    refine lv_bipush (v := 16) hx hb nd_Ranges_add_63 (by decide) ?_
    refine lv_imul hx hb nd_Ranges_add_65 ?_
    exact re_i hx hb hr hlocks ((mi_pr hf).1) ((mi_pr hf).2) hP hK hD hS nd_Ranges_add_66
  have B26 : ∀ (k26 : Int32 → Int32 → Int32 → CS → Option (Int32 × CS)) (hk26 : ∀ (x1 : Int32) (x2 : Int32) (x3 : Int32) (σ : CS), k26 x1 x2 x3 σ = some (v, σ') → bk_ p l e rm_Ranges_add s m ([.ref (q 3), .int z1] : List Value).toArray below meth c (MQ below (qi_ (dC, dI) (wd_C q cI cZ) [(cI, .int), (cZ, .boolean)] A v σ') ([.ref (q 3), .int z1] : List Value).toArray s 0 0 A) A (dC, dI) (wd_C q cI cZ) 4 26 [(0, .ref (q 3)), (1, .int x1), (2, .int x2), (3, .int x3)] [] σ) (x1 : Int32) (x2 : Int32) (x3 : Int32) (σ : CS), mc_Ranges_add_b26 k26 x1 x2 x3 σ = some (v, σ') → bk_ p l e rm_Ranges_add s m ([.ref (q 3), .int z1] : List Value).toArray below meth c (MQ below (qi_ (dC, dI) (wd_C q cI cZ) [(cI, .int), (cZ, .boolean)] A v σ') ([.ref (q 3), .int z1] : List Value).toArray s 0 0 A) A (dC, dI) (wd_C q cI cZ) 4 26 [(0, .ref (q 3)), (1, .int x1), (2, .int x2), (3, .int x3)] [] σ := by
    intro k26 hk26 x1 x2 x3 σ hf ls H locs hl hP hD hS
    unfold mc_Ranges_add_b26 at hf
    refine lv_iload_n hx hb nd_Ranges_add_26 rfl (lv_at hl 3 rfl) ?_
    refine lv_iload_n hx hb nd_Ranges_add_27 rfl (lv_at hl 2 rfl) ?_
    refine lv_iload_n hx hb nd_Ranges_add_28 rfl (lv_at hl 1 rfl) ?_
    refine lv_iadd hx hb nd_Ranges_add_29 ?_
    refine lv_icmp_ge (tgt := 55) hx hb nd_Ranges_add_30 (by decide) (fun hc => ?_) (fun hc => ?_)
    · have hf := mi_if_t hc hf
      exact B55 x1 x2 σ hf _ _ _ (lv_sub hl [0, 1, 2] rfl) hP hD hS
    · have hf := mi_if_f hc hf
      refine lv_aload_n hx hb nd_Ranges_add_33 rfl (lv_at hl 0 rfl) ?_
      refine va_get (D := (dC, dI)) (ci := 1) (v := .ref (q 10)) (C := RX1) (T := TX1) (N := 3) hx hb hB inB1 hown hK hP 3 rfl rfl 1 (by decide) (hB _ lk_65) (fun _ h9 => h9) rfl nd_Ranges_add_34 ?_
      refine lv_iload_n hx hb nd_Ranges_add_37 rfl (lv_at hl 3 rfl) ?_
      refine lv_iconst (v := 1) hx hb nd_Ranges_add_38 (by decide) ?_
      refine lv_aload_n hx hb nd_Ranges_add_39 rfl (lv_at hl 0 rfl) ?_
      refine va_get (D := (dC, dI)) (ci := 1) (v := .ref (q 1)) (C := RX1) (T := TX1) (N := 3) hx hb hB inB1 hown hK hP 3 rfl rfl 0 (by decide) (hB _ lk_64) (fun _ h9 => h9) rfl nd_Ranges_add_40 ?_
      refine lv_iconst (v := 3) hx hb nd_Ranges_add_43 (by decide) ?_
      obtain ⟨r5, σ4, hc, hf⟩ := mi_cw_el hf
      refine ca_i (va_runV (C := "MovedFrames$Frames") (As := [.int (3 : Int32)]) (rest := [.int (1 : Int32), .int x3, .ref (q 10)]) ⟨hx, hb, hml, hown, hB⟩ (kw_Frames_giveOne l dC dI q cI cZ _ σ (3 : Int32) r5 σ4 hc) ⟨callB_of 1 hB (gi_ lk_322) rfl rfl rfl (hB _ lk_2) (hB _ lk_394) (by decide +kernel) ⟨Nat.le_of_ble_eq_true rfl, Nat.le_of_ble_eq_true rfl⟩, hB _ lk_320, hB _ lk_321⟩ ⟨bl_, va_recv (ci := 0) (q0 := 1) hK hP rfl rfl, pre_ hP hK hD hN⟩ rfl rfl hl.1 rfl (lv_room (Nat.le_of_ble_eq_true rfl)) nd_Ranges_add_44 ⟨Nat.zero_le _, Nat.zero_le _⟩) hD hS hA (fun H locs hP hD hS => ?_)
      refine lv_iadd hx hb nd_Ranges_add_47 ?_
      obtain ⟨hg, hf⟩ := mi_gd_el hf
      refine va_iast hx hb hK hP hD hS 10 0 rfl rfl hg nd_Ranges_add_48 (fun H locs hP hD hS => ?_)
      obtain ⟨σ6, e9, hf⟩ := mi_wr_ex hf
      have hP : va_P (dC, dI) vwCl (wd_C q cI cZ σ6) H := by rw [e9]; exact hP
      have hD : va_D A (wd_C q cI cZ σ6) := by rw [e9]; exact hD
      refine lv_iinc (k := 3) (v := x3 + (1 : Int32)) (lv' := [(3, .int (x3 + (1 : Int32))), (0, .ref (q 3)), (1, .int x1), (2, .int x2)]) hx hb nd_Ranges_add_49 hl rfl (congrArg (fun z => x3 + z) (by decide : Int32.ofInt 1 = (1 : Int32))) (by decide) rfl (fun ls hl => ?_)
      refine lv_goto (tgt := 26) hx hb nd_Ranges_add_52 (by decide) ?_
      exact hk26 x1 x2 (x3 + (1 : Int32)) σ6 hf _ _ _ (lv_sub hl [1, 2, 3, 0] rfl) hP hD hS
  have L26 : ∀ (n : Nat) (x1 : Int32) (x2 : Int32) (x3 : Int32) (σ : CS), mc_Ranges_add_l26 n x1 x2 x3 σ = some (v, σ') → bk_ p l e rm_Ranges_add s m ([.ref (q 3), .int z1] : List Value).toArray below meth c (MQ below (qi_ (dC, dI) (wd_C q cI cZ) [(cI, .int), (cZ, .boolean)] A v σ') ([.ref (q 3), .int z1] : List Value).toArray s 0 0 A) A (dC, dI) (wd_C q cI cZ) 4 26 [(0, .ref (q 3)), (1, .int x1), (2, .int x2), (3, .int x3)] [] σ := by
    intro n
    induction n with
    | zero =>
      intro x1 x2 x3 σ hf
      exact mi_no hf
    | succ n ih =>
      intro x1 x2 x3 σ hf
      exact B26 (mc_Ranges_add_l26 n) ih x1 x2 x3 σ hf
  have hH : s.heap = s.heap := rfl
  unfold mc_Ranges_add at hf
  refine lv_aload_n hx hb nd_Ranges_add_0 rfl (lv_at hl 0 rfl) ?_
  refine lv_iload_n hx hb nd_Ranges_add_1 rfl (lv_at hl 1 rfl) ?_
  obtain ⟨r1, hc, hf⟩ := mi_cp_el hf
  refine ca_i (va_runV (C := "MovedFrames$Ranges") (As := [.int z1]) (rest := []) ⟨hx, hb, hml, hown, hB⟩ (kw_Ranges_lowestRoom l dC dI q cI cZ _ σ z1 r1 hc) ⟨callB_of 1 hB (gi_ lk_392) rfl rfl rfl (hB _ lk_4) (hB _ lk_389) (by decide +kernel) ⟨Nat.le_of_ble_eq_true rfl, Nat.le_of_ble_eq_true rfl⟩, hB _ lk_391, hB _ ls_10⟩ ⟨bl_, va_recv (ci := 1) (q0 := 3) hK hP rfl rfl, pre_ hP hK hD hN⟩ rfl rfl hl.1 rfl (lv_room (Nat.le_of_ble_eq_true rfl)) nd_Ranges_add_2 ⟨Nat.zero_le _, Nat.zero_le _⟩) hD hS hA (fun H locs hP hD hS => ?_)
  refine lv_istore_n (lv' := [(2, .int r1), (0, .ref (q 3)), (1, .int z1)]) hx hb nd_Ranges_add_5 rfl hl (by decide) rfl (fun ls hl => ?_)
  refine lv_iload_n hx hb nd_Ranges_add_6 rfl (lv_at hl 0 rfl) ?_
  refine lv_iconst (v := (-1)) hx hb nd_Ranges_add_7 (by decide) ?_
  refine lv_icmp_eq (tgt := 22) hx hb nd_Ranges_add_8 (by decide) (fun hc => ?_) (fun hc => ?_)
  · have hf := mi_if_t hc hf
    refine lv_iconst (v := (-1)) hx hb nd_Ranges_add_22 (by decide) ?_
    exact re_i hx hb hr hlocks ((mi_pr hf).1) ((mi_pr hf).2) hP hK hD hS nd_Ranges_add_23
  · have hf := mi_if_f hc hf
    refine lv_aload_n hx hb nd_Ranges_add_11 rfl (lv_at hl 1 rfl) ?_
    refine va_get (D := (dC, dI)) (ci := 1) (v := .ref (q 1)) (C := RX1) (T := TX1) (N := 3) hx hb hB inB1 hown hK hP 3 rfl rfl 0 (by decide) (hB _ lk_64) (fun _ h9 => h9) rfl nd_Ranges_add_12 ?_
    obtain ⟨r2, hc, hf⟩ := mi_cp_el hf
    refine ca_i (va_runV (C := "MovedFrames$Frames") (As := []) (rest := []) ⟨hx, hb, hml, hown, hB⟩ (kw_Frames_countFree l dC dI q cI cZ _ σ r2 hc) ⟨callB_of 0 hB (gi_ lk_200) rfl rfl rfl (hB _ lk_2) (hB _ lk_393) (by decide +kernel) ⟨Nat.le_of_ble_eq_true rfl, Nat.le_of_ble_eq_true rfl⟩, hB _ lk_198, hB _ lk_199⟩ ⟨bl_, va_recv (ci := 0) (q0 := 1) hK hP rfl rfl, pre_ hP hK hD hN⟩ rfl rfl hl.1 rfl (lv_room (Nat.le_of_ble_eq_true rfl)) nd_Ranges_add_15 ⟨Nat.zero_le _, Nat.zero_le _⟩) hD hS hA (fun H locs hP hD hS => ?_)
    refine lv_iload_n hx hb nd_Ranges_add_18 rfl (lv_at hl 2 rfl) ?_
    refine lv_icmp_ge (tgt := 24) hx hb nd_Ranges_add_19 (by decide) (fun hc => ?_) (fun hc => ?_)
    · have hf := mi_if_t hc hf
      refine lv_iload_n hx hb nd_Ranges_add_24 rfl (lv_at hl 0 rfl) ?_
      refine lv_istore_n (lv' := [(3, .int r1), (2, .int r1), (0, .ref (q 3)), (1, .int z1)]) hx hb nd_Ranges_add_25 rfl hl (by decide) rfl (fun ls hl => ?_)
      exact L26 FU z1 r1 r1 σ hf _ _ _ (lv_sub hl [2, 3, 1, 0] rfl) hP hD hS
    · have hf := mi_if_f hc hf
      refine lv_iconst (v := (-1)) hx hb nd_Ranges_add_22 (by decide) ?_
      exact re_i hx hb hr hlocks ((mi_pr hf).1) ((mi_pr hf).2) hP hK hD hS nd_Ranges_add_23
abbrev rm_F_vmalloc : Room := { frames := 7, cells := 0, slots := 0, locals := 110 }
set_option maxHeartbeats 4000000 in
set_option maxRecDepth 100000 in
theorem kw_F_vmalloc (l : Launch) (dC : Nat → ClassId) (dI : Nat → Nat → Nat) (q : Nat → Nat) (cI cZ : ClassId) (sz : Nat) (σ : CS) (z1 : Int32) (v : Int32) (σ' : CS) (hf : mc_vmalloc σ z1 = some (v, 0, σ')) : Met l ny_F_vmalloc nw_F_vmalloc rm_F_vmalloc (va_Pc [.ref (q 0), .int z1] (pr_ (dC, dI) (wd_C q cI cZ) [(cI, .int), (cZ, .boolean)] sz σ)) (qi_ (dC, dI) (wd_C q cI cZ) [(cI, .int), (cZ, .boolean)] (va_A (wd_C q cI cZ σ) sz) v σ') 0 0 (va_A (wd_C q cI cZ σ) sz) := by
  refine Met.ofW (cc := nb_F_vmalloc) (maxL := 2) (ret := (some .int)) (by decide) rfl ?_
  intro p e s m args below meth c s₁ B hml hv
  obtain ⟨rfl, hsz, hP, hK, hD0, hN⟩ := hv
  have hx := B.exec
  have hb := B.bytes
  have hr := B.returns
  have hts := atoms_spec (ws := nw_F_vmalloc) B.pre
  have hB : ∀ w ∈ BG, w.before ([.ref (q 0), .int z1] : List Value).toArray s = true := fun w h => hts w (List.mem_cons_of_mem _ h)
  have hown : s.vm.findClass "MovedFrames" = some m.cls := findClass_of_methodNamed B.named
  have hlocks := B.notSynchronized
  subst hsz
  have hD := hD0.self (sz := s.heap.size)
  generalize hAe : va_A (wd_C q cI cZ σ) s.heap.size = A at hD ⊢
  have hA : ∀ q : Nat, s.heap.size ≤ q → A q := fun q h => by rw [← hAe]; exact Or.inr h
  have hS : va_S A s.heap s.heap [] := va_S.rf
  have hl := lv_entry ([.ref (q 0), .int z1]) (n := 2) (Nat.le_of_ble_eq_true rfl)
  rw [lg_entry_eq]
  generalize (lg_sl ([.ref (q 0), .int z1]) ++ List.replicate (2 - (lg_sl ([.ref (q 0), .int z1])).length) Slot.unset).toArray = ls at hl ⊢
  have hl : lv_has ls 2 [(0, .ref (q 0)), (1, .int z1)] := hl
  have B11 : ∀ (σ : CS), mc_vmalloc_b11 σ = some (v, 0, σ') → bk_ p l e rm_F_vmalloc s m ([.ref (q 0), .int z1] : List Value).toArray below meth c (MQ below (qi_ (dC, dI) (wd_C q cI cZ) [(cI, .int), (cZ, .boolean)] A v σ') ([.ref (q 0), .int z1] : List Value).toArray s 0 0 A) A (dC, dI) (wd_C q cI cZ) 2 11 [] [] σ := by
    intro σ hf ls H locs hl hP hD hS
    unfold mc_vmalloc_b11 at hf
    exact absurd (mi_t3 hf).2.1 (by decide)
  have hH : s.heap = s.heap := rfl
  unfold mc_vmalloc at hf
  refine lv_iload_n hx hb nd_F_vmalloc_0 rfl (lv_at hl 1 rfl) ?_
  refine lv_iconst (v := 1) hx hb nd_F_vmalloc_1 (by decide) ?_
  refine lv_icmp_lt (tgt := 11) hx hb nd_F_vmalloc_2 (by decide) (fun hc => ?_) (fun hc => ?_)
  · have hf := mi_if_t hc hf
    exact B11 σ hf _ _ _ (lv_sub hl [] rfl) hP hD hS
  · have hf := mi_if_f hc hf
    refine lv_iload_n hx hb nd_F_vmalloc_5 rfl (lv_at hl 1 rfl) ?_
    refine lv_bipush (v := 8) hx hb nd_F_vmalloc_6 (by decide) ?_
    refine lv_icmp_le (tgt := 21) hx hb nd_F_vmalloc_8 (by decide) (fun hc => ?_) (fun hc => ?_)
    · have hf := mi_if_t hc hf
      refine lv_aload_n hx hb nd_F_vmalloc_21 rfl (lv_at hl 0 rfl) ?_
      refine va_get (D := (dC, dI)) (ci := 5) (v := .ref (q 3)) (C := RX5) (T := TX5) (N := 5) hx hb hB inB5 hown hK hP 0 rfl rfl 2 (by decide) (hB _ lk_115) (fun _ h9 => h9) rfl nd_F_vmalloc_22 ?_
      refine lv_iload_n hx hb nd_F_vmalloc_25 rfl (lv_at hl 1 rfl) ?_
      obtain ⟨r2, σ1, hc, hf⟩ := mi_cw_el hf
      refine ca_i (va_runV (C := "MovedFrames$Ranges") (As := [.int z1]) (rest := []) ⟨hx, hb, hml, hown, hB⟩ (kw_Ranges_add l dC dI q cI cZ _ σ z1 r2 σ1 hc) ⟨callB_of 1 hB (gi_ lk_388) rfl rfl rfl (hB _ lk_4) (hB _ lk_385) (by decide +kernel) ⟨Nat.le_of_ble_eq_true rfl, Nat.le_of_ble_eq_true rfl⟩, hB _ lk_386, hB _ lk_387⟩ ⟨bl_, va_recv (ci := 1) (q0 := 3) hK hP rfl rfl, pre_ hP hK hD hN⟩ rfl rfl hl.1 rfl (lv_room (Nat.le_of_ble_eq_true rfl)) nd_F_vmalloc_26 ⟨Nat.zero_le _, Nat.zero_le _⟩) hD hS hA (fun H locs hP hD hS => ?_)
      obtain ⟨r3, n9, hc, hq⟩ := mi_tq_el hf
      rcases hq with ⟨h9, hf⟩ | ⟨h9, hf⟩
      · subst h9
        refine ca_i (va_runS (As := [.int r2]) (rest := []) ⟨hx, hb, hml, hown, hB⟩ (kw_F_orNotEnough l dC dI q cI cZ _ σ1 r2 r3 hc) ⟨callB_of 1 hB (gi_ lk_341) rfl rfl rfl (hB _ lk_1) (hB _ lk_339) (by decide +kernel) ⟨Nat.le_of_ble_eq_true rfl, Nat.le_of_ble_eq_true rfl⟩, hB _ lk_340⟩ ⟨bl_, pre_ hP hK hD hN⟩ rfl rfl hl.1 rfl (lv_room (Nat.le_of_ble_eq_true rfl)) nd_F_vmalloc_29 ⟨Nat.zero_le _, Nat.zero_le _⟩) hD hS hA (fun H locs hP hD hS => ?_)
        exact re_i hx hb hr hlocks ((mi_t3 hf).1) ((mi_t3 hf).2.2) hP hK hD hS nd_F_vmalloc_32
      · exact absurd (congrArg (fun z => z.2.1) hf).symm h9
    · have hf := mi_if_f hc hf
      exact B11 σ hf _ _ _ (lv_sub hl [] rfl) hP hD hS
abbrev rt_F_vmalloc : Room := { frames := 7, cells := 1, slots := 6, locals := 110 }
set_option maxHeartbeats 4000000 in
set_option maxRecDepth 100000 in
theorem kt_F_vmalloc (l : Launch) (dC : Nat → ClassId) (dI : Nat → Nat → Nat) (q : Nat → Nat) (cI cZ : ClassId) (sz : Nat) (σ : CS) (z1 : Int32) (v : Int32) (n : Nat) (σ' : CS) (htr : l.stackTraces = false) (hn : ¬ n = 0) (hf : mc_vmalloc σ z1 = some (v, n, σ')) : vx_Met l ny_F_vmalloc nw_F_vmalloc rt_F_vmalloc (va_Pc [.ref (q 0), .int z1] (prx_ (dC, dI) (wd_C q cI cZ) [(cI, .int), (cZ, .boolean)] sz σ)) (fi_ (dC, dI) (wd_C q cI cZ) [(cI, .int), (cZ, .boolean)] (va_A (wd_C q cI cZ σ) sz)) (xx_ (dC, dI) (wd_C q cI cZ) [(cI, .int), (cZ, .boolean)] (va_A (wd_C q cI cZ σ) sz) n σ') 1 6 (va_A (wd_C q cI cZ σ) sz) := by
  refine vx_ofW (cc := nb_F_vmalloc) (maxL := 2) (ret := (some .int)) (by decide) rfl ?_
  intro p e s m args below meth c s₁ B hml hno hv
  obtain ⟨rfl, ⟨hsz, hP, hK, hD0, hN⟩, hT, hZ⟩ := hv
  have hx := B.exec
  have hb := B.bytes
  have hr := B.returns
  have hts := atoms_spec (ws := nw_F_vmalloc) B.pre
  have hB : ∀ w ∈ BG, w.before ([.ref (q 0), .int z1] : List Value).toArray s = true := fun w h => hts w (List.mem_cons_of_mem _ h)
  have hown : s.vm.findClass "MovedFrames" = some m.cls := findClass_of_methodNamed B.named
  have hlocks := B.notSynchronized
  subst hsz
  have hD := hD0.self (sz := s.heap.size)
  generalize hAe : va_A (wd_C q cI cZ σ) s.heap.size = A at hD hZ ⊢
  have hA : ∀ q : Nat, s.heap.size ≤ q → A q := fun q h => by rw [← hAe]; exact Or.inr h
  have hS : va_S A s.heap s.heap [] := va_S.rf
  have hl := lv_entry ([.ref (q 0), .int z1]) (n := 2) (Nat.le_of_ble_eq_true rfl)
  rw [lg_entry_eq]
  generalize (lg_sl ([.ref (q 0), .int z1]) ++ List.replicate (2 - (lg_sl ([.ref (q 0), .int z1])).length) Slot.unset).toArray = ls at hl ⊢
  have hl : lv_has ls 2 [(0, .ref (q 0)), (1, .int z1)] := hl
  have B11 : ∀ (σ : CS), mc_vmalloc_b11 σ = some (v, n, σ') → bk_ p l e rt_F_vmalloc s m ([.ref (q 0), .int z1] : List Value).toArray below meth c (vx_MQ below (fi_ (dC, dI) (wd_C q cI cZ) [(cI, .int), (cZ, .boolean)] A) (xx_ (dC, dI) (wd_C q cI cZ) [(cI, .int), (cZ, .boolean)] A n σ') ([.ref (q 0), .int z1] : List Value).toArray s 1 6 A) A (dC, dI) (wd_C q cI cZ) 2 11 [] [] σ := by
    intro σ hf ls H locs hl hP hD hS
    unfold mc_vmalloc_b11 at hf
    have hm := mi_t3 hf
    exact th_ (text := "no such number of pages") hx hb htr hown (by decide) (by decide) (hB _ lk_224) (hB _ lk_11) hT.2.2.2.2.1 (sa_MovedFrames_52 hB hT) sg_MovedFrames_52 hZ hP hK hD hS (hl.1.trans hml.symm) nd_F_vmalloc_11 nd_F_vmalloc_14 nd_F_vmalloc_15 nd_F_vmalloc_17 nd_F_vmalloc_20 hno (Nat.le_of_ble_eq_true rfl) (Nat.le_of_ble_eq_true rfl) (Nat.le_of_ble_eq_true rfl) (Nat.le_of_ble_eq_true rfl) hlocks hn (by rw [← hm.2.1]; rfl) hm.2.2
  have hH : s.heap = s.heap := rfl
  unfold mc_vmalloc at hf
  refine lv_iload_n hx hb nd_F_vmalloc_0 rfl (lv_at hl 1 rfl) ?_
  refine lv_iconst (v := 1) hx hb nd_F_vmalloc_1 (by decide) ?_
  refine lv_icmp_lt (tgt := 11) hx hb nd_F_vmalloc_2 (by decide) (fun hc => ?_) (fun hc => ?_)
  · have hf := mi_if_t hc hf
    exact B11 σ hf _ _ _ (lv_sub hl [] rfl) hP hD hS
  · have hf := mi_if_f hc hf
    refine lv_iload_n hx hb nd_F_vmalloc_5 rfl (lv_at hl 1 rfl) ?_
    refine lv_bipush (v := 8) hx hb nd_F_vmalloc_6 (by decide) ?_
    refine lv_icmp_le (tgt := 21) hx hb nd_F_vmalloc_8 (by decide) (fun hc => ?_) (fun hc => ?_)
    · have hf := mi_if_t hc hf
      refine lv_aload_n hx hb nd_F_vmalloc_21 rfl (lv_at hl 0 rfl) ?_
      refine va_get (D := (dC, dI)) (ci := 5) (v := .ref (q 3)) (C := RX5) (T := TX5) (N := 5) hx hb hB inB5 hown hK hP 0 rfl rfl 2 (by decide) (hB _ lk_115) (fun _ h9 => h9) rfl nd_F_vmalloc_22 ?_
      refine lv_iload_n hx hb nd_F_vmalloc_25 rfl (lv_at hl 1 rfl) ?_
      obtain ⟨r2, σ1, hc, hf⟩ := mi_cw_el hf
      refine ca_i (va_runV (C := "MovedFrames$Ranges") (As := [.int z1]) (rest := []) ⟨hx, hb, hml, hown, hB⟩ (kw_Ranges_add l dC dI q cI cZ _ σ z1 r2 σ1 hc) ⟨callB_of 1 hB (gi_ lk_388) rfl rfl rfl (hB _ lk_4) (hB _ lk_385) (by decide +kernel) ⟨Nat.le_of_ble_eq_true rfl, Nat.le_of_ble_eq_true rfl⟩, hB _ lk_386, hB _ lk_387⟩ ⟨bl_, va_recv (ci := 1) (q0 := 3) hK hP rfl rfl, pre_ hP hK hD hN⟩ rfl rfl hl.1 rfl (lv_room (Nat.le_of_ble_eq_true rfl)) nd_F_vmalloc_26 ⟨Nat.zero_le _, Nat.zero_le _⟩) hD hS hA (fun H locs hP hD hS => ?_)
      obtain ⟨r3, n9, hc, hq⟩ := mi_tq_el hf
      rcases hq with ⟨h9, hf⟩ | ⟨h9, hf⟩
      · subst h9
        refine ca_i (va_runS (As := [.int r2]) (rest := []) ⟨hx, hb, hml, hown, hB⟩ (kw_F_orNotEnough l dC dI q cI cZ _ σ1 r2 r3 hc) ⟨callB_of 1 hB (gi_ lk_341) rfl rfl rfl (hB _ lk_1) (hB _ lk_339) (by decide +kernel) ⟨Nat.le_of_ble_eq_true rfl, Nat.le_of_ble_eq_true rfl⟩, hB _ lk_340⟩ ⟨bl_, pre_ hP hK hD hN⟩ rfl rfl hl.1 rfl (lv_room (Nat.le_of_ble_eq_true rfl)) nd_F_vmalloc_29 ⟨Nat.zero_le _, Nat.zero_le _⟩) hD hS hA (fun H locs hP hD hS => ?_)
        exact absurd (mi_t3 hf).2.1.symm hn
      · obtain ⟨-, hm, hs9⟩ := mi_t3 (congrArg some hf)
        have hm := hm.symm
        subst hm
        have hs9 := hs9.symm
        subst hs9
        exact cx_i (vx_runS (As := [.int r2]) (rest := []) ⟨hx, hb, hml, hown, hB⟩ (kt_F_orNotEnough l dC dI q cI cZ _ σ1 r2 r3 n9 htr h9 hc) ⟨callB_of 1 hB (gi_ lk_341) rfl rfl rfl (hB _ lk_1) (hB _ lk_339) (by decide +kernel) ⟨Nat.le_of_ble_eq_true rfl, Nat.le_of_ble_eq_true rfl⟩, hB _ lk_340⟩ ⟨blx_, prex_ hP hK hD hN hT hZ hS hA⟩ rfl rfl hl.1 rfl (lv_room (Nat.le_of_ble_eq_true rfl)) nd_F_vmalloc_29 ⟨Nat.le_of_ble_eq_true rfl, Nat.le_of_ble_eq_true rfl⟩) hno hlocks hK hD hS hA
    · have hf := mi_if_f hc hf
      exact B11 σ hf _ _ _ (lv_sub hl [] rfl) hP hD hS
abbrev rm_Ranges_remove : Room := { frames := 2, cells := 0, slots := 0, locals := 41 }
set_option maxHeartbeats 4000000 in
set_option maxRecDepth 100000 in
theorem kw_Ranges_remove (l : Launch) (dC : Nat → ClassId) (dI : Nat → Nat → Nat) (q : Nat → Nat) (cI cZ : ClassId) (sz : Nat) (σ : CS) (z1 : Int32) (v : Int32) (σ' : CS) (hf : mc_Ranges_remove σ z1 = some (v, σ')) : Met l ny_Ranges_remove nw_Ranges_remove rm_Ranges_remove (va_Pc [.ref (q 3), .int z1] (pr_ (dC, dI) (wd_C q cI cZ) [(cI, .int), (cZ, .boolean)] sz σ)) (qi_ (dC, dI) (wd_C q cI cZ) [(cI, .int), (cZ, .boolean)] (va_A (wd_C q cI cZ σ) sz) v σ') 0 0 (va_A (wd_C q cI cZ σ) sz) := by
  refine Met.ofW (cc := nb_Ranges_remove) (maxL := 5) (ret := (some .int)) (by decide) rfl ?_
  intro p e s m args below meth c s₁ B hml hv
  obtain ⟨rfl, hsz, hP, hK, hD0, hN⟩ := hv
  have hx := B.exec
  have hb := B.bytes
  have hr := B.returns
  have hts := atoms_spec (ws := nw_Ranges_remove) B.pre
  have hB : ∀ w ∈ BG, w.before ([.ref (q 3), .int z1] : List Value).toArray s = true := fun w h => hts w (List.mem_cons_of_mem _ h)
  have hown : s.vm.findClass "MovedFrames$Ranges" = some m.cls := findClass_of_methodNamed B.named
  have hlocks := B.notSynchronized
  subst hsz
  have hD := hD0.self (sz := s.heap.size)
  generalize hAe : va_A (wd_C q cI cZ σ) s.heap.size = A at hD ⊢
  have hA : ∀ q : Nat, s.heap.size ≤ q → A q := fun q h => by rw [← hAe]; exact Or.inr h
  have hS : va_S A s.heap s.heap [] := va_S.rf
  have hl := lv_entry ([.ref (q 3), .int z1]) (n := 5) (Nat.le_of_ble_eq_true rfl)
  rw [lg_entry_eq]
  generalize (lg_sl ([.ref (q 3), .int z1]) ++ List.replicate (5 - (lg_sl ([.ref (q 3), .int z1])).length) Slot.unset).toArray = ls at hl ⊢
  have hl : lv_has ls 5 [(0, .ref (q 3)), (1, .int z1)] := hl
  have B79 : ∀ (x2 : Int32) (x3 : Int32) (σ : CS), mc_Ranges_remove_b79 x2 x3 σ = some (v, σ') → bk_ p l e rm_Ranges_remove s m ([.ref (q 3), .int z1] : List Value).toArray below meth c (MQ below (qi_ (dC, dI) (wd_C q cI cZ) [(cI, .int), (cZ, .boolean)] A v σ') ([.ref (q 3), .int z1] : List Value).toArray s 0 0 A) A (dC, dI) (wd_C q cI cZ) 5 79 [(0, .ref (q 3)), (2, .int x2), (3, .int x3)] [] σ := by
    intro x2 x3 σ hf ls H locs hl hP hD hS
    unfold mc_Ranges_remove_b79 at hf
    refine lv_aload_n hx hb nd_Ranges_remove_79 rfl (lv_at hl 0 rfl) ?_
    refine va_get (D := (dC, dI)) (ci := 1) (v := .ref (q 11)) (C := RX1) (T := TX1) (N := 3) hx hb hB inB1 hown hK hP 3 rfl rfl 2 (by decide) (hB _ lk_66) (fun _ h9 => h9) rfl nd_Ranges_remove_80 ?_
    refine lv_iload_n hx hb nd_Ranges_remove_83 rfl (lv_at hl 1 rfl) ?_
    refine lv_iconst (v := 0) hx hb nd_Ranges_remove_84 (by decide) ?_
    obtain ⟨hg, hf⟩ := mi_gd_el hf
    refine va_iast hx hb hK hP hD hS 11 0 rfl rfl hg nd_Ranges_remove_85 (fun H locs hP hD hS => ?_)
    obtain ⟨σ1, e9, hf⟩ := mi_wr_ex hf
    have hP : va_P (dC, dI) vwCl (wd_C q cI cZ σ1) H := by rw [e9]; exact hP
    have hD : va_D A (wd_C q cI cZ σ1) := by rw [e9]; exact hD
    refine lv_iload_n hx hb nd_Ranges_remove_86 rfl (lv_at hl 2 rfl) ?_
    exact re_i hx hb hr hlocks ((mi_pr hf).1) ((mi_pr hf).2) hP hK hD hS nd_Ranges_remove_87
  have B41 : ∀ (k41 : Int32 → Int32 → Int32 → CS → Option (Int32 × CS)) (hk41 : ∀ (x2 : Int32) (x3 : Int32) (x4 : Int32) (σ : CS), k41 x2 x3 x4 σ = some (v, σ') → bk_ p l e rm_Ranges_remove s m ([.ref (q 3), .int z1] : List Value).toArray below meth c (MQ below (qi_ (dC, dI) (wd_C q cI cZ) [(cI, .int), (cZ, .boolean)] A v σ') ([.ref (q 3), .int z1] : List Value).toArray s 0 0 A) A (dC, dI) (wd_C q cI cZ) 5 41 [(0, .ref (q 3)), (2, .int x2), (3, .int x3), (4, .int x4)] [] σ) (x2 : Int32) (x3 : Int32) (x4 : Int32) (σ : CS), mc_Ranges_remove_b41 k41 x2 x3 x4 σ = some (v, σ') → bk_ p l e rm_Ranges_remove s m ([.ref (q 3), .int z1] : List Value).toArray below meth c (MQ below (qi_ (dC, dI) (wd_C q cI cZ) [(cI, .int), (cZ, .boolean)] A v σ') ([.ref (q 3), .int z1] : List Value).toArray s 0 0 A) A (dC, dI) (wd_C q cI cZ) 5 41 [(0, .ref (q 3)), (2, .int x2), (3, .int x3), (4, .int x4)] [] σ := by
    intro k41 hk41 x2 x3 x4 σ hf ls H locs hl hP hD hS
    unfold mc_Ranges_remove_b41 at hf
    refine lv_iload hx hb nd_Ranges_remove_41 (lv_at hl 3 rfl) ?_
    refine lv_iload_n hx hb nd_Ranges_remove_43 rfl (lv_at hl 1 rfl) ?_
    refine lv_iload_n hx hb nd_Ranges_remove_44 rfl (lv_at hl 2 rfl) ?_
    refine lv_iadd hx hb nd_Ranges_remove_45 ?_
    refine lv_icmp_ge (tgt := 79) hx hb nd_Ranges_remove_46 (by decide) (fun hc => ?_) (fun hc => ?_)
    · have hf := mi_if_t hc hf
      exact B79 x2 x3 σ hf _ _ _ (lv_sub hl [0, 1, 2] rfl) hP hD hS
    · have hf := mi_if_f hc hf
      refine lv_aload_n hx hb nd_Ranges_remove_49 rfl (lv_at hl 0 rfl) ?_
      refine va_get (D := (dC, dI)) (ci := 1) (v := .ref (q 1)) (C := RX1) (T := TX1) (N := 3) hx hb hB inB1 hown hK hP 3 rfl rfl 0 (by decide) (hB _ lk_64) (fun _ h9 => h9) rfl nd_Ranges_remove_50 ?_
      refine lv_aload_n hx hb nd_Ranges_remove_53 rfl (lv_at hl 0 rfl) ?_
      refine va_get (D := (dC, dI)) (ci := 1) (v := .ref (q 10)) (C := RX1) (T := TX1) (N := 3) hx hb hB inB1 hown hK hP 3 rfl rfl 1 (by decide) (hB _ lk_65) (fun _ h9 => h9) rfl nd_Ranges_remove_54 ?_
      refine lv_iload hx hb nd_Ranges_remove_57 (lv_at hl 3 rfl) ?_
      obtain ⟨hg, hf⟩ := mi_gd_el hf
      refine va_iald hx hb hK hP 10 0 rfl rfl hg nd_Ranges_remove_59 ?_
      refine lv_iconst (v := 1) hx hb nd_Ranges_remove_60 (by decide) ?_
      refine lv_isub hx hb nd_Ranges_remove_61 ?_
      obtain ⟨σ2, hc, hf⟩ := mi_cv_el hf
      refine ca_v (va_runV (C := "MovedFrames$Frames") (As := [.int (((gc_en σ) x4.toNatClampNeg) - (1 : Int32))]) (rest := []) ⟨hx, hb, hml, hown, hB⟩ (kw_Frames_makeFree l dC dI q cI cZ _ σ (((gc_en σ) x4.toNatClampNeg) - (1 : Int32)) σ2 hc) ⟨callB_of 1 hB (gi_ lk_372) rfl rfl rfl (hB _ lk_2) (hB _ lk_406) (by decide +kernel) ⟨Nat.le_of_ble_eq_true rfl, Nat.le_of_ble_eq_true rfl⟩, hB _ lk_370, hB _ lk_371⟩ ⟨bl_, va_recv (ci := 0) (q0 := 1) hK hP rfl rfl, pre_ hP hK hD hN⟩ rfl rfl hl.1 rfl (lv_room (Nat.le_of_ble_eq_true rfl)) nd_Ranges_remove_62 ⟨Nat.zero_le _, Nat.zero_le _⟩) hD hS hA (fun H locs hP hD hS => ?_)
      refine lv_aload_n hx hb nd_Ranges_remove_65 rfl (lv_at hl 0 rfl) ?_
      refine va_get (D := (dC, dI)) (ci := 1) (v := .ref (q 10)) (C := RX1) (T := TX1) (N := 3) hx hb hB inB1 hown hK hP 3 rfl rfl 1 (by decide) (hB _ lk_65) (fun _ h9 => h9) rfl nd_Ranges_remove_66 ?_
      refine lv_iload hx hb nd_Ranges_remove_69 (lv_at hl 3 rfl) ?_
      refine lv_iconst (v := 0) hx hb nd_Ranges_remove_71 (by decide) ?_
      obtain ⟨hg, hf⟩ := mi_gd_el hf
      refine va_iast hx hb hK hP hD hS 10 0 rfl rfl hg nd_Ranges_remove_72 (fun H locs hP hD hS => ?_)
      obtain ⟨σ3, e9, hf⟩ := mi_wr_ex hf
      have hP : va_P (dC, dI) vwCl (wd_C q cI cZ σ3) H := by rw [e9]; exact hP
      have hD : va_D A (wd_C q cI cZ σ3) := by rw [e9]; exact hD
      refine lv_iinc (k := 3) (v := x4 + (1 : Int32)) (lv' := [(4, .int (x4 + (1 : Int32))), (0, .ref (q 3)), (2, .int x2), (3, .int x3)]) hx hb nd_Ranges_remove_73 hl rfl (congrArg (fun z => x4 + z) (by decide : Int32.ofInt 1 = (1 : Int32))) (by decide) rfl (fun ls hl => ?_)
      refine lv_goto (tgt := 41) hx hb nd_Ranges_remove_76 (by decide) ?_
      exact hk41 x2 x3 (x4 + (1 : Int32)) σ3 hf _ _ _ (lv_sub hl [1, 2, 3, 0] rfl) hP hD hS
  have L41 : ∀ (n : Nat) (x2 : Int32) (x3 : Int32) (x4 : Int32) (σ : CS), mc_Ranges_remove_l41 n x2 x3 x4 σ = some (v, σ') → bk_ p l e rm_Ranges_remove s m ([.ref (q 3), .int z1] : List Value).toArray below meth c (MQ below (qi_ (dC, dI) (wd_C q cI cZ) [(cI, .int), (cZ, .boolean)] A v σ') ([.ref (q 3), .int z1] : List Value).toArray s 0 0 A) A (dC, dI) (wd_C q cI cZ) 5 41 [(0, .ref (q 3)), (2, .int x2), (3, .int x3), (4, .int x4)] [] σ := by
    intro n
    induction n with
    | zero =>
      intro x2 x3 x4 σ hf
      exact mi_no hf
    | succ n ih =>
      intro x2 x3 x4 σ hf
      exact B41 (mc_Ranges_remove_l41 n) ih x2 x3 x4 σ hf
  have hH : s.heap = s.heap := rfl
  unfold mc_Ranges_remove at hf
  refine lv_iload_n hx hb nd_Ranges_remove_0 rfl (lv_at hl 1 rfl) ?_
  refine lv_if_lt (tgt := 18) hx hb nd_Ranges_remove_1 (by decide) (fun hc => ?_) (fun hc => ?_)
  · have hf := mi_if_t hc hf
    refine lv_iconst (v := (-1)) hx hb nd_Ranges_remove_18 (by decide) ?_
    exact re_i hx hb hr hlocks ((mi_pr hf).1) ((mi_pr hf).2) hP hK hD hS nd_Ranges_remove_19
  · have hf := mi_if_f hc hf
    refine lv_iload_n hx hb nd_Ranges_remove_4 rfl (lv_at hl 1 rfl) ?_
    refine lv_sipush (v := 1024) hx hb nd_Ranges_remove_5 (by decide) ?_
    refine lv_icmp_ge (tgt := 18) hx hb nd_Ranges_remove_8 (by decide) (fun hc => ?_) (fun hc => ?_)
    · have hf := mi_if_t hc hf
      refine lv_iconst (v := (-1)) hx hb nd_Ranges_remove_18 (by decide) ?_
      exact re_i hx hb hr hlocks ((mi_pr hf).1) ((mi_pr hf).2) hP hK hD hS nd_Ranges_remove_19
    · have hf := mi_if_f hc hf
      refine lv_iload_n hx hb nd_Ranges_remove_11 rfl (lv_at hl 1 rfl) ?_
      refine lv_bipush (v := 16) hx hb nd_Ranges_remove_12 (by decide) ?_
      refine lv_irem hx hb nd_Ranges_remove_14 (by decide) ?_
      refine lv_if_eq (tgt := 20) hx hb nd_Ranges_remove_15 (by decide) (fun hc => ?_) (fun hc => ?_)
      · have hf := mi_if_t hc hf
        refine lv_iload_n hx hb nd_Ranges_remove_20 rfl (lv_at hl 1 rfl) ?_
        refine lv_bipush (v := 16) hx hb nd_Ranges_remove_21 (by decide) ?_
        refine lv_idiv hx hb nd_Ranges_remove_23 (by decide) ?_
        refine lv_istore_n (lv' := [(2, .int (z1 / (16 : Int32))), (0, .ref (q 3)), (1, .int z1)]) hx hb nd_Ranges_remove_24 rfl hl (by decide) rfl (fun ls hl => ?_)
        refine lv_aload_n hx hb nd_Ranges_remove_25 rfl (lv_at hl 1 rfl) ?_
        refine va_get (D := (dC, dI)) (ci := 1) (v := .ref (q 11)) (C := RX1) (T := TX1) (N := 3) hx hb hB inB1 hown hK hP 3 rfl rfl 2 (by decide) (hB _ lk_66) (fun _ h9 => h9) rfl nd_Ranges_remove_26 ?_
        refine lv_iload_n hx hb nd_Ranges_remove_29 rfl (lv_at hl 0 rfl) ?_
        obtain ⟨hg, hf⟩ := mi_gd_el hf
        refine va_iald hx hb hK hP 11 0 rfl rfl hg nd_Ranges_remove_30 ?_
        refine lv_istore_n (lv' := [(3, .int ((gc_ln σ) (z1 / (16 : Int32)).toNatClampNeg)), (2, .int (z1 / (16 : Int32))), (0, .ref (q 3)), (1, .int z1)]) hx hb nd_Ranges_remove_31 rfl hl (by decide) rfl (fun ls hl => ?_)
        refine lv_iload_n hx hb nd_Ranges_remove_32 rfl (lv_at hl 0 rfl) ?_
        refine lv_if_ne (tgt := 38) hx hb nd_Ranges_remove_33 (by decide) (fun hc => ?_) (fun hc => ?_)
        · have hf := mi_if_f hc hf
          refine lv_iload_n hx hb nd_Ranges_remove_38 rfl (lv_at hl 1 rfl) ?_
          refine lv_istore (lv' := [(4, .int (z1 / (16 : Int32))), (3, .int ((gc_ln σ) (z1 / (16 : Int32)).toNatClampNeg)), (2, .int (z1 / (16 : Int32))), (0, .ref (q 3)), (1, .int z1)]) hx hb nd_Ranges_remove_39 hl (by decide) rfl (fun ls hl => ?_)
          exact L41 FU (z1 / (16 : Int32)) ((gc_ln σ) (z1 / (16 : Int32)).toNatClampNeg) (z1 / (16 : Int32)) σ hf _ _ _ (lv_sub hl [3, 2, 1, 0] rfl) hP hD hS
        · have hf := mi_if_t hc hf
          refine lv_iconst (v := (-1)) hx hb nd_Ranges_remove_36 (by decide) ?_
          exact re_i hx hb hr hlocks ((mi_pr hf).1) ((mi_pr hf).2) hP hK hD hS nd_Ranges_remove_37
      · have hf := mi_if_f hc hf
        refine lv_iconst (v := (-1)) hx hb nd_Ranges_remove_18 (by decide) ?_
        exact re_i hx hb hr hlocks ((mi_pr hf).1) ((mi_pr hf).2) hP hK hD hS nd_Ranges_remove_19
abbrev rm_F_vfree : Room := { frames := 7, cells := 0, slots := 0, locals := 110 }
set_option maxHeartbeats 4000000 in
set_option maxRecDepth 100000 in
theorem kw_F_vfree (l : Launch) (dC : Nat → ClassId) (dI : Nat → Nat → Nat) (q : Nat → Nat) (cI cZ : ClassId) (sz : Nat) (σ : CS) (z1 : Int32) (v : Int32) (σ' : CS) (hf : mc_vfree σ z1 = some (v, 0, σ')) : Met l ny_F_vfree nw_F_vfree rm_F_vfree (va_Pc [.ref (q 0), .int z1] (pr_ (dC, dI) (wd_C q cI cZ) [(cI, .int), (cZ, .boolean)] sz σ)) (qi_ (dC, dI) (wd_C q cI cZ) [(cI, .int), (cZ, .boolean)] (va_A (wd_C q cI cZ σ) sz) v σ') 0 0 (va_A (wd_C q cI cZ σ) sz) := by
  refine Met.ofW (cc := nb_F_vfree) (maxL := 2) (ret := (some .int)) (by decide) rfl ?_
  intro p e s m args below meth c s₁ B hml hv
  obtain ⟨rfl, hsz, hP, hK, hD0, hN⟩ := hv
  have hx := B.exec
  have hb := B.bytes
  have hr := B.returns
  have hts := atoms_spec (ws := nw_F_vfree) B.pre
  have hB : ∀ w ∈ BG, w.before ([.ref (q 0), .int z1] : List Value).toArray s = true := fun w h => hts w (List.mem_cons_of_mem _ h)
  have hown : s.vm.findClass "MovedFrames" = some m.cls := findClass_of_methodNamed B.named
  have hlocks := B.notSynchronized
  subst hsz
  have hD := hD0.self (sz := s.heap.size)
  generalize hAe : va_A (wd_C q cI cZ σ) s.heap.size = A at hD ⊢
  have hA : ∀ q : Nat, s.heap.size ≤ q → A q := fun q h => by rw [← hAe]; exact Or.inr h
  have hS : va_S A s.heap s.heap [] := va_S.rf
  have hl := lv_entry ([.ref (q 0), .int z1]) (n := 2) (Nat.le_of_ble_eq_true rfl)
  rw [lg_entry_eq]
  generalize (lg_sl ([.ref (q 0), .int z1]) ++ List.replicate (2 - (lg_sl ([.ref (q 0), .int z1])).length) Slot.unset).toArray = ls at hl ⊢
  have hl : lv_has ls 2 [(0, .ref (q 0)), (1, .int z1)] := hl
  have hH : s.heap = s.heap := rfl
  unfold mc_vfree at hf
  refine lv_aload_n hx hb nd_F_vfree_0 rfl (lv_at hl 0 rfl) ?_
  refine va_get (D := (dC, dI)) (ci := 5) (v := .ref (q 3)) (C := RX5) (T := TX5) (N := 5) hx hb hB inB5 hown hK hP 0 rfl rfl 2 (by decide) (hB _ lk_115) (fun _ h9 => h9) rfl nd_F_vfree_1 ?_
  refine lv_iload_n hx hb nd_F_vfree_4 rfl (lv_at hl 1 rfl) ?_
  obtain ⟨r2, σ1, hc, hf⟩ := mi_cw_el hf
  refine ca_i (va_runV (C := "MovedFrames$Ranges") (As := [.int z1]) (rest := []) ⟨hx, hb, hml, hown, hB⟩ (kw_Ranges_remove l dC dI q cI cZ _ σ z1 r2 σ1 hc) ⟨callB_of 1 hB (gi_ lk_405) rfl rfl rfl (hB _ lk_4) (hB _ lk_402) (by decide +kernel) ⟨Nat.le_of_ble_eq_true rfl, Nat.le_of_ble_eq_true rfl⟩, hB _ lk_403, hB _ lk_404⟩ ⟨bl_, va_recv (ci := 1) (q0 := 3) hK hP rfl rfl, pre_ hP hK hD hN⟩ rfl rfl hl.1 rfl (lv_room (Nat.le_of_ble_eq_true rfl)) nd_F_vfree_5 ⟨Nat.zero_le _, Nat.zero_le _⟩) hD hS hA (fun H locs hP hD hS => ?_)
  obtain ⟨r3, n9, hc, hq⟩ := mi_tq_el hf
  rcases hq with ⟨h9, hf⟩ | ⟨h9, hf⟩
  · subst h9
    refine ca_i (va_runS (As := [.int r2]) (rest := []) ⟨hx, hb, hml, hown, hB⟩ (kw_F_orNotAsTold l dC dI q cI cZ _ σ1 r2 r3 hc) ⟨callB_of 1 hB (gi_ lk_375) rfl rfl rfl (hB _ lk_1) (hB _ lk_373) (by decide +kernel) ⟨Nat.le_of_ble_eq_true rfl, Nat.le_of_ble_eq_true rfl⟩, hB _ lk_374⟩ ⟨bl_, pre_ hP hK hD hN⟩ rfl rfl hl.1 rfl (lv_room (Nat.le_of_ble_eq_true rfl)) nd_F_vfree_8 ⟨Nat.zero_le _, Nat.zero_le _⟩) hD hS hA (fun H locs hP hD hS => ?_)
    exact re_i hx hb hr hlocks ((mi_t3 hf).1) ((mi_t3 hf).2.2) hP hK hD hS nd_F_vfree_11
  · exact absurd (congrArg (fun z => z.2.1) hf).symm h9
abbrev rt_F_vfree : Room := { frames := 7, cells := 1, slots := 6, locals := 110 }
set_option maxHeartbeats 4000000 in
set_option maxRecDepth 100000 in
theorem kt_F_vfree (l : Launch) (dC : Nat → ClassId) (dI : Nat → Nat → Nat) (q : Nat → Nat) (cI cZ : ClassId) (sz : Nat) (σ : CS) (z1 : Int32) (v : Int32) (n : Nat) (σ' : CS) (htr : l.stackTraces = false) (hn : ¬ n = 0) (hf : mc_vfree σ z1 = some (v, n, σ')) : vx_Met l ny_F_vfree nw_F_vfree rt_F_vfree (va_Pc [.ref (q 0), .int z1] (prx_ (dC, dI) (wd_C q cI cZ) [(cI, .int), (cZ, .boolean)] sz σ)) (fi_ (dC, dI) (wd_C q cI cZ) [(cI, .int), (cZ, .boolean)] (va_A (wd_C q cI cZ σ) sz)) (xx_ (dC, dI) (wd_C q cI cZ) [(cI, .int), (cZ, .boolean)] (va_A (wd_C q cI cZ σ) sz) n σ') 1 6 (va_A (wd_C q cI cZ σ) sz) := by
  refine vx_ofW (cc := nb_F_vfree) (maxL := 2) (ret := (some .int)) (by decide) rfl ?_
  intro p e s m args below meth c s₁ B hml hno hv
  obtain ⟨rfl, ⟨hsz, hP, hK, hD0, hN⟩, hT, hZ⟩ := hv
  have hx := B.exec
  have hb := B.bytes
  have hr := B.returns
  have hts := atoms_spec (ws := nw_F_vfree) B.pre
  have hB : ∀ w ∈ BG, w.before ([.ref (q 0), .int z1] : List Value).toArray s = true := fun w h => hts w (List.mem_cons_of_mem _ h)
  have hown : s.vm.findClass "MovedFrames" = some m.cls := findClass_of_methodNamed B.named
  have hlocks := B.notSynchronized
  subst hsz
  have hD := hD0.self (sz := s.heap.size)
  generalize hAe : va_A (wd_C q cI cZ σ) s.heap.size = A at hD hZ ⊢
  have hA : ∀ q : Nat, s.heap.size ≤ q → A q := fun q h => by rw [← hAe]; exact Or.inr h
  have hS : va_S A s.heap s.heap [] := va_S.rf
  have hl := lv_entry ([.ref (q 0), .int z1]) (n := 2) (Nat.le_of_ble_eq_true rfl)
  rw [lg_entry_eq]
  generalize (lg_sl ([.ref (q 0), .int z1]) ++ List.replicate (2 - (lg_sl ([.ref (q 0), .int z1])).length) Slot.unset).toArray = ls at hl ⊢
  have hl : lv_has ls 2 [(0, .ref (q 0)), (1, .int z1)] := hl
  have hH : s.heap = s.heap := rfl
  unfold mc_vfree at hf
  refine lv_aload_n hx hb nd_F_vfree_0 rfl (lv_at hl 0 rfl) ?_
  refine va_get (D := (dC, dI)) (ci := 5) (v := .ref (q 3)) (C := RX5) (T := TX5) (N := 5) hx hb hB inB5 hown hK hP 0 rfl rfl 2 (by decide) (hB _ lk_115) (fun _ h9 => h9) rfl nd_F_vfree_1 ?_
  refine lv_iload_n hx hb nd_F_vfree_4 rfl (lv_at hl 1 rfl) ?_
  obtain ⟨r2, σ1, hc, hf⟩ := mi_cw_el hf
  refine ca_i (va_runV (C := "MovedFrames$Ranges") (As := [.int z1]) (rest := []) ⟨hx, hb, hml, hown, hB⟩ (kw_Ranges_remove l dC dI q cI cZ _ σ z1 r2 σ1 hc) ⟨callB_of 1 hB (gi_ lk_405) rfl rfl rfl (hB _ lk_4) (hB _ lk_402) (by decide +kernel) ⟨Nat.le_of_ble_eq_true rfl, Nat.le_of_ble_eq_true rfl⟩, hB _ lk_403, hB _ lk_404⟩ ⟨bl_, va_recv (ci := 1) (q0 := 3) hK hP rfl rfl, pre_ hP hK hD hN⟩ rfl rfl hl.1 rfl (lv_room (Nat.le_of_ble_eq_true rfl)) nd_F_vfree_5 ⟨Nat.zero_le _, Nat.zero_le _⟩) hD hS hA (fun H locs hP hD hS => ?_)
  obtain ⟨r3, n9, hc, hq⟩ := mi_tq_el hf
  rcases hq with ⟨h9, hf⟩ | ⟨h9, hf⟩
  · subst h9
    refine ca_i (va_runS (As := [.int r2]) (rest := []) ⟨hx, hb, hml, hown, hB⟩ (kw_F_orNotAsTold l dC dI q cI cZ _ σ1 r2 r3 hc) ⟨callB_of 1 hB (gi_ lk_375) rfl rfl rfl (hB _ lk_1) (hB _ lk_373) (by decide +kernel) ⟨Nat.le_of_ble_eq_true rfl, Nat.le_of_ble_eq_true rfl⟩, hB _ lk_374⟩ ⟨bl_, pre_ hP hK hD hN⟩ rfl rfl hl.1 rfl (lv_room (Nat.le_of_ble_eq_true rfl)) nd_F_vfree_8 ⟨Nat.zero_le _, Nat.zero_le _⟩) hD hS hA (fun H locs hP hD hS => ?_)
    exact absurd (mi_t3 hf).2.1.symm hn
  · obtain ⟨-, hm, hs9⟩ := mi_t3 (congrArg some hf)
    have hm := hm.symm
    subst hm
    have hs9 := hs9.symm
    subst hs9
    exact cx_i (vx_runS (As := [.int r2]) (rest := []) ⟨hx, hb, hml, hown, hB⟩ (kt_F_orNotAsTold l dC dI q cI cZ _ σ1 r2 r3 n9 htr h9 hc) ⟨callB_of 1 hB (gi_ lk_375) rfl rfl rfl (hB _ lk_1) (hB _ lk_373) (by decide +kernel) ⟨Nat.le_of_ble_eq_true rfl, Nat.le_of_ble_eq_true rfl⟩, hB _ lk_374⟩ ⟨blx_, prex_ hP hK hD hN hT hZ hS hA⟩ rfl rfl hl.1 rfl (lv_room (Nat.le_of_ble_eq_true rfl)) nd_F_vfree_8 ⟨Nat.le_of_ble_eq_true rfl, Nat.le_of_ble_eq_true rfl⟩) hno hlocks hK hD hS hA
abbrev rm_Spaces_add : Room := { frames := 3, cells := 0, slots := 0, locals := 71 }
set_option maxHeartbeats 4000000 in
set_option maxRecDepth 100000 in
theorem kw_Spaces_add (l : Launch) (dC : Nat → ClassId) (dI : Nat → Nat → Nat) (q : Nat → Nat) (cI cZ : ClassId) (sz : Nat) (σ : CS) (v : Int32) (σ' : CS) (hf : mc_Spaces_add σ = some (v, σ')) : Met l ny_Spaces_add nw_Spaces_add rm_Spaces_add (va_Pc [.ref (q 4)] (pr_ (dC, dI) (wd_C q cI cZ) [(cI, .int), (cZ, .boolean)] sz σ)) (qi_ (dC, dI) (wd_C q cI cZ) [(cI, .int), (cZ, .boolean)] (va_A (wd_C q cI cZ σ) sz) v σ') 0 0 (va_A (wd_C q cI cZ σ) sz) := by
  refine Met.ofW (cc := nb_Spaces_add) (maxL := 2) (ret := (some .int)) (by decide) rfl ?_
  intro p e s m args below meth c s₁ B hml hv
  obtain ⟨rfl, hsz, hP, hK, hD0, hN⟩ := hv
  have hx := B.exec
  have hb := B.bytes
  have hr := B.returns
  have hts := atoms_spec (ws := nw_Spaces_add) B.pre
  have hB : ∀ w ∈ BG, w.before ([.ref (q 4)] : List Value).toArray s = true := fun w h => hts w (List.mem_cons_of_mem _ h)
  have hown : s.vm.findClass "MovedFrames$Spaces" = some m.cls := findClass_of_methodNamed B.named
  have hlocks := B.notSynchronized
  subst hsz
  have hD := hD0.self (sz := s.heap.size)
  generalize hAe : va_A (wd_C q cI cZ σ) s.heap.size = A at hD ⊢
  have hA : ∀ q : Nat, s.heap.size ≤ q → A q := fun q h => by rw [← hAe]; exact Or.inr h
  have hS : va_S A s.heap s.heap [] := va_S.rf
  have hl := lv_entry ([.ref (q 4)]) (n := 2) (Nat.le_of_ble_eq_true rfl)
  rw [lg_entry_eq]
  generalize (lg_sl ([.ref (q 4)]) ++ List.replicate (2 - (lg_sl ([.ref (q 4)])).length) Slot.unset).toArray = ls at hl ⊢
  have hl : lv_has ls 2 [(0, .ref (q 4))] := hl
  have B2 : ∀ (k2 : Int32 → CS → Option (Int32 × CS)) (hk2 : ∀ (x1 : Int32) (σ : CS), k2 x1 σ = some (v, σ') → bk_ p l e rm_Spaces_add s m ([.ref (q 4)] : List Value).toArray below meth c (MQ below (qi_ (dC, dI) (wd_C q cI cZ) [(cI, .int), (cZ, .boolean)] A v σ') ([.ref (q 4)] : List Value).toArray s 0 0 A) A (dC, dI) (wd_C q cI cZ) 2 2 [(0, .ref (q 4)), (1, .int x1)] [] σ) (x1 : Int32) (σ : CS), mc_Spaces_add_b2 k2 x1 σ = some (v, σ') → bk_ p l e rm_Spaces_add s m ([.ref (q 4)] : List Value).toArray below meth c (MQ below (qi_ (dC, dI) (wd_C q cI cZ) [(cI, .int), (cZ, .boolean)] A v σ') ([.ref (q 4)] : List Value).toArray s 0 0 A) A (dC, dI) (wd_C q cI cZ) 2 2 [(0, .ref (q 4)), (1, .int x1)] [] σ := by
    intro k2 hk2 x1 σ hf ls H locs hl hP hD hS
    unfold mc_Spaces_add_b2 at hf
    refine lv_iload_n hx hb nd_Spaces_add_2 rfl (lv_at hl 1 rfl) ?_
    refine lv_iconst (v := 4) hx hb nd_Spaces_add_3 (by decide) ?_
    refine lv_icmp_ge (tgt := 53) hx hb nd_Spaces_add_4 (by decide) (fun hc => ?_) (fun hc => ?_)
    · have hf := mi_if_t hc hf
      refine lv_iconst (v := (-1)) hx hb nd_Spaces_add_53 (by decide) ?_
      exact re_i hx hb hr hlocks ((mi_pr hf).1) ((mi_pr hf).2) hP hK hD hS nd_Spaces_add_54
    · have hf := mi_if_f hc hf
      refine lv_aload_n hx hb nd_Spaces_add_7 rfl (lv_at hl 0 rfl) ?_
      refine va_get (D := (dC, dI)) (ci := 4) (v := .ref (q 12)) (C := RX4) (T := TX4) (N := 4) hx hb hB inB4 hown hK hP 4 rfl rfl 1 (by decide) (hB _ lk_81) (fun _ h9 => h9) rfl nd_Spaces_add_8 ?_
      refine lv_iload_n hx hb nd_Spaces_add_11 rfl (lv_at hl 1 rfl) ?_
      obtain ⟨hg, hf⟩ := mi_gd_el hf
      refine va_iald hx hb hK hP 12 0 rfl rfl hg nd_Spaces_add_12 ?_
      refine lv_if_ne (tgt := 47) hx hb nd_Spaces_add_13 (by decide) (fun hc => ?_) (fun hc => ?_)
      · have hf := mi_if_f hc hf
        refine lv_iinc (k := 1) (v := x1 + (1 : Int32)) (lv' := [(1, .int (x1 + (1 : Int32))), (0, .ref (q 4))]) hx hb nd_Spaces_add_47 hl rfl (congrArg (fun z => x1 + z) (by decide : Int32.ofInt 1 = (1 : Int32))) (by decide) rfl (fun ls hl => ?_)
        refine lv_goto (tgt := 2) hx hb nd_Spaces_add_50 (by decide) ?_
        exact hk2 (x1 + (1 : Int32)) σ hf _ _ _ (lv_sub hl [1, 0] rfl) hP hD hS
      · have hf := mi_if_t hc hf
        refine lv_aload_n hx hb nd_Spaces_add_16 rfl (lv_at hl 0 rfl) ?_
        refine va_get (D := (dC, dI)) (ci := 4) (v := .ref (q 12)) (C := RX4) (T := TX4) (N := 4) hx hb hB inB4 hown hK hP 4 rfl rfl 1 (by decide) (hB _ lk_81) (fun _ h9 => h9) rfl nd_Spaces_add_17 ?_
        refine lv_iload_n hx hb nd_Spaces_add_20 rfl (lv_at hl 1 rfl) ?_
        refine lv_iconst (v := 1) hx hb nd_Spaces_add_21 (by decide) ?_
        refine lv_aload_n hx hb nd_Spaces_add_22 rfl (lv_at hl 0 rfl) ?_
        refine va_get (D := (dC, dI)) (ci := 4) (v := .ref (q 1)) (C := RX4) (T := TX4) (N := 4) hx hb hB inB4 hown hK hP 4 rfl rfl 0 (by decide) (hB _ lk_80) (fun _ h9 => h9) rfl nd_Spaces_add_23 ?_
        refine lv_iconst (v := 1) hx hb nd_Spaces_add_26 (by decide) ?_
        obtain ⟨r2, σ1, hc, hf⟩ := mi_cw_el hf
        refine ca_i (va_runV (C := "MovedFrames$Frames") (As := [.int (1 : Int32)]) (rest := [.int (1 : Int32), .int x1, .ref (q 12)]) ⟨hx, hb, hml, hown, hB⟩ (kw_Frames_giveOne l dC dI q cI cZ _ σ (1 : Int32) r2 σ1 hc) ⟨callB_of 1 hB (gi_ lk_322) rfl rfl rfl (hB _ lk_2) (hB _ lk_418) (by decide +kernel) ⟨Nat.le_of_ble_eq_true rfl, Nat.le_of_ble_eq_true rfl⟩, hB _ lk_320, hB _ lk_321⟩ ⟨bl_, va_recv (ci := 0) (q0 := 1) hK hP rfl rfl, pre_ hP hK hD hN⟩ rfl rfl hl.1 rfl (lv_room (Nat.le_of_ble_eq_true rfl)) nd_Spaces_add_27 ⟨Nat.zero_le _, Nat.zero_le _⟩) hD hS hA (fun H locs hP hD hS => ?_)
        refine lv_iadd hx hb nd_Spaces_add_30 ?_
        obtain ⟨hg, hf⟩ := mi_gd_el hf
        refine va_iast hx hb hK hP hD hS 12 0 rfl rfl hg nd_Spaces_add_31 (fun H locs hP hD hS => ?_)
        obtain ⟨σ3, e9, hf⟩ := mi_wr_ex hf
        have hP : va_P (dC, dI) vwCl (wd_C q cI cZ σ3) H := by rw [e9]; exact hP
        have hD : va_D A (wd_C q cI cZ σ3) := by rw [e9]; exact hD
        refine lv_aload_n hx hb nd_Spaces_add_32 rfl (lv_at hl 0 rfl) ?_
        refine va_get (D := (dC, dI)) (ci := 4) (v := .ref (q 12)) (C := RX4) (T := TX4) (N := 4) hx hb hB inB4 hown hK hP 4 rfl rfl 1 (by decide) (hB _ lk_81) (fun _ h9 => h9) rfl nd_Spaces_add_33 ?_
        refine lv_iload_n hx hb nd_Spaces_add_36 rfl (lv_at hl 1 rfl) ?_
        obtain ⟨hg, hf⟩ := mi_gd_el hf
        refine va_iald hx hb hK hP 12 0 rfl rfl hg nd_Spaces_add_37 ?_
        refine lv_if_ne (tgt := 45) hx hb nd_Spaces_add_38 (by decide) (fun hc => ?_) (fun hc => ?_)
        · have hf := mi_if_f hc hf
          refine lv_iload_n hx hb nd_Spaces_add_45 rfl (lv_at hl 1 rfl) ?_
          exact re_i hx hb hr hlocks ((mi_pr hf).1) ((mi_pr hf).2) hP hK hD hS nd_Spaces_add_46
        · have hf := mi_if_t hc hf
          refine lv_iconst (v := (-1)) hx hb nd_Spaces_add_41 (by decide) ?_
          refine lv_goto (tgt := 46) hx hb nd_Spaces_add_42 (by decide) ?_
          exact re_i hx hb hr hlocks ((mi_pr hf).1) ((mi_pr hf).2) hP hK hD hS nd_Spaces_add_46
  have L2 : ∀ (n : Nat) (x1 : Int32) (σ : CS), mc_Spaces_add_l2 n x1 σ = some (v, σ') → bk_ p l e rm_Spaces_add s m ([.ref (q 4)] : List Value).toArray below meth c (MQ below (qi_ (dC, dI) (wd_C q cI cZ) [(cI, .int), (cZ, .boolean)] A v σ') ([.ref (q 4)] : List Value).toArray s 0 0 A) A (dC, dI) (wd_C q cI cZ) 2 2 [(0, .ref (q 4)), (1, .int x1)] [] σ := by
    intro n
    induction n with
    | zero =>
      intro x1 σ hf
      exact mi_no hf
    | succ n ih =>
      intro x1 σ hf
      exact B2 (mc_Spaces_add_l2 n) ih x1 σ hf
  have hH : s.heap = s.heap := rfl
  unfold mc_Spaces_add at hf
  refine lv_iconst (v := 0) hx hb nd_Spaces_add_0 (by decide) ?_
  refine lv_istore_n (lv' := [(1, .int (0 : Int32)), (0, .ref (q 4))]) hx hb nd_Spaces_add_1 rfl hl (by decide) rfl (fun ls hl => ?_)
  exact L2 FU (0 : Int32) σ hf _ _ _ (lv_sub hl [1, 0] rfl) hP hD hS
abbrev rm_F_create : Room := { frames := 7, cells := 0, slots := 0, locals := 110 }
set_option maxHeartbeats 4000000 in
set_option maxRecDepth 100000 in
theorem kw_F_create (l : Launch) (dC : Nat → ClassId) (dI : Nat → Nat → Nat) (q : Nat → Nat) (cI cZ : ClassId) (sz : Nat) (σ : CS) (v : Int32) (σ' : CS) (hf : mc_create σ = some (v, 0, σ')) : Met l ny_F_create nw_F_create rm_F_create (va_Pc [.ref (q 0)] (pr_ (dC, dI) (wd_C q cI cZ) [(cI, .int), (cZ, .boolean)] sz σ)) (qi_ (dC, dI) (wd_C q cI cZ) [(cI, .int), (cZ, .boolean)] (va_A (wd_C q cI cZ σ) sz) v σ') 0 0 (va_A (wd_C q cI cZ σ) sz) := by
  refine Met.ofW (cc := nb_F_create) (maxL := 1) (ret := (some .int)) (by decide) rfl ?_
  intro p e s m args below meth c s₁ B hml hv
  obtain ⟨rfl, hsz, hP, hK, hD0, hN⟩ := hv
  have hx := B.exec
  have hb := B.bytes
  have hr := B.returns
  have hts := atoms_spec (ws := nw_F_create) B.pre
  have hB : ∀ w ∈ BG, w.before ([.ref (q 0)] : List Value).toArray s = true := fun w h => hts w (List.mem_cons_of_mem _ h)
  have hown : s.vm.findClass "MovedFrames" = some m.cls := findClass_of_methodNamed B.named
  have hlocks := B.notSynchronized
  subst hsz
  have hD := hD0.self (sz := s.heap.size)
  generalize hAe : va_A (wd_C q cI cZ σ) s.heap.size = A at hD ⊢
  have hA : ∀ q : Nat, s.heap.size ≤ q → A q := fun q h => by rw [← hAe]; exact Or.inr h
  have hS : va_S A s.heap s.heap [] := va_S.rf
  have hl := lv_entry ([.ref (q 0)]) (n := 1) (Nat.le_of_ble_eq_true rfl)
  rw [lg_entry_eq]
  generalize (lg_sl ([.ref (q 0)]) ++ List.replicate (1 - (lg_sl ([.ref (q 0)])).length) Slot.unset).toArray = ls at hl ⊢
  have hl : lv_has ls 1 [(0, .ref (q 0))] := hl
  have hH : s.heap = s.heap := rfl
  unfold mc_create at hf
  refine lv_aload_n hx hb nd_F_create_0 rfl (lv_at hl 0 rfl) ?_
  refine va_get (D := (dC, dI)) (ci := 5) (v := .ref (q 4)) (C := RX5) (T := TX5) (N := 5) hx hb hB inB5 hown hK hP 0 rfl rfl 3 (by decide) (hB _ lk_116) (fun _ h9 => h9) rfl nd_F_create_1 ?_
  obtain ⟨r2, σ1, hc, hf⟩ := mi_cw_el hf
  refine ca_i (va_runV (C := "MovedFrames$Spaces") (As := []) (rest := []) ⟨hx, hb, hml, hown, hB⟩ (kw_Spaces_add l dC dI q cI cZ _ σ r2 σ1 hc) ⟨callB_of 0 hB (gi_ lk_417) rfl rfl rfl (hB _ lk_5) (hB _ lk_414) (by decide +kernel) ⟨Nat.le_of_ble_eq_true rfl, Nat.le_of_ble_eq_true rfl⟩, hB _ lk_415, hB _ lk_416⟩ ⟨bl_, va_recv (ci := 4) (q0 := 4) hK hP rfl rfl, pre_ hP hK hD hN⟩ rfl rfl hl.1 rfl (lv_room (Nat.le_of_ble_eq_true rfl)) nd_F_create_4 ⟨Nat.zero_le _, Nat.zero_le _⟩) hD hS hA (fun H locs hP hD hS => ?_)
  obtain ⟨r3, n9, hc, hq⟩ := mi_tq_el hf
  rcases hq with ⟨h9, hf⟩ | ⟨h9, hf⟩
  · subst h9
    refine ca_i (va_runS (As := [.int r2]) (rest := []) ⟨hx, hb, hml, hown, hB⟩ (kw_F_orNotEnough l dC dI q cI cZ _ σ1 r2 r3 hc) ⟨callB_of 1 hB (gi_ lk_341) rfl rfl rfl (hB _ lk_1) (hB _ lk_339) (by decide +kernel) ⟨Nat.le_of_ble_eq_true rfl, Nat.le_of_ble_eq_true rfl⟩, hB _ lk_340⟩ ⟨bl_, pre_ hP hK hD hN⟩ rfl rfl hl.1 rfl (lv_room (Nat.le_of_ble_eq_true rfl)) nd_F_create_7 ⟨Nat.zero_le _, Nat.zero_le _⟩) hD hS hA (fun H locs hP hD hS => ?_)
    exact re_i hx hb hr hlocks ((mi_t3 hf).1) ((mi_t3 hf).2.2) hP hK hD hS nd_F_create_10
  · exact absurd (congrArg (fun z => z.2.1) hf).symm h9
abbrev rt_F_create : Room := { frames := 7, cells := 1, slots := 6, locals := 110 }
set_option maxHeartbeats 4000000 in
set_option maxRecDepth 100000 in
theorem kt_F_create (l : Launch) (dC : Nat → ClassId) (dI : Nat → Nat → Nat) (q : Nat → Nat) (cI cZ : ClassId) (sz : Nat) (σ : CS) (v : Int32) (n : Nat) (σ' : CS) (htr : l.stackTraces = false) (hn : ¬ n = 0) (hf : mc_create σ = some (v, n, σ')) : vx_Met l ny_F_create nw_F_create rt_F_create (va_Pc [.ref (q 0)] (prx_ (dC, dI) (wd_C q cI cZ) [(cI, .int), (cZ, .boolean)] sz σ)) (fi_ (dC, dI) (wd_C q cI cZ) [(cI, .int), (cZ, .boolean)] (va_A (wd_C q cI cZ σ) sz)) (xx_ (dC, dI) (wd_C q cI cZ) [(cI, .int), (cZ, .boolean)] (va_A (wd_C q cI cZ σ) sz) n σ') 1 6 (va_A (wd_C q cI cZ σ) sz) := by
  refine vx_ofW (cc := nb_F_create) (maxL := 1) (ret := (some .int)) (by decide) rfl ?_
  intro p e s m args below meth c s₁ B hml hno hv
  obtain ⟨rfl, ⟨hsz, hP, hK, hD0, hN⟩, hT, hZ⟩ := hv
  have hx := B.exec
  have hb := B.bytes
  have hr := B.returns
  have hts := atoms_spec (ws := nw_F_create) B.pre
  have hB : ∀ w ∈ BG, w.before ([.ref (q 0)] : List Value).toArray s = true := fun w h => hts w (List.mem_cons_of_mem _ h)
  have hown : s.vm.findClass "MovedFrames" = some m.cls := findClass_of_methodNamed B.named
  have hlocks := B.notSynchronized
  subst hsz
  have hD := hD0.self (sz := s.heap.size)
  generalize hAe : va_A (wd_C q cI cZ σ) s.heap.size = A at hD hZ ⊢
  have hA : ∀ q : Nat, s.heap.size ≤ q → A q := fun q h => by rw [← hAe]; exact Or.inr h
  have hS : va_S A s.heap s.heap [] := va_S.rf
  have hl := lv_entry ([.ref (q 0)]) (n := 1) (Nat.le_of_ble_eq_true rfl)
  rw [lg_entry_eq]
  generalize (lg_sl ([.ref (q 0)]) ++ List.replicate (1 - (lg_sl ([.ref (q 0)])).length) Slot.unset).toArray = ls at hl ⊢
  have hl : lv_has ls 1 [(0, .ref (q 0))] := hl
  have hH : s.heap = s.heap := rfl
  unfold mc_create at hf
  refine lv_aload_n hx hb nd_F_create_0 rfl (lv_at hl 0 rfl) ?_
  refine va_get (D := (dC, dI)) (ci := 5) (v := .ref (q 4)) (C := RX5) (T := TX5) (N := 5) hx hb hB inB5 hown hK hP 0 rfl rfl 3 (by decide) (hB _ lk_116) (fun _ h9 => h9) rfl nd_F_create_1 ?_
  obtain ⟨r2, σ1, hc, hf⟩ := mi_cw_el hf
  refine ca_i (va_runV (C := "MovedFrames$Spaces") (As := []) (rest := []) ⟨hx, hb, hml, hown, hB⟩ (kw_Spaces_add l dC dI q cI cZ _ σ r2 σ1 hc) ⟨callB_of 0 hB (gi_ lk_417) rfl rfl rfl (hB _ lk_5) (hB _ lk_414) (by decide +kernel) ⟨Nat.le_of_ble_eq_true rfl, Nat.le_of_ble_eq_true rfl⟩, hB _ lk_415, hB _ lk_416⟩ ⟨bl_, va_recv (ci := 4) (q0 := 4) hK hP rfl rfl, pre_ hP hK hD hN⟩ rfl rfl hl.1 rfl (lv_room (Nat.le_of_ble_eq_true rfl)) nd_F_create_4 ⟨Nat.zero_le _, Nat.zero_le _⟩) hD hS hA (fun H locs hP hD hS => ?_)
  obtain ⟨r3, n9, hc, hq⟩ := mi_tq_el hf
  rcases hq with ⟨h9, hf⟩ | ⟨h9, hf⟩
  · subst h9
    refine ca_i (va_runS (As := [.int r2]) (rest := []) ⟨hx, hb, hml, hown, hB⟩ (kw_F_orNotEnough l dC dI q cI cZ _ σ1 r2 r3 hc) ⟨callB_of 1 hB (gi_ lk_341) rfl rfl rfl (hB _ lk_1) (hB _ lk_339) (by decide +kernel) ⟨Nat.le_of_ble_eq_true rfl, Nat.le_of_ble_eq_true rfl⟩, hB _ lk_340⟩ ⟨bl_, pre_ hP hK hD hN⟩ rfl rfl hl.1 rfl (lv_room (Nat.le_of_ble_eq_true rfl)) nd_F_create_7 ⟨Nat.zero_le _, Nat.zero_le _⟩) hD hS hA (fun H locs hP hD hS => ?_)
    exact absurd (mi_t3 hf).2.1.symm hn
  · obtain ⟨-, hm, hs9⟩ := mi_t3 (congrArg some hf)
    have hm := hm.symm
    subst hm
    have hs9 := hs9.symm
    subst hs9
    exact cx_i (vx_runS (As := [.int r2]) (rest := []) ⟨hx, hb, hml, hown, hB⟩ (kt_F_orNotEnough l dC dI q cI cZ _ σ1 r2 r3 n9 htr h9 hc) ⟨callB_of 1 hB (gi_ lk_341) rfl rfl rfl (hB _ lk_1) (hB _ lk_339) (by decide +kernel) ⟨Nat.le_of_ble_eq_true rfl, Nat.le_of_ble_eq_true rfl⟩, hB _ lk_340⟩ ⟨blx_, prex_ hP hK hD hN hT hZ hS hA⟩ rfl rfl hl.1 rfl (lv_room (Nat.le_of_ble_eq_true rfl)) nd_F_create_7 ⟨Nat.le_of_ble_eq_true rfl, Nat.le_of_ble_eq_true rfl⟩) hno hlocks hK hD hS hA
abbrev rm_Spaces_isThere : Room := { frames := 0, cells := 0, slots := 0, locals := 0 }
set_option maxHeartbeats 4000000 in
set_option maxRecDepth 100000 in
theorem kw_Spaces_isThere (l : Launch) (dC : Nat → ClassId) (dI : Nat → Nat → Nat) (q : Nat → Nat) (cI cZ : ClassId) (sz : Nat) (σ : CS) (z1 : Int32) (v : Int32) (hf : mc_Spaces_isThere σ z1 = some v) : Met l ny_Spaces_isThere nw_Spaces_isThere rm_Spaces_isThere (va_Pc [.ref (q 4), .int z1] (pr_ (dC, dI) (wd_C q cI cZ) [(cI, .int), (cZ, .boolean)] sz σ)) (qi_ (dC, dI) (wd_C q cI cZ) [(cI, .int), (cZ, .boolean)] (va_A (wd_C q cI cZ σ) sz) v σ) 0 0 (va_A (wd_C q cI cZ σ) sz) := by
  refine Met.ofW (cc := nb_Spaces_isThere) (maxL := 2) (ret := (some .boolean)) (by decide) rfl ?_
  intro p e s m args below meth c s₁ B hml hv
  obtain ⟨rfl, hsz, hP, hK, hD0, hN⟩ := hv
  have hx := B.exec
  have hb := B.bytes
  have hr := B.returns
  have hts := atoms_spec (ws := nw_Spaces_isThere) B.pre
  have hB : ∀ w ∈ BG, w.before ([.ref (q 4), .int z1] : List Value).toArray s = true := fun w h => hts w (List.mem_cons_of_mem _ h)
  have hown : s.vm.findClass "MovedFrames$Spaces" = some m.cls := findClass_of_methodNamed B.named
  have hlocks := B.notSynchronized
  subst hsz
  have hD := hD0.self (sz := s.heap.size)
  generalize hAe : va_A (wd_C q cI cZ σ) s.heap.size = A at hD ⊢
  have hA : ∀ q : Nat, s.heap.size ≤ q → A q := fun q h => by rw [← hAe]; exact Or.inr h
  have hS : va_S A s.heap s.heap [] := va_S.rf
  have hl := lv_entry ([.ref (q 4), .int z1]) (n := 2) (Nat.le_of_ble_eq_true rfl)
  rw [lg_entry_eq]
  generalize (lg_sl ([.ref (q 4), .int z1]) ++ List.replicate (2 - (lg_sl ([.ref (q 4), .int z1])).length) Slot.unset).toArray = ls at hl ⊢
  have hl : lv_has ls 2 [(0, .ref (q 4)), (1, .int z1)] := hl
  have hH : s.heap = s.heap := rfl
  unfold mc_Spaces_isThere at hf
  refine lv_iload_n hx hb nd_Spaces_isThere_0 rfl (lv_at hl 1 rfl) ?_
  refine lv_if_lt (tgt := 22) hx hb nd_Spaces_isThere_1 (by decide) (fun hc => ?_) (fun hc => ?_)
  · have hf := mi_if_t hc hf
    refine lv_iconst (v := 0) hx hb nd_Spaces_isThere_22 (by decide) ?_
    exact re_z hx hb hr hlocks (Or.inl rfl) (mi_eq hf) (rfl) hP hK hD hS nd_Spaces_isThere_23
  · have hf := mi_if_f hc hf
    refine lv_iload_n hx hb nd_Spaces_isThere_4 rfl (lv_at hl 1 rfl) ?_
    refine lv_iconst (v := 4) hx hb nd_Spaces_isThere_5 (by decide) ?_
    refine lv_icmp_ge (tgt := 22) hx hb nd_Spaces_isThere_6 (by decide) (fun hc => ?_) (fun hc => ?_)
    · have hf := mi_if_t hc hf
      refine lv_iconst (v := 0) hx hb nd_Spaces_isThere_22 (by decide) ?_
      exact re_z hx hb hr hlocks (Or.inl rfl) (mi_eq hf) (rfl) hP hK hD hS nd_Spaces_isThere_23
    · have hf := mi_if_f hc hf
      refine lv_aload_n hx hb nd_Spaces_isThere_9 rfl (lv_at hl 0 rfl) ?_
      refine va_get (D := (dC, dI)) (ci := 4) (v := .ref (q 12)) (C := RX4) (T := TX4) (N := 4) hx hb hB inB4 hown hK hP 4 rfl rfl 1 (by decide) (hB _ lk_81) (fun _ h9 => h9) rfl nd_Spaces_isThere_10 ?_
      refine lv_iload_n hx hb nd_Spaces_isThere_13 rfl (lv_at hl 1 rfl) ?_
      obtain ⟨hg, hf⟩ := mi_gd_el hf
      refine va_iald hx hb hK hP 12 0 rfl rfl hg nd_Spaces_isThere_14 ?_
      refine lv_if_eq (tgt := 22) hx hb nd_Spaces_isThere_15 (by decide) (fun hc => ?_) (fun hc => ?_)
      · have hf := mi_if_t hc hf
        refine lv_iconst (v := 0) hx hb nd_Spaces_isThere_22 (by decide) ?_
        exact re_z hx hb hr hlocks (Or.inl rfl) (mi_eq hf) (rfl) hP hK hD hS nd_Spaces_isThere_23
      · have hf := mi_if_f hc hf
        refine lv_iconst (v := 1) hx hb nd_Spaces_isThere_18 (by decide) ?_
        refine lv_goto (tgt := 23) hx hb nd_Spaces_isThere_19 (by decide) ?_
        exact re_z hx hb hr hlocks (Or.inr rfl) (mi_eq hf) (rfl) hP hK hD hS nd_Spaces_isThere_23
abbrev rm_Frames_read : Room := { frames := 0, cells := 0, slots := 0, locals := 0 }
set_option maxHeartbeats 4000000 in
set_option maxRecDepth 100000 in
theorem kw_Frames_read (l : Launch) (dC : Nat → ClassId) (dI : Nat → Nat → Nat) (q : Nat → Nat) (cI cZ : ClassId) (sz : Nat) (σ : CS) (z1 : Int32) (v : Int32) (hf : mc_Frames_read σ z1 = some v) : Met l ny_Frames_read nw_Frames_read rm_Frames_read (va_Pc [.ref (q 1), .int z1] (pr_ (dC, dI) (wd_C q cI cZ) [(cI, .int), (cZ, .boolean)] sz σ)) (qi_ (dC, dI) (wd_C q cI cZ) [(cI, .int), (cZ, .boolean)] (va_A (wd_C q cI cZ σ) sz) v σ) 0 0 (va_A (wd_C q cI cZ σ) sz) := by
  refine Met.ofW (cc := nb_Frames_read) (maxL := 2) (ret := (some .int)) (by decide) rfl ?_
  intro p e s m args below meth c s₁ B hml hv
  obtain ⟨rfl, hsz, hP, hK, hD0, hN⟩ := hv
  have hx := B.exec
  have hb := B.bytes
  have hr := B.returns
  have hts := atoms_spec (ws := nw_Frames_read) B.pre
  have hB : ∀ w ∈ BG, w.before ([.ref (q 1), .int z1] : List Value).toArray s = true := fun w h => hts w (List.mem_cons_of_mem _ h)
  have hown : s.vm.findClass "MovedFrames$Frames" = some m.cls := findClass_of_methodNamed B.named
  have hlocks := B.notSynchronized
  subst hsz
  have hD := hD0.self (sz := s.heap.size)
  generalize hAe : va_A (wd_C q cI cZ σ) s.heap.size = A at hD ⊢
  have hA : ∀ q : Nat, s.heap.size ≤ q → A q := fun q h => by rw [← hAe]; exact Or.inr h
  have hS : va_S A s.heap s.heap [] := va_S.rf
  have hl := lv_entry ([.ref (q 1), .int z1]) (n := 2) (Nat.le_of_ble_eq_true rfl)
  rw [lg_entry_eq]
  generalize (lg_sl ([.ref (q 1), .int z1]) ++ List.replicate (2 - (lg_sl ([.ref (q 1), .int z1])).length) Slot.unset).toArray = ls at hl ⊢
  have hl : lv_has ls 2 [(0, .ref (q 1)), (1, .int z1)] := hl
  have hH : s.heap = s.heap := rfl
  unfold mc_Frames_read at hf
  refine lv_iload_n hx hb nd_Frames_read_0 rfl (lv_at hl 1 rfl) ?_
  refine lv_if_lt (tgt := 22) hx hb nd_Frames_read_1 (by decide) (fun hc => ?_) (fun hc => ?_)
  · have hf := mi_if_t hc hf
    refine lv_iconst (v := 0) hx hb nd_Frames_read_22 (by decide) ?_
    exact re_i hx hb hr hlocks (mi_eq hf) (rfl) hP hK hD hS nd_Frames_read_23
  · have hf := mi_if_f hc hf
    refine lv_iload_n hx hb nd_Frames_read_4 rfl (lv_at hl 1 rfl) ?_
    refine lv_aload_n hx hb nd_Frames_read_5 rfl (lv_at hl 0 rfl) ?_
    refine va_get (D := (dC, dI)) (ci := 0) (v := .ref (q 7)) (C := RX0) (T := TX0) (N := 3) hx hb hB inB0 hown hK hP 1 rfl rfl 1 (by decide) (hB _ lk_32) (fun _ h9 => h9) rfl nd_Frames_read_6 ?_
    refine va_alen (v := 1024) hx hb hK hP 7 0 rfl rfl rfl nd_Frames_read_9 ?_
    refine lv_icmp_ge (tgt := 22) hx hb nd_Frames_read_10 (by decide) (fun hc => ?_) (fun hc => ?_)
    · have hf := mi_if_t hc hf
      refine lv_iconst (v := 0) hx hb nd_Frames_read_22 (by decide) ?_
      exact re_i hx hb hr hlocks (mi_eq hf) (rfl) hP hK hD hS nd_Frames_read_23
    · have hf := mi_if_f hc hf
      refine lv_aload_n hx hb nd_Frames_read_13 rfl (lv_at hl 0 rfl) ?_
      refine va_get (D := (dC, dI)) (ci := 0) (v := .ref (q 7)) (C := RX0) (T := TX0) (N := 3) hx hb hB inB0 hown hK hP 1 rfl rfl 1 (by decide) (hB _ lk_32) (fun _ h9 => h9) rfl nd_Frames_read_14 ?_
      refine lv_iload_n hx hb nd_Frames_read_17 rfl (lv_at hl 1 rfl) ?_
      obtain ⟨hg, hf⟩ := mi_gd_el hf
      refine va_iald hx hb hK hP 7 0 rfl rfl hg nd_Frames_read_18 ?_
      refine lv_goto (tgt := 23) hx hb nd_Frames_read_19 (by decide) ?_
      exact re_i hx hb hr hlocks (mi_eq hf) (rfl) hP hK hD hS nd_Frames_read_23
abbrev rm_Spaces_removeTable : Room := { frames := 2, cells := 0, slots := 0, locals := 41 }
set_option maxHeartbeats 4000000 in
set_option maxRecDepth 100000 in
theorem kw_Spaces_removeTable (l : Launch) (dC : Nat → ClassId) (dI : Nat → Nat → Nat) (q : Nat → Nat) (cI cZ : ClassId) (sz : Nat) (σ : CS) (z1 : Int32) (v : Int32) (σ' : CS) (hf : mc_Spaces_removeTable σ z1 = some (v, σ')) : Met l ny_Spaces_removeTable nw_Spaces_removeTable rm_Spaces_removeTable (va_Pc [.ref (q 4), .int z1] (pr_ (dC, dI) (wd_C q cI cZ) [(cI, .int), (cZ, .boolean)] sz σ)) (qi_ (dC, dI) (wd_C q cI cZ) [(cI, .int), (cZ, .boolean)] (va_A (wd_C q cI cZ σ) sz) v σ') 0 0 (va_A (wd_C q cI cZ σ) sz) := by
  refine Met.ofW (cc := nb_Spaces_removeTable) (maxL := 5) (ret := (some .int)) (by decide) rfl ?_
  intro p e s m args below meth c s₁ B hml hv
  obtain ⟨rfl, hsz, hP, hK, hD0, hN⟩ := hv
  have hx := B.exec
  have hb := B.bytes
  have hr := B.returns
  have hts := atoms_spec (ws := nw_Spaces_removeTable) B.pre
  have hB : ∀ w ∈ BG, w.before ([.ref (q 4), .int z1] : List Value).toArray s = true := fun w h => hts w (List.mem_cons_of_mem _ h)
  have hown : s.vm.findClass "MovedFrames$Spaces" = some m.cls := findClass_of_methodNamed B.named
  have hlocks := B.notSynchronized
  subst hsz
  have hD := hD0.self (sz := s.heap.size)
  generalize hAe : va_A (wd_C q cI cZ σ) s.heap.size = A at hD ⊢
  have hA : ∀ q : Nat, s.heap.size ≤ q → A q := fun q h => by rw [← hAe]; exact Or.inr h
  have hS : va_S A s.heap s.heap [] := va_S.rf
  have hl := lv_entry ([.ref (q 4), .int z1]) (n := 5) (Nat.le_of_ble_eq_true rfl)
  rw [lg_entry_eq]
  generalize (lg_sl ([.ref (q 4), .int z1]) ++ List.replicate (5 - (lg_sl ([.ref (q 4), .int z1])).length) Slot.unset).toArray = ls at hl ⊢
  have hl : lv_has ls 5 [(0, .ref (q 4)), (1, .int z1)] := hl
  have B50 : ∀ (x1 : Int32) (x2 : Int32) (σ : CS), mc_Spaces_removeTable_b50 x1 x2 σ = some (v, σ') → bk_ p l e rm_Spaces_removeTable s m ([.ref (q 4), .int z1] : List Value).toArray below meth c (MQ below (qi_ (dC, dI) (wd_C q cI cZ) [(cI, .int), (cZ, .boolean)] A v σ') ([.ref (q 4), .int z1] : List Value).toArray s 0 0 A) A (dC, dI) (wd_C q cI cZ) 5 50 [(0, .ref (q 4)), (1, .int x1), (2, .int x2)] [] σ := by
    intro x1 x2 σ hf ls H locs hl hP hD hS
    unfold mc_Spaces_removeTable_b50 at hf
    refine lv_aload_n hx hb nd_Spaces_removeTable_50 rfl (lv_at hl 0 rfl) ?_
    refine va_get (D := (dC, dI)) (ci := 4) (v := .ref (q 1)) (C := RX4) (T := TX4) (N := 4) hx hb hB inB4 hown hK hP 4 rfl rfl 0 (by decide) (hB _ lk_80) (fun _ h9 => h9) rfl nd_Spaces_removeTable_51 ?_
    refine lv_iload_n hx hb nd_Spaces_removeTable_54 rfl (lv_at hl 1 rfl) ?_
    obtain ⟨σ1, hc, hf⟩ := mi_cv_el hf
    refine ca_v (va_runV (C := "MovedFrames$Frames") (As := [.int x1]) (rest := []) ⟨hx, hb, hml, hown, hB⟩ (kw_Frames_makeFree l dC dI q cI cZ _ σ x1 σ1 hc) ⟨callB_of 1 hB (gi_ lk_372) rfl rfl rfl (hB _ lk_2) (hB _ lk_438) (by decide +kernel) ⟨Nat.le_of_ble_eq_true rfl, Nat.le_of_ble_eq_true rfl⟩, hB _ lk_370, hB _ lk_371⟩ ⟨bl_, va_recv (ci := 0) (q0 := 1) hK hP rfl rfl, pre_ hP hK hD hN⟩ rfl rfl hl.1 rfl (lv_room (Nat.le_of_ble_eq_true rfl)) nd_Spaces_removeTable_55 ⟨Nat.zero_le _, Nat.zero_le _⟩) hD hS hA (fun H locs hP hD hS => ?_)
    refine lv_iload_n hx hb nd_Spaces_removeTable_58 rfl (lv_at hl 2 rfl) ?_
    exact re_i hx hb hr hlocks ((mi_pr hf).1) ((mi_pr hf).2) hP hK hD hS nd_Spaces_removeTable_59
  have B4 : ∀ (k4 : Int32 → Int32 → Int32 → CS → Option (Int32 × CS)) (hk4 : ∀ (x1 : Int32) (x2 : Int32) (x3 : Int32) (σ : CS), k4 x1 x2 x3 σ = some (v, σ') → bk_ p l e rm_Spaces_removeTable s m ([.ref (q 4), .int z1] : List Value).toArray below meth c (MQ below (qi_ (dC, dI) (wd_C q cI cZ) [(cI, .int), (cZ, .boolean)] A v σ') ([.ref (q 4), .int z1] : List Value).toArray s 0 0 A) A (dC, dI) (wd_C q cI cZ) 5 4 [(0, .ref (q 4)), (1, .int x1), (2, .int x2), (3, .int x3)] [] σ) (x1 : Int32) (x2 : Int32) (x3 : Int32) (σ : CS), mc_Spaces_removeTable_b4 k4 x1 x2 x3 σ = some (v, σ') → bk_ p l e rm_Spaces_removeTable s m ([.ref (q 4), .int z1] : List Value).toArray below meth c (MQ below (qi_ (dC, dI) (wd_C q cI cZ) [(cI, .int), (cZ, .boolean)] A v σ') ([.ref (q 4), .int z1] : List Value).toArray s 0 0 A) A (dC, dI) (wd_C q cI cZ) 5 4 [(0, .ref (q 4)), (1, .int x1), (2, .int x2), (3, .int x3)] [] σ := by
    intro k4 hk4 x1 x2 x3 σ hf ls H locs hl hP hD hS
    unfold mc_Spaces_removeTable_b4 at hf
    refine lv_iload_n hx hb nd_Spaces_removeTable_4 rfl (lv_at hl 3 rfl) ?_
    refine lv_bipush (v := 16) hx hb nd_Spaces_removeTable_5 (by decide) ?_
    refine lv_icmp_ge (tgt := 50) hx hb nd_Spaces_removeTable_7 (by decide) (fun hc => ?_) (fun hc => ?_)
    · have hf := mi_if_t hc hf
      exact B50 x1 x2 σ hf _ _ _ (lv_sub hl [0, 1, 2] rfl) hP hD hS
    · have hf := mi_if_f hc hf
      refine lv_aload_n hx hb nd_Spaces_removeTable_10 rfl (lv_at hl 0 rfl) ?_
      refine va_get (D := (dC, dI)) (ci := 4) (v := .ref (q 1)) (C := RX4) (T := TX4) (N := 4) hx hb hB inB4 hown hK hP 4 rfl rfl 0 (by decide) (hB _ lk_80) (fun _ h9 => h9) rfl nd_Spaces_removeTable_11 ?_
      refine lv_iload_n hx hb nd_Spaces_removeTable_14 rfl (lv_at hl 1 rfl) ?_
      refine lv_bipush (v := 16) hx hb nd_Spaces_removeTable_15 (by decide) ?_
      refine lv_imul hx hb nd_Spaces_removeTable_17 ?_
      refine lv_iload_n hx hb nd_Spaces_removeTable_18 rfl (lv_at hl 3 rfl) ?_
      refine lv_iadd hx hb nd_Spaces_removeTable_19 ?_
      obtain ⟨r2, hc, hf⟩ := mi_cp_el hf
      refine ca_i (va_runV (C := "MovedFrames$Frames") (As := [.int ((x1 * (16 : Int32)) + x3)]) (rest := []) ⟨hx, hb, hml, hown, hB⟩ (kw_Frames_read l dC dI q cI cZ _ σ ((x1 * (16 : Int32)) + x3) r2 hc) ⟨callB_of 1 hB (gi_ lk_170) rfl rfl rfl (hB _ lk_2) (hB _ lk_167) (by decide +kernel) ⟨Nat.le_of_ble_eq_true rfl, Nat.le_of_ble_eq_true rfl⟩, hB _ lk_168, hB _ lk_169⟩ ⟨bl_, va_recv (ci := 0) (q0 := 1) hK hP rfl rfl, pre_ hP hK hD hN⟩ rfl rfl hl.1 rfl (lv_room (Nat.le_of_ble_eq_true rfl)) nd_Spaces_removeTable_20 ⟨Nat.zero_le _, Nat.zero_le _⟩) hD hS hA (fun H locs hP hD hS => ?_)
      refine lv_istore (lv' := [(4, .int r2), (0, .ref (q 4)), (1, .int x1), (2, .int x2), (3, .int x3)]) hx hb nd_Spaces_removeTable_23 hl (by decide) rfl (fun ls hl => ?_)
      refine lv_iload hx hb nd_Spaces_removeTable_25 (lv_at hl 0 rfl) ?_
      refine lv_if_eq (tgt := 44) hx hb nd_Spaces_removeTable_27 (by decide) (fun hc => ?_) (fun hc => ?_)
      · have hf := mi_if_t hc hf
        refine lv_iinc (k := 4) (v := x3 + (1 : Int32)) (lv' := [(3, .int (x3 + (1 : Int32))), (4, .int r2), (0, .ref (q 4)), (1, .int x1), (2, .int x2)]) hx hb nd_Spaces_removeTable_44 hl rfl (congrArg (fun z => x3 + z) (by decide : Int32.ofInt 1 = (1 : Int32))) (by decide) rfl (fun ls hl => ?_)
        refine lv_goto (tgt := 4) hx hb nd_Spaces_removeTable_47 (by decide) ?_
        exact hk4 x1 x2 (x3 + (1 : Int32)) σ hf _ _ _ (lv_sub hl [2, 3, 4, 0] rfl) hP hD hS
      · have hf := mi_if_f hc hf
        refine lv_aload_n hx hb nd_Spaces_removeTable_30 rfl (lv_at hl 1 rfl) ?_
        refine va_get (D := (dC, dI)) (ci := 4) (v := .ref (q 1)) (C := RX4) (T := TX4) (N := 4) hx hb hB inB4 hown hK hP 4 rfl rfl 0 (by decide) (hB _ lk_80) (fun _ h9 => h9) rfl nd_Spaces_removeTable_31 ?_
        refine lv_iload hx hb nd_Spaces_removeTable_34 (lv_at hl 0 rfl) ?_
        refine lv_iconst (v := 1) hx hb nd_Spaces_removeTable_36 (by decide) ?_
        refine lv_isub hx hb nd_Spaces_removeTable_37 ?_
        obtain ⟨σ3, hc, hf⟩ := mi_cv_el hf
        refine ca_v (va_runV (C := "MovedFrames$Frames") (As := [.int (r2 - (1 : Int32))]) (rest := []) ⟨hx, hb, hml, hown, hB⟩ (kw_Frames_makeFree l dC dI q cI cZ _ σ (r2 - (1 : Int32)) σ3 hc) ⟨callB_of 1 hB (gi_ lk_372) rfl rfl rfl (hB _ lk_2) (hB _ lk_438) (by decide +kernel) ⟨Nat.le_of_ble_eq_true rfl, Nat.le_of_ble_eq_true rfl⟩, hB _ lk_370, hB _ lk_371⟩ ⟨bl_, va_recv (ci := 0) (q0 := 1) hK hP rfl rfl, pre_ hP hK hD hN⟩ rfl rfl hl.1 rfl (lv_room (Nat.le_of_ble_eq_true rfl)) nd_Spaces_removeTable_38 ⟨Nat.zero_le _, Nat.zero_le _⟩) hD hS hA (fun H locs hP hD hS => ?_)
        refine lv_iinc (k := 3) (v := x2 + (1 : Int32)) (lv' := [(2, .int (x2 + (1 : Int32))), (4, .int r2), (0, .ref (q 4)), (1, .int x1), (3, .int x3)]) hx hb nd_Spaces_removeTable_41 hl rfl (congrArg (fun z => x2 + z) (by decide : Int32.ofInt 1 = (1 : Int32))) (by decide) rfl (fun ls hl => ?_)
        refine lv_iinc (k := 4) (v := x3 + (1 : Int32)) (lv' := [(3, .int (x3 + (1 : Int32))), (2, .int (x2 + (1 : Int32))), (4, .int r2), (0, .ref (q 4)), (1, .int x1)]) hx hb nd_Spaces_removeTable_44 hl rfl (congrArg (fun z => x3 + z) (by decide : Int32.ofInt 1 = (1 : Int32))) (by decide) rfl (fun ls hl => ?_)
        refine lv_goto (tgt := 4) hx hb nd_Spaces_removeTable_47 (by decide) ?_
        exact hk4 x1 (x2 + (1 : Int32)) (x3 + (1 : Int32)) σ3 hf _ _ _ (lv_sub hl [3, 4, 1, 0] rfl) hP hD hS
  have L4 : ∀ (n : Nat) (x1 : Int32) (x2 : Int32) (x3 : Int32) (σ : CS), mc_Spaces_removeTable_l4 n x1 x2 x3 σ = some (v, σ') → bk_ p l e rm_Spaces_removeTable s m ([.ref (q 4), .int z1] : List Value).toArray below meth c (MQ below (qi_ (dC, dI) (wd_C q cI cZ) [(cI, .int), (cZ, .boolean)] A v σ') ([.ref (q 4), .int z1] : List Value).toArray s 0 0 A) A (dC, dI) (wd_C q cI cZ) 5 4 [(0, .ref (q 4)), (1, .int x1), (2, .int x2), (3, .int x3)] [] σ := by
    intro n
    induction n with
    | zero =>
      intro x1 x2 x3 σ hf
      exact mi_no hf
    | succ n ih =>
      intro x1 x2 x3 σ hf
      exact B4 (mc_Spaces_removeTable_l4 n) ih x1 x2 x3 σ hf
  have hH : s.heap = s.heap := rfl
  unfold mc_Spaces_removeTable at hf
  refine lv_iconst (v := 1) hx hb nd_Spaces_removeTable_0 (by decide) ?_
  refine lv_istore_n (lv' := [(2, .int (1 : Int32)), (0, .ref (q 4)), (1, .int z1)]) hx hb nd_Spaces_removeTable_1 rfl hl (by decide) rfl (fun ls hl => ?_)
  refine lv_iconst (v := 0) hx hb nd_Spaces_removeTable_2 (by decide) ?_
  refine lv_istore_n (lv' := [(3, .int (0 : Int32)), (2, .int (1 : Int32)), (0, .ref (q 4)), (1, .int z1)]) hx hb nd_Spaces_removeTable_3 rfl hl (by decide) rfl (fun ls hl => ?_)
  exact L4 FU z1 (1 : Int32) (0 : Int32) σ hf _ _ _ (lv_sub hl [2, 3, 1, 0] rfl) hP hD hS
abbrev rm_Spaces_removeTree : Room := { frames := 3, cells := 0, slots := 0, locals := 65 }
set_option maxHeartbeats 4000000 in
set_option maxRecDepth 100000 in
theorem kw_Spaces_removeTree (l : Launch) (dC : Nat → ClassId) (dI : Nat → Nat → Nat) (q : Nat → Nat) (cI cZ : ClassId) (sz : Nat) (σ : CS) (z1 : Int32) (v : Int32) (σ' : CS) (hf : mc_Spaces_removeTree σ z1 = some (v, σ')) : Met l ny_Spaces_removeTree nw_Spaces_removeTree rm_Spaces_removeTree (va_Pc [.ref (q 4), .int z1] (pr_ (dC, dI) (wd_C q cI cZ) [(cI, .int), (cZ, .boolean)] sz σ)) (qi_ (dC, dI) (wd_C q cI cZ) [(cI, .int), (cZ, .boolean)] (va_A (wd_C q cI cZ σ) sz) v σ') 0 0 (va_A (wd_C q cI cZ σ) sz) := by
  refine Met.ofW (cc := nb_Spaces_removeTree) (maxL := 5) (ret := (some .int)) (by decide) rfl ?_
  intro p e s m args below meth c s₁ B hml hv
  obtain ⟨rfl, hsz, hP, hK, hD0, hN⟩ := hv
  have hx := B.exec
  have hb := B.bytes
  have hr := B.returns
  have hts := atoms_spec (ws := nw_Spaces_removeTree) B.pre
  have hB : ∀ w ∈ BG, w.before ([.ref (q 4), .int z1] : List Value).toArray s = true := fun w h => hts w (List.mem_cons_of_mem _ h)
  have hown : s.vm.findClass "MovedFrames$Spaces" = some m.cls := findClass_of_methodNamed B.named
  have hlocks := B.notSynchronized
  subst hsz
  have hD := hD0.self (sz := s.heap.size)
  generalize hAe : va_A (wd_C q cI cZ σ) s.heap.size = A at hD ⊢
  have hA : ∀ q : Nat, s.heap.size ≤ q → A q := fun q h => by rw [← hAe]; exact Or.inr h
  have hS : va_S A s.heap s.heap [] := va_S.rf
  have hl := lv_entry ([.ref (q 4), .int z1]) (n := 5) (Nat.le_of_ble_eq_true rfl)
  rw [lg_entry_eq]
  generalize (lg_sl ([.ref (q 4), .int z1]) ++ List.replicate (5 - (lg_sl ([.ref (q 4), .int z1])).length) Slot.unset).toArray = ls at hl ⊢
  have hl : lv_has ls 5 [(0, .ref (q 4)), (1, .int z1)] := hl
  have B47 : ∀ (x1 : Int32) (x2 : Int32) (σ : CS), mc_Spaces_removeTree_b47 x1 x2 σ = some (v, σ') → bk_ p l e rm_Spaces_removeTree s m ([.ref (q 4), .int z1] : List Value).toArray below meth c (MQ below (qi_ (dC, dI) (wd_C q cI cZ) [(cI, .int), (cZ, .boolean)] A v σ') ([.ref (q 4), .int z1] : List Value).toArray s 0 0 A) A (dC, dI) (wd_C q cI cZ) 5 47 [(0, .ref (q 4)), (1, .int x1), (2, .int x2)] [] σ := by
    intro x1 x2 σ hf ls H locs hl hP hD hS
    unfold mc_Spaces_removeTree_b47 at hf
    refine lv_aload_n hx hb nd_Spaces_removeTree_47 rfl (lv_at hl 0 rfl) ?_
    refine va_get (D := (dC, dI)) (ci := 4) (v := .ref (q 1)) (C := RX4) (T := TX4) (N := 4) hx hb hB inB4 hown hK hP 4 rfl rfl 0 (by decide) (hB _ lk_80) (fun _ h9 => h9) rfl nd_Spaces_removeTree_48 ?_
    refine lv_iload_n hx hb nd_Spaces_removeTree_51 rfl (lv_at hl 1 rfl) ?_
    obtain ⟨σ1, hc, hf⟩ := mi_cv_el hf
    refine ca_v (va_runV (C := "MovedFrames$Frames") (As := [.int x1]) (rest := []) ⟨hx, hb, hml, hown, hB⟩ (kw_Frames_makeFree l dC dI q cI cZ _ σ x1 σ1 hc) ⟨callB_of 1 hB (gi_ lk_372) rfl rfl rfl (hB _ lk_2) (hB _ lk_438) (by decide +kernel) ⟨Nat.le_of_ble_eq_true rfl, Nat.le_of_ble_eq_true rfl⟩, hB _ lk_370, hB _ lk_371⟩ ⟨bl_, va_recv (ci := 0) (q0 := 1) hK hP rfl rfl, pre_ hP hK hD hN⟩ rfl rfl hl.1 rfl (lv_room (Nat.le_of_ble_eq_true rfl)) nd_Spaces_removeTree_52 ⟨Nat.zero_le _, Nat.zero_le _⟩) hD hS hA (fun H locs hP hD hS => ?_)
    refine lv_iload_n hx hb nd_Spaces_removeTree_55 rfl (lv_at hl 2 rfl) ?_
    exact re_i hx hb hr hlocks ((mi_pr hf).1) ((mi_pr hf).2) hP hK hD hS nd_Spaces_removeTree_56
  have B4 : ∀ (k4 : Int32 → Int32 → Int32 → CS → Option (Int32 × CS)) (hk4 : ∀ (x1 : Int32) (x2 : Int32) (x3 : Int32) (σ : CS), k4 x1 x2 x3 σ = some (v, σ') → bk_ p l e rm_Spaces_removeTree s m ([.ref (q 4), .int z1] : List Value).toArray below meth c (MQ below (qi_ (dC, dI) (wd_C q cI cZ) [(cI, .int), (cZ, .boolean)] A v σ') ([.ref (q 4), .int z1] : List Value).toArray s 0 0 A) A (dC, dI) (wd_C q cI cZ) 5 4 [(0, .ref (q 4)), (1, .int x1), (2, .int x2), (3, .int x3)] [] σ) (x1 : Int32) (x2 : Int32) (x3 : Int32) (σ : CS), mc_Spaces_removeTree_b4 k4 x1 x2 x3 σ = some (v, σ') → bk_ p l e rm_Spaces_removeTree s m ([.ref (q 4), .int z1] : List Value).toArray below meth c (MQ below (qi_ (dC, dI) (wd_C q cI cZ) [(cI, .int), (cZ, .boolean)] A v σ') ([.ref (q 4), .int z1] : List Value).toArray s 0 0 A) A (dC, dI) (wd_C q cI cZ) 5 4 [(0, .ref (q 4)), (1, .int x1), (2, .int x2), (3, .int x3)] [] σ := by
    intro k4 hk4 x1 x2 x3 σ hf ls H locs hl hP hD hS
    unfold mc_Spaces_removeTree_b4 at hf
    refine lv_iload_n hx hb nd_Spaces_removeTree_4 rfl (lv_at hl 3 rfl) ?_
    refine lv_bipush (v := 16) hx hb nd_Spaces_removeTree_5 (by decide) ?_
    refine lv_icmp_ge (tgt := 47) hx hb nd_Spaces_removeTree_7 (by decide) (fun hc => ?_) (fun hc => ?_)
    · have hf := mi_if_t hc hf
      exact B47 x1 x2 σ hf _ _ _ (lv_sub hl [0, 1, 2] rfl) hP hD hS
    · have hf := mi_if_f hc hf
      refine lv_aload_n hx hb nd_Spaces_removeTree_10 rfl (lv_at hl 0 rfl) ?_
      refine va_get (D := (dC, dI)) (ci := 4) (v := .ref (q 1)) (C := RX4) (T := TX4) (N := 4) hx hb hB inB4 hown hK hP 4 rfl rfl 0 (by decide) (hB _ lk_80) (fun _ h9 => h9) rfl nd_Spaces_removeTree_11 ?_
      refine lv_iload_n hx hb nd_Spaces_removeTree_14 rfl (lv_at hl 1 rfl) ?_
      refine lv_bipush (v := 16) hx hb nd_Spaces_removeTree_15 (by decide) ?_
      refine lv_imul hx hb nd_Spaces_removeTree_17 ?_
      refine lv_iload_n hx hb nd_Spaces_removeTree_18 rfl (lv_at hl 3 rfl) ?_
      refine lv_iadd hx hb nd_Spaces_removeTree_19 ?_
      obtain ⟨r2, hc, hf⟩ := mi_cp_el hf
      refine ca_i (va_runV (C := "MovedFrames$Frames") (As := [.int ((x1 * (16 : Int32)) + x3)]) (rest := []) ⟨hx, hb, hml, hown, hB⟩ (kw_Frames_read l dC dI q cI cZ _ σ ((x1 * (16 : Int32)) + x3) r2 hc) ⟨callB_of 1 hB (gi_ lk_170) rfl rfl rfl (hB _ lk_2) (hB _ lk_167) (by decide +kernel) ⟨Nat.le_of_ble_eq_true rfl, Nat.le_of_ble_eq_true rfl⟩, hB _ lk_168, hB _ lk_169⟩ ⟨bl_, va_recv (ci := 0) (q0 := 1) hK hP rfl rfl, pre_ hP hK hD hN⟩ rfl rfl hl.1 rfl (lv_room (Nat.le_of_ble_eq_true rfl)) nd_Spaces_removeTree_20 ⟨Nat.zero_le _, Nat.zero_le _⟩) hD hS hA (fun H locs hP hD hS => ?_)
      refine lv_istore (lv' := [(4, .int r2), (0, .ref (q 4)), (1, .int x1), (2, .int x2), (3, .int x3)]) hx hb nd_Spaces_removeTree_23 hl (by decide) rfl (fun ls hl => ?_)
      refine lv_iload hx hb nd_Spaces_removeTree_25 (lv_at hl 0 rfl) ?_
      refine lv_if_eq (tgt := 41) hx hb nd_Spaces_removeTree_27 (by decide) (fun hc => ?_) (fun hc => ?_)
      · have hf := mi_if_t hc hf
        refine lv_iinc (k := 4) (v := x3 + (1 : Int32)) (lv' := [(3, .int (x3 + (1 : Int32))), (4, .int r2), (0, .ref (q 4)), (1, .int x1), (2, .int x2)]) hx hb nd_Spaces_removeTree_41 hl rfl (congrArg (fun z => x3 + z) (by decide : Int32.ofInt 1 = (1 : Int32))) (by decide) rfl (fun ls hl => ?_)
        refine lv_goto (tgt := 4) hx hb nd_Spaces_removeTree_44 (by decide) ?_
        exact hk4 x1 x2 (x3 + (1 : Int32)) σ hf _ _ _ (lv_sub hl [2, 3, 4, 0] rfl) hP hD hS
      · have hf := mi_if_f hc hf
        refine lv_iload_n hx hb nd_Spaces_removeTree_30 rfl (lv_at hl 3 rfl) ?_
        refine lv_aload_n hx hb nd_Spaces_removeTree_31 rfl (lv_at hl 1 rfl) ?_
        refine lv_iload hx hb nd_Spaces_removeTree_32 (lv_at hl 0 rfl) ?_
        refine lv_iconst (v := 1) hx hb nd_Spaces_removeTree_34 (by decide) ?_
        refine lv_isub hx hb nd_Spaces_removeTree_35 ?_
        obtain ⟨r4, σ3, hc, hf⟩ := mi_cw_el hf
        refine ca_i (va_runV (C := "MovedFrames$Spaces") (As := [.int (r2 - (1 : Int32))]) (rest := [.int x2]) ⟨hx, hb, hml, hown, hB⟩ (kw_Spaces_removeTable l dC dI q cI cZ _ σ (r2 - (1 : Int32)) r4 σ3 hc) ⟨callB_of 1 hB (gi_ lk_437) rfl rfl rfl (hB _ lk_5) (hB _ lk_434) (by decide +kernel) ⟨Nat.le_of_ble_eq_true rfl, Nat.le_of_ble_eq_true rfl⟩, hB _ lk_436, hB _ ls_12⟩ ⟨bl_, va_recv (ci := 4) (q0 := 4) hK hP rfl rfl, pre_ hP hK hD hN⟩ rfl rfl hl.1 rfl (lv_room (Nat.le_of_ble_eq_true rfl)) nd_Spaces_removeTree_36 ⟨Nat.zero_le _, Nat.zero_le _⟩) hD hS hA (fun H locs hP hD hS => ?_)
        refine lv_iadd hx hb nd_Spaces_removeTree_39 ?_
        refine lv_istore_n (lv' := [(2, .int (x2 + r4)), (4, .int r2), (0, .ref (q 4)), (1, .int x1), (3, .int x3)]) hx hb nd_Spaces_removeTree_40 rfl hl (by decide) rfl (fun ls hl => ?_)
        refine lv_iinc (k := 4) (v := x3 + (1 : Int32)) (lv' := [(3, .int (x3 + (1 : Int32))), (2, .int (x2 + r4)), (4, .int r2), (0, .ref (q 4)), (1, .int x1)]) hx hb nd_Spaces_removeTree_41 hl rfl (congrArg (fun z => x3 + z) (by decide : Int32.ofInt 1 = (1 : Int32))) (by decide) rfl (fun ls hl => ?_)
        refine lv_goto (tgt := 4) hx hb nd_Spaces_removeTree_44 (by decide) ?_
        exact hk4 x1 (x2 + r4) (x3 + (1 : Int32)) σ3 hf _ _ _ (lv_sub hl [3, 4, 1, 0] rfl) hP hD hS
  have L4 : ∀ (n : Nat) (x1 : Int32) (x2 : Int32) (x3 : Int32) (σ : CS), mc_Spaces_removeTree_l4 n x1 x2 x3 σ = some (v, σ') → bk_ p l e rm_Spaces_removeTree s m ([.ref (q 4), .int z1] : List Value).toArray below meth c (MQ below (qi_ (dC, dI) (wd_C q cI cZ) [(cI, .int), (cZ, .boolean)] A v σ') ([.ref (q 4), .int z1] : List Value).toArray s 0 0 A) A (dC, dI) (wd_C q cI cZ) 5 4 [(0, .ref (q 4)), (1, .int x1), (2, .int x2), (3, .int x3)] [] σ := by
    intro n
    induction n with
    | zero =>
      intro x1 x2 x3 σ hf
      exact mi_no hf
    | succ n ih =>
      intro x1 x2 x3 σ hf
      exact B4 (mc_Spaces_removeTree_l4 n) ih x1 x2 x3 σ hf
  have hH : s.heap = s.heap := rfl
  unfold mc_Spaces_removeTree at hf
  refine lv_iconst (v := 1) hx hb nd_Spaces_removeTree_0 (by decide) ?_
  refine lv_istore_n (lv' := [(2, .int (1 : Int32)), (0, .ref (q 4)), (1, .int z1)]) hx hb nd_Spaces_removeTree_1 rfl hl (by decide) rfl (fun ls hl => ?_)
  refine lv_iconst (v := 0) hx hb nd_Spaces_removeTree_2 (by decide) ?_
  refine lv_istore_n (lv' := [(3, .int (0 : Int32)), (2, .int (1 : Int32)), (0, .ref (q 4)), (1, .int z1)]) hx hb nd_Spaces_removeTree_3 rfl hl (by decide) rfl (fun ls hl => ?_)
  exact L4 FU z1 (1 : Int32) (0 : Int32) σ hf _ _ _ (lv_sub hl [2, 3, 1, 0] rfl) hP hD hS
abbrev rm_Spaces_remove : Room := { frames := 4, cells := 0, slots := 0, locals := 89 }
set_option maxHeartbeats 4000000 in
set_option maxRecDepth 100000 in
theorem kw_Spaces_remove (l : Launch) (dC : Nat → ClassId) (dI : Nat → Nat → Nat) (q : Nat → Nat) (cI cZ : ClassId) (sz : Nat) (σ : CS) (z1 : Int32) (v : Int32) (σ' : CS) (hf : mc_Spaces_remove σ z1 = some (v, σ')) : Met l ny_Spaces_remove nw_Spaces_remove rm_Spaces_remove (va_Pc [.ref (q 4), .int z1] (pr_ (dC, dI) (wd_C q cI cZ) [(cI, .int), (cZ, .boolean)] sz σ)) (qi_ (dC, dI) (wd_C q cI cZ) [(cI, .int), (cZ, .boolean)] (va_A (wd_C q cI cZ σ) sz) v σ') 0 0 (va_A (wd_C q cI cZ σ) sz) := by
  refine Met.ofW (cc := nb_Spaces_remove) (maxL := 4) (ret := (some .int)) (by decide) rfl ?_
  intro p e s m args below meth c s₁ B hml hv
  obtain ⟨rfl, hsz, hP, hK, hD0, hN⟩ := hv
  have hx := B.exec
  have hb := B.bytes
  have hr := B.returns
  have hts := atoms_spec (ws := nw_Spaces_remove) B.pre
  have hB : ∀ w ∈ BG, w.before ([.ref (q 4), .int z1] : List Value).toArray s = true := fun w h => hts w (List.mem_cons_of_mem _ h)
  have hown : s.vm.findClass "MovedFrames$Spaces" = some m.cls := findClass_of_methodNamed B.named
  have hlocks := B.notSynchronized
  subst hsz
  have hD := hD0.self (sz := s.heap.size)
  generalize hAe : va_A (wd_C q cI cZ σ) s.heap.size = A at hD ⊢
  have hA : ∀ q : Nat, s.heap.size ≤ q → A q := fun q h => by rw [← hAe]; exact Or.inr h
  have hS : va_S A s.heap s.heap [] := va_S.rf
  have hl := lv_entry ([.ref (q 4), .int z1]) (n := 4) (Nat.le_of_ble_eq_true rfl)
  rw [lg_entry_eq]
  generalize (lg_sl ([.ref (q 4), .int z1]) ++ List.replicate (4 - (lg_sl ([.ref (q 4), .int z1])).length) Slot.unset).toArray = ls at hl ⊢
  have hl : lv_has ls 4 [(0, .ref (q 4)), (1, .int z1)] := hl
  have B32 : ∀ (k32 : Int32 → Int32 → Int32 → CS → Option (Int32 × CS)) (hk32 : ∀ (x1 : Int32) (x2 : Int32) (x3 : Int32) (σ : CS), k32 x1 x2 x3 σ = some (v, σ') → bk_ p l e rm_Spaces_remove s m ([.ref (q 4), .int z1] : List Value).toArray below meth c (MQ below (qi_ (dC, dI) (wd_C q cI cZ) [(cI, .int), (cZ, .boolean)] A v σ') ([.ref (q 4), .int z1] : List Value).toArray s 0 0 A) A (dC, dI) (wd_C q cI cZ) 4 32 [(0, .ref (q 4)), (1, .int x1), (2, .int x2), (3, .int x3)] [] σ) (x1 : Int32) (x2 : Int32) (x3 : Int32) (σ : CS), mc_Spaces_remove_b32 k32 x1 x2 x3 σ = some (v, σ') → bk_ p l e rm_Spaces_remove s m ([.ref (q 4), .int z1] : List Value).toArray below meth c (MQ below (qi_ (dC, dI) (wd_C q cI cZ) [(cI, .int), (cZ, .boolean)] A v σ') ([.ref (q 4), .int z1] : List Value).toArray s 0 0 A) A (dC, dI) (wd_C q cI cZ) 4 32 [(0, .ref (q 4)), (1, .int x1), (2, .int x2), (3, .int x3)] [] σ := by
    intro k32 hk32 x1 x2 x3 σ hf ls H locs hl hP hD hS
    unfold mc_Spaces_remove_b32 at hf
    refine lv_iload_n hx hb nd_Spaces_remove_32 rfl (lv_at hl 3 rfl) ?_
    refine lv_sipush (v := 256) hx hb nd_Spaces_remove_33 (by decide) ?_
    refine lv_icmp_ge (tgt := 58) hx hb nd_Spaces_remove_36 (by decide) (fun hc => ?_) (fun hc => ?_)
    · have hf := mi_if_t hc hf
      refine lv_iload_n hx hb nd_Spaces_remove_58 rfl (lv_at hl 2 rfl) ?_
      exact re_i hx hb hr hlocks ((mi_pr hf).1) ((mi_pr hf).2) hP hK hD hS nd_Spaces_remove_59
    · have hf := mi_if_f hc hf
      refine lv_aload_n hx hb nd_Spaces_remove_39 rfl (lv_at hl 0 rfl) ?_
      refine va_get (D := (dC, dI)) (ci := 4) (v := .ref (q 13)) (C := RX4) (T := TX4) (N := 4) hx hb hB inB4 hown hK hP 4 rfl rfl 2 (by decide) (hB _ lk_82) (fun _ h9 => h9) rfl nd_Spaces_remove_40 ?_
      refine lv_iload_n hx hb nd_Spaces_remove_43 rfl (lv_at hl 1 rfl) ?_
      refine lv_sipush (v := 256) hx hb nd_Spaces_remove_44 (by decide) ?_
      refine lv_imul hx hb nd_Spaces_remove_47 ?_
      refine lv_iload_n hx hb nd_Spaces_remove_48 rfl (lv_at hl 3 rfl) ?_
      refine lv_iadd hx hb nd_Spaces_remove_49 ?_
      refine lv_iconst (v := 0) hx hb nd_Spaces_remove_50 (by decide) ?_
      obtain ⟨hg, hf⟩ := mi_gd_el hf
      refine va_zast hx hb hK hP hD hS 13 1 rfl rfl hg nd_Spaces_remove_51 (fun H locs hP hD hS => ?_)
      obtain ⟨σ5, e9, hf⟩ := mi_wr_ex hf
      have hP : va_P (dC, dI) vwCl (wd_C q cI cZ σ5) H := by rw [e9]; exact hP
      have hD : va_D A (wd_C q cI cZ σ5) := by rw [e9]; exact hD
      refine lv_iinc (k := 3) (v := x3 + (1 : Int32)) (lv' := [(3, .int (x3 + (1 : Int32))), (0, .ref (q 4)), (1, .int x1), (2, .int x2)]) hx hb nd_Spaces_remove_52 hl rfl (congrArg (fun z => x3 + z) (by decide : Int32.ofInt 1 = (1 : Int32))) (by decide) rfl (fun ls hl => ?_)
      refine lv_goto (tgt := 32) hx hb nd_Spaces_remove_55 (by decide) ?_
      exact hk32 x1 x2 (x3 + (1 : Int32)) σ5 hf _ _ _ (lv_sub hl [1, 2, 3, 0] rfl) hP hD hS
  have L32 : ∀ (n : Nat) (x1 : Int32) (x2 : Int32) (x3 : Int32) (σ : CS), mc_Spaces_remove_l32 n x1 x2 x3 σ = some (v, σ') → bk_ p l e rm_Spaces_remove s m ([.ref (q 4), .int z1] : List Value).toArray below meth c (MQ below (qi_ (dC, dI) (wd_C q cI cZ) [(cI, .int), (cZ, .boolean)] A v σ') ([.ref (q 4), .int z1] : List Value).toArray s 0 0 A) A (dC, dI) (wd_C q cI cZ) 4 32 [(0, .ref (q 4)), (1, .int x1), (2, .int x2), (3, .int x3)] [] σ := by
    intro n
    induction n with
    | zero =>
      intro x1 x2 x3 σ hf
      exact mi_no hf
    | succ n ih =>
      intro x1 x2 x3 σ hf
      exact B32 (mc_Spaces_remove_l32 n) ih x1 x2 x3 σ hf
  have hH : s.heap = s.heap := rfl
  unfold mc_Spaces_remove at hf
  refine lv_aload_n hx hb nd_Spaces_remove_0 rfl (lv_at hl 0 rfl) ?_
  refine lv_iload_n hx hb nd_Spaces_remove_1 rfl (lv_at hl 1 rfl) ?_
  obtain ⟨r1, hc, hf⟩ := mi_cp_el hf
  refine ca_i (va_runV (C := "MovedFrames$Spaces") (As := [.int z1]) (rest := []) ⟨hx, hb, hml, hown, hB⟩ (kw_Spaces_isThere l dC dI q cI cZ _ σ z1 r1 hc) ⟨callB_of 1 hB (gi_ lk_159) rfl rfl rfl (hB _ lk_5) (hB _ lk_156) (by decide +kernel) ⟨Nat.le_of_ble_eq_true rfl, Nat.le_of_ble_eq_true rfl⟩, hB _ lk_157, hB _ lk_158⟩ ⟨bl_, va_recv (ci := 4) (q0 := 4) hK hP rfl rfl, pre_ hP hK hD hN⟩ rfl rfl hl.1 rfl (lv_room (Nat.le_of_ble_eq_true rfl)) nd_Spaces_remove_2 ⟨Nat.zero_le _, Nat.zero_le _⟩) hD hS hA (fun H locs hP hD hS => ?_)
  refine lv_if_ne (tgt := 10) hx hb nd_Spaces_remove_5 (by decide) (fun hc => ?_) (fun hc => ?_)
  · have hf := mi_if_f hc hf
    refine lv_aload_n hx hb nd_Spaces_remove_10 rfl (lv_at hl 0 rfl) ?_
    refine lv_aload_n hx hb nd_Spaces_remove_11 rfl (lv_at hl 0 rfl) ?_
    refine va_get (D := (dC, dI)) (ci := 4) (v := .ref (q 12)) (C := RX4) (T := TX4) (N := 4) hx hb hB inB4 hown hK hP 4 rfl rfl 1 (by decide) (hB _ lk_81) (fun _ h9 => h9) rfl nd_Spaces_remove_12 ?_
    refine lv_iload_n hx hb nd_Spaces_remove_15 rfl (lv_at hl 1 rfl) ?_
    obtain ⟨hg, hf⟩ := mi_gd_el hf
    refine va_iald hx hb hK hP 12 0 rfl rfl hg nd_Spaces_remove_16 ?_
    refine lv_iconst (v := 1) hx hb nd_Spaces_remove_17 (by decide) ?_
    refine lv_isub hx hb nd_Spaces_remove_18 ?_
    obtain ⟨r3, σ2, hc, hf⟩ := mi_cw_el hf
    refine ca_i (va_runV (C := "MovedFrames$Spaces") (As := [.int (((gc_ro σ) z1.toNatClampNeg) - (1 : Int32))]) (rest := []) ⟨hx, hb, hml, hown, hB⟩ (kw_Spaces_removeTree l dC dI q cI cZ _ σ (((gc_ro σ) z1.toNatClampNeg) - (1 : Int32)) r3 σ2 hc) ⟨callB_of 1 hB (gi_ lk_433) rfl rfl rfl (hB _ lk_5) (hB _ lk_430) (by decide +kernel) ⟨Nat.le_of_ble_eq_true rfl, Nat.le_of_ble_eq_true rfl⟩, hB _ lk_432, hB _ ls_11⟩ ⟨bl_, va_recv (ci := 4) (q0 := 4) hK hP rfl rfl, pre_ hP hK hD hN⟩ rfl rfl hl.1 rfl (lv_room (Nat.le_of_ble_eq_true rfl)) nd_Spaces_remove_19 ⟨Nat.zero_le _, Nat.zero_le _⟩) hD hS hA (fun H locs hP hD hS => ?_)
    refine lv_istore_n (lv' := [(2, .int r3), (0, .ref (q 4)), (1, .int z1)]) hx hb nd_Spaces_remove_22 rfl hl (by decide) rfl (fun ls hl => ?_)
    refine lv_aload_n hx hb nd_Spaces_remove_23 rfl (lv_at hl 1 rfl) ?_
    refine va_get (D := (dC, dI)) (ci := 4) (v := .ref (q 12)) (C := RX4) (T := TX4) (N := 4) hx hb hB inB4 hown hK hP 4 rfl rfl 1 (by decide) (hB _ lk_81) (fun _ h9 => h9) rfl nd_Spaces_remove_24 ?_
    refine lv_iload_n hx hb nd_Spaces_remove_27 rfl (lv_at hl 2 rfl) ?_
    refine lv_iconst (v := 0) hx hb nd_Spaces_remove_28 (by decide) ?_
    obtain ⟨hg, hf⟩ := mi_gd_el hf
    refine va_iast hx hb hK hP hD hS 12 0 rfl rfl hg nd_Spaces_remove_29 (fun H locs hP hD hS => ?_)
    obtain ⟨σ4, e9, hf⟩ := mi_wr_ex hf
    have hP : va_P (dC, dI) vwCl (wd_C q cI cZ σ4) H := by rw [e9]; exact hP
    have hD : va_D A (wd_C q cI cZ σ4) := by rw [e9]; exact hD
    refine lv_iconst (v := 0) hx hb nd_Spaces_remove_30 (by decide) ?_
    refine lv_istore_n (lv' := [(3, .int (0 : Int32)), (2, .int r3), (0, .ref (q 4)), (1, .int z1)]) hx hb nd_Spaces_remove_31 rfl hl (by decide) rfl (fun ls hl => ?_)
    exact L32 FU z1 r3 (0 : Int32) σ4 hf _ _ _ (lv_sub hl [2, 3, 1, 0] rfl) hP hD hS
  · have hf := mi_if_t hc hf
    refine lv_iconst (v := (-1)) hx hb nd_Spaces_remove_8 (by decide) ?_
    exact re_i hx hb hr hlocks ((mi_pr hf).1) ((mi_pr hf).2) hP hK hD hS nd_Spaces_remove_9
