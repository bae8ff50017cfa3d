abbrev rm_M_thrown : Room := { frames := 0, cells := 0, slots := 0, locals := 0 }
set_option maxHeartbeats 4000000 in
set_option maxRecDepth 100000 in
theorem kw_M_thrown (l : Launch) (dC : Nat → ClassId) (dI : Nat → Nat → Nat) (r : Nat → Nat) (cI cZ : ClassId) (sz : Nat) (σ : MS) (v : Int32) (hf : mm_thrown σ = some v) : Met l ny_M_thrown nw_M_thrown rm_M_thrown (va_Pc [.ref (r 0)] (pr_ (dC, dI) (wd_M r cI cZ) [(cI, .int), (cZ, .boolean)] sz σ)) (qi_ (dC, dI) (wd_M r cI cZ) [(cI, .int), (cZ, .boolean)] (va_A (wd_M r cI cZ σ) sz) v σ) 0 0 (va_A (wd_M r cI cZ σ) sz) := by
  refine Met.ofW (cc := nb_M_thrown) (maxL := 1) (ret := (some .int)) (by decide) rfl ?_
  intro p e s m args below meth c s₁ B hml hv
  obtain ⟨rfl, hsz, hP, hK, hD0, hN⟩ := hv
  have hx := B.exec
  have hb := B.bytes
  have hr := B.returns
  have hts := atoms_spec (ws := nw_M_thrown) B.pre
  have hB : ∀ w ∈ BG, w.before ([.ref (r 0)] : List Value).toArray s = true := fun w h => hts w (List.mem_cons_of_mem _ h)
  have hown : s.vm.findClass "MovedFramesModel" = some m.cls := findClass_of_methodNamed B.named
  have hlocks := B.notSynchronized
  subst hsz
  have hD := hD0.self (sz := s.heap.size)
  generalize hAe : va_A (wd_M r cI cZ σ) s.heap.size = A at hD ⊢
  have hA : ∀ q : Nat, s.heap.size ≤ q → A q := fun q h => by rw [← hAe]; exact Or.inr h
  have hS : va_S A s.heap s.heap [] := va_S.rf
  have hl := lv_entry ([.ref (r 0)]) (n := 1) (Nat.le_of_ble_eq_true rfl)
  rw [lg_entry_eq]
  generalize (lg_sl ([.ref (r 0)]) ++ List.replicate (1 - (lg_sl ([.ref (r 0)])).length) Slot.unset).toArray = ls at hl ⊢
  have hl : lv_has ls 1 [(0, .ref (r 0))] := hl
  have hH : s.heap = s.heap := rfl
  unfold mm_thrown at hf
  refine lv_aload_n hx hb nd_M_thrown_0 rfl (lv_at hl 0 rfl) ?_
  refine va_get (D := (dC, dI)) (ci := 6) (v := .int (gm_th σ)) (C := RX6) (T := TX6) (N := 11) hx hb hB inB6 hown hK hP 0 rfl rfl 0 (by decide) (hB _ lk_629) (fun _ h9 => h9) rfl nd_M_thrown_1 ?_
  exact re_i hx hb hr hlocks (mi_eq hf) (rfl) hP hK hD hS nd_M_thrown_4
abbrev rm_M_throwsBy : Room := { frames := 0, cells := 0, slots := 0, locals := 0 }
set_option maxHeartbeats 4000000 in
set_option maxRecDepth 100000 in
theorem kw_M_throwsBy (l : Launch) (dC : Nat → ClassId) (dI : Nat → Nat → Nat) (r : Nat → Nat) (cI cZ : ClassId) (sz : Nat) (σ : MS) (z1 : Int32) (v : Int32) (σ' : MS) (hf : mm_throwsBy σ z1 = some (v, σ')) : Met l ny_M_throwsBy nw_M_throwsBy rm_M_throwsBy (va_Pc [.ref (r 0), .int z1] (pr_ (dC, dI) (wd_M r cI cZ) [(cI, .int), (cZ, .boolean)] sz σ)) (qi_ (dC, dI) (wd_M r cI cZ) [(cI, .int), (cZ, .boolean)] (va_A (wd_M r cI cZ σ) sz) v σ') 0 0 (va_A (wd_M r cI cZ σ) sz) := by
  refine Met.ofW (cc := nb_M_throwsBy) (maxL := 2) (ret := (some .boolean)) (by decide) rfl ?_
  intro p e s m args below meth c s₁ B hml hv
  obtain ⟨rfl, hsz, hP, hK, hD0, hN⟩ := hv
  have hx := B.exec
  have hb := B.bytes
  have hr := B.returns
  have hts := atoms_spec (ws := nw_M_throwsBy) B.pre
  have hB : ∀ w ∈ BG, w.before ([.ref (r 0), .int z1] : List Value).toArray s = true := fun w h => hts w (List.mem_cons_of_mem _ h)
  have hown : s.vm.findClass "MovedFramesModel" = some m.cls := findClass_of_methodNamed B.named
  have hlocks := B.notSynchronized
  subst hsz
  have hD := hD0.self (sz := s.heap.size)
  generalize hAe : va_A (wd_M r cI cZ σ) s.heap.size = A at hD ⊢
  have hA : ∀ q : Nat, s.heap.size ≤ q → A q := fun q h => by rw [← hAe]; exact Or.inr h
  have hS : va_S A s.heap s.heap [] := va_S.rf
  have hl := lv_entry ([.ref (r 0), .int z1]) (n := 2) (Nat.le_of_ble_eq_true rfl)
  rw [lg_entry_eq]
  generalize (lg_sl ([.ref (r 0), .int z1]) ++ List.replicate (2 - (lg_sl ([.ref (r 0), .int z1])).length) Slot.unset).toArray = ls at hl ⊢
  have hl : lv_has ls 2 [(0, .ref (r 0)), (1, .int z1)] := hl
  have hH : s.heap = s.heap := rfl
  unfold mm_throwsBy at hf
  refine lv_aload_n hx hb nd_M_throwsBy_0 rfl (lv_at hl 0 rfl) ?_
  refine lv_iload_n hx hb nd_M_throwsBy_1 rfl (lv_at hl 1 rfl) ?_
  refine va_put (D := (dC, dI)) (ci := 6) (v := .int z1) (ty := .int) (C := RX6) (T := TX6) (N := 11) hx hb hB inB6 tyX6 tyX6_ok nX6 hown hK hP hD hS 0 rfl rfl 0 (by decide) (hB _ lk_629) (fun _ h9 => h9) rfl (by decide +kernel) rfl rfl (Nat.le_of_ble_eq_true rfl) nd_M_throwsBy_2 (fun H locs hP hD hS => ?_)
  obtain ⟨σ1, e9, hf⟩ := mi_wr_ex hf
  have hP : va_P (dC, dI) vwCl (wd_M r cI cZ σ1) H := by rw [e9]; exact hP
  have hD : va_D A (wd_M r cI cZ σ1) := by rw [e9]; exact hD
  refine lv_iload_n hx hb nd_M_throwsBy_5 rfl (lv_at hl 1 rfl) ?_
  refine lv_if_le (tgt := 13) hx hb nd_M_throwsBy_6 (by decide) (fun hc => ?_) (fun hc => ?_)
  · have hf := mi_if_t hc hf
    refine lv_iconst (v := 0) hx hb nd_M_throwsBy_13 (by decide) ?_
    exact re_z hx hb hr hlocks (Or.inl rfl) ((mi_pr hf).1) ((mi_pr hf).2) hP hK hD hS nd_M_throwsBy_14
  · have hf := mi_if_f hc hf
    refine lv_iconst (v := 1) hx hb nd_M_throwsBy_9 (by decide) ?_
    refine lv_goto (tgt := 14) hx hb nd_M_throwsBy_10 (by decide) ?_
    exact re_z hx hb hr hlocks (Or.inr rfl) ((mi_pr hf).1) ((mi_pr hf).2) hP hK hD hS nd_M_throwsBy_14
abbrev rm_M_in : Room := { frames := 0, cells := 0, slots := 0, locals := 0 }
set_option maxHeartbeats 4000000 in
set_option maxRecDepth 100000 in
theorem kw_M_in (l : Launch) (dC : Nat → ClassId) (dI : Nat → Nat → Nat) (r : Nat → Nat) (cI cZ : ClassId) (sz : Nat) (σ : MS) (z0 : Int32) (z1 : Int32) (z2 : Int32) (v : Int32) (hf : mm_in z0 z1 z2 = some v) : Met l ny_M_in nw_M_in rm_M_in (va_Pc [.int z0, .int z1, .int z2] (pr_ (dC, dI) (wd_M r cI cZ) [(cI, .int), (cZ, .boolean)] sz σ)) (qi_ (dC, dI) (wd_M r cI cZ) [(cI, .int), (cZ, .boolean)] (va_A (wd_M r cI cZ σ) sz) v σ) 0 0 (va_A (wd_M r cI cZ σ) sz) := by
  refine Met.ofW (cc := nb_M_in) (maxL := 3) (ret := (some .boolean)) (by decide) rfl ?_
  intro p e s m args below meth c s₁ B hml hv
  obtain ⟨rfl, hsz, hP, hK, hD0, hN⟩ := hv
  have hx := B.exec
  have hb := B.bytes
  have hr := B.returns
  have hts := atoms_spec (ws := nw_M_in) B.pre
  have hB : ∀ w ∈ BG, w.before ([.int z0, .int z1, .int z2] : List Value).toArray s = true := fun w h => hts w (List.mem_cons_of_mem _ h)
  have hown : s.vm.findClass "MovedFramesModel" = some m.cls := findClass_of_methodNamed B.named
  have hlocks := B.notSynchronized
  subst hsz
  have hD := hD0.self (sz := s.heap.size)
  generalize hAe : va_A (wd_M r cI cZ σ) s.heap.size = A at hD ⊢
  have hA : ∀ q : Nat, s.heap.size ≤ q → A q := fun q h => by rw [← hAe]; exact Or.inr h
  have hS : va_S A s.heap s.heap [] := va_S.rf
  have hl := lv_entry ([.int z0, .int z1, .int z2]) (n := 3) (Nat.le_of_ble_eq_true rfl)
  rw [lg_entry_eq]
  generalize (lg_sl ([.int z0, .int z1, .int z2]) ++ List.replicate (3 - (lg_sl ([.int z0, .int z1, .int z2])).length) Slot.unset).toArray = ls at hl ⊢
  have hl : lv_has ls 3 [(0, .int z0), (1, .int z1), (2, .int z2)] := hl
  have hH : s.heap = s.heap := rfl
  unfold mm_in at hf
  refine lv_iload_n hx hb nd_M_in_0 rfl (lv_at hl 0 rfl) ?_
  refine lv_iload_n hx hb nd_M_in_1 rfl (lv_at hl 1 rfl) ?_
  refine lv_icmp_lt (tgt := 14) hx hb nd_M_in_2 (by decide) (fun hc => ?_) (fun hc => ?_)
  · have hf := mi_if_t hc hf
    refine lv_iconst (v := 0) hx hb nd_M_in_14 (by decide) ?_
    exact re_z hx hb hr hlocks (Or.inl rfl) (mi_eq hf) (rfl) hP hK hD hS nd_M_in_15
  · have hf := mi_if_f hc hf
    refine lv_iload_n hx hb nd_M_in_5 rfl (lv_at hl 0 rfl) ?_
    refine lv_iload_n hx hb nd_M_in_6 rfl (lv_at hl 2 rfl) ?_
    refine lv_icmp_gt (tgt := 14) hx hb nd_M_in_7 (by decide) (fun hc => ?_) (fun hc => ?_)
    · have hf := mi_if_t hc hf
      refine lv_iconst (v := 0) hx hb nd_M_in_14 (by decide) ?_
      exact re_z hx hb hr hlocks (Or.inl rfl) (mi_eq hf) (rfl) hP hK hD hS nd_M_in_15
    · have hf := mi_if_f hc hf
      refine lv_iconst (v := 1) hx hb nd_M_in_10 (by decide) ?_
      refine lv_goto (tgt := 15) hx hb nd_M_in_11 (by decide) ?_
      exact re_z hx hb hr hlocks (Or.inr rfl) (mi_eq hf) (rfl) hP hK hD hS nd_M_in_15
abbrev rm_M_countFree : Room := { frames := 0, cells := 0, slots := 0, locals := 0 }
set_option maxHeartbeats 4000000 in
set_option maxRecDepth 100000 in
theorem kw_M_countFree (l : Launch) (dC : Nat → ClassId) (dI : Nat → Nat → Nat) (r : Nat → Nat) (cI cZ : ClassId) (sz : Nat) (σ : MS) (v : Int32) (hf : mm_countFree σ = some v) : Met l ny_M_countFree nw_M_countFree rm_M_countFree (va_Pc [.ref (r 0)] (pr_ (dC, dI) (wd_M r cI cZ) [(cI, .int), (cZ, .boolean)] sz σ)) (qi_ (dC, dI) (wd_M r cI cZ) [(cI, .int), (cZ, .boolean)] (va_A (wd_M r cI cZ σ) sz) v σ) 0 0 (va_A (wd_M r cI cZ σ) sz) := by
  refine Met.ofW (cc := nb_M_countFree) (maxL := 3) (ret := (some .int)) (by decide) rfl ?_
  intro p e s m args below meth c s₁ B hml hv
  obtain ⟨rfl, hsz, hP, hK, hD0, hN⟩ := hv
  have hx := B.exec
  have hb := B.bytes
  have hr := B.returns
  have hts := atoms_spec (ws := nw_M_countFree) B.pre
  have hB : ∀ w ∈ BG, w.before ([.ref (r 0)] : List Value).toArray s = true := fun w h => hts w (List.mem_cons_of_mem _ h)
  have hown : s.vm.findClass "MovedFramesModel" = some m.cls := findClass_of_methodNamed B.named
  have hlocks := B.notSynchronized
  subst hsz
  have hD := hD0.self (sz := s.heap.size)
  generalize hAe : va_A (wd_M r cI cZ σ) s.heap.size = A at hD ⊢
  have hA : ∀ q : Nat, s.heap.size ≤ q → A q := fun q h => by rw [← hAe]; exact Or.inr h
  have hS : va_S A s.heap s.heap [] := va_S.rf
  have hl := lv_entry ([.ref (r 0)]) (n := 3) (Nat.le_of_ble_eq_true rfl)
  rw [lg_entry_eq]
  generalize (lg_sl ([.ref (r 0)]) ++ List.replicate (3 - (lg_sl ([.ref (r 0)])).length) Slot.unset).toArray = ls at hl ⊢
  have hl : lv_has ls 3 [(0, .ref (r 0))] := hl
  have B4 : ∀ (k4 : Int32 → Int32 → MS → Option (Int32)) (hk4 : ∀ (x1 : Int32) (x2 : Int32), k4 x1 x2 σ = some v → bk_ p l e rm_M_countFree s m ([.ref (r 0)] : List Value).toArray below meth c (MQ below (qi_ (dC, dI) (wd_M r cI cZ) [(cI, .int), (cZ, .boolean)] A v σ) ([.ref (r 0)] : List Value).toArray s 0 0 A) A (dC, dI) (wd_M r cI cZ) 3 4 [(0, .ref (r 0)), (1, .int x1), (2, .int x2)] [] σ) (x1 : Int32) (x2 : Int32), mm_countFree_b4 k4 x1 x2 σ = some v → bk_ p l e rm_M_countFree s m ([.ref (r 0)] : List Value).toArray below meth c (MQ below (qi_ (dC, dI) (wd_M r cI cZ) [(cI, .int), (cZ, .boolean)] A v σ) ([.ref (r 0)] : List Value).toArray s 0 0 A) A (dC, dI) (wd_M r cI cZ) 3 4 [(0, .ref (r 0)), (1, .int x1), (2, .int x2)] [] σ := by
    intro k4 hk4 x1 x2 hf ls H locs hl hP hD hS
    unfold mm_countFree_b4 at hf
    refine lv_iload_n hx hb nd_M_countFree_4 rfl (lv_at hl 2 rfl) ?_
    refine lv_bipush (v := 64) hx hb nd_M_countFree_5 (by decide) ?_
    refine lv_icmp_ge (tgt := 33) hx hb nd_M_countFree_7 (by decide) (fun hc => ?_) (fun hc => ?_)
    · have hf := mi_if_t hc hf
      refine lv_iload_n hx hb nd_M_countFree_33 rfl (lv_at hl 1 rfl) ?_
      exact re_i hx hb hr hlocks (mi_eq hf) (rfl) hP hK hD hS nd_M_countFree_34
    · have hf := mi_if_f hc hf
      refine lv_aload_n hx hb nd_M_countFree_10 rfl (lv_at hl 0 rfl) ?_
      refine va_get (D := (dC, dI)) (ci := 6) (v := .ref (r 1)) (C := RX6) (T := TX6) (N := 11) hx hb hB inB6 hown hK hP 0 rfl rfl 1 (by decide) (hB _ lk_630) (fun _ h9 => h9) rfl nd_M_countFree_11 ?_
      refine lv_iload_n hx hb nd_M_countFree_14 rfl (lv_at hl 2 rfl) ?_
      obtain ⟨hg, hf⟩ := mi_gd_el hf
      refine va_iald hx hb hK hP 1 0 rfl rfl hg nd_M_countFree_15 ?_
      refine lv_if_ne (tgt := 25) hx hb nd_M_countFree_16 (by decide) (fun hc => ?_) (fun hc => ?_)
      · have hf := mi_if_f hc hf
        refine lv_iload_n hx hb nd_M_countFree_25 rfl (lv_at hl 1 rfl) ?_
        refine lv_istore_n (lv' := [(1, .int x1), (0, .ref (r 0)), (2, .int x2)]) hx hb nd_M_countFree_26 rfl hl (by decide) rfl (fun ls hl => ?_)
        refine lv_iinc (k := 2) (v := x2 + (1 : Int32)) (lv' := [(2, .int (x2 + (1 : Int32))), (1, .int x1), (0, .ref (r 0))]) hx hb nd_M_countFree_27 hl rfl (congrArg (fun z => x2 + z) (by decide : Int32.ofInt 1 = (1 : Int32))) (by decide) rfl (fun ls hl => ?_)
        refine lv_goto (tgt := 4) hx hb nd_M_countFree_30 (by decide) ?_
        exact hk4 x1 (x2 + (1 : Int32)) hf _ _ _ (lv_sub hl [2, 1, 0] rfl) hP hD hS
      · have hf := mi_if_t hc hf
        refine lv_iload_n hx hb nd_M_countFree_19 rfl (lv_at hl 1 rfl) ?_
        refine lv_iconst (v := 1) hx hb nd_M_countFree_20 (by decide) ?_
        refine lv_iadd hx hb nd_M_countFree_21 ?_
        refine lv_goto (tgt := 26) hx hb nd_M_countFree_22 (by decide) ?_
        refine lv_istore_n (lv' := [(1, .int (x1 + (1 : Int32))), (0, .ref (r 0)), (2, .int x2)]) hx hb nd_M_countFree_26 rfl hl (by decide) rfl (fun ls hl => ?_)
        refine lv_iinc (k := 2) (v := x2 + (1 : Int32)) (lv' := [(2, .int (x2 + (1 : Int32))), (1, .int (x1 + (1 : Int32))), (0, .ref (r 0))]) hx hb nd_M_countFree_27 hl rfl (congrArg (fun z => x2 + z) (by decide : Int32.ofInt 1 = (1 : Int32))) (by decide) rfl (fun ls hl => ?_)
        refine lv_goto (tgt := 4) hx hb nd_M_countFree_30 (by decide) ?_
        exact hk4 (x1 + (1 : Int32)) (x2 + (1 : Int32)) hf _ _ _ (lv_sub hl [2, 1, 0] rfl) hP hD hS
  have L4 : ∀ (n : Nat) (x1 : Int32) (x2 : Int32), mm_countFree_l4 n x1 x2 σ = some v → bk_ p l e rm_M_countFree s m ([.ref (r 0)] : List Value).toArray below meth c (MQ below (qi_ (dC, dI) (wd_M r cI cZ) [(cI, .int), (cZ, .boolean)] A v σ) ([.ref (r 0)] : List Value).toArray s 0 0 A) A (dC, dI) (wd_M r cI cZ) 3 4 [(0, .ref (r 0)), (1, .int x1), (2, .int x2)] [] σ := by
    intro n
    induction n with
    | zero =>
      intro x1 x2 hf
      exact mi_no hf
    | succ n ih =>
      intro x1 x2 hf
      exact B4 (mm_countFree_l4 n) ih x1 x2 hf
  have hH : s.heap = s.heap := rfl
  unfold mm_countFree at hf
  refine lv_iconst (v := 0) hx hb nd_M_countFree_0 (by decide) ?_
  refine lv_istore_n (lv' := [(1, .int (0 : Int32)), (0, .ref (r 0))]) hx hb nd_M_countFree_1 rfl hl (by decide) rfl (fun ls hl => ?_)
  refine lv_iconst (v := 0) hx hb nd_M_countFree_2 (by decide) ?_
  refine lv_istore_n (lv' := [(2, .int (0 : Int32)), (1, .int (0 : Int32)), (0, .ref (r 0))]) hx hb nd_M_countFree_3 rfl hl (by decide) rfl (fun ls hl => ?_)
  exact L4 FU (0 : Int32) (0 : Int32) hf _ _ _ (lv_sub hl [2, 1, 0] rfl) hP hD hS
abbrev rm_M_isOpen : Room := { frames := 0, cells := 0, slots := 0, locals := 0 }
set_option maxHeartbeats 4000000 in
set_option maxRecDepth 100000 in
theorem kw_M_isOpen (l : Launch) (dC : Nat → ClassId) (dI : Nat → Nat → Nat) (r : Nat → Nat) (cI cZ : ClassId) (sz : Nat) (σ : MS) (z1 : Int32) (z2 : Int32) (v : Int32) (hf : mm_isOpen σ z1 z2 = some v) : Met l ny_M_isOpen nw_M_isOpen rm_M_isOpen (va_Pc [.ref (r 0), .int z1, .int z2] (pr_ (dC, dI) (wd_M r cI cZ) [(cI, .int), (cZ, .boolean)] sz σ)) (qi_ (dC, dI) (wd_M r cI cZ) [(cI, .int), (cZ, .boolean)] (va_A (wd_M r cI cZ σ) sz) v σ) 0 0 (va_A (wd_M r cI cZ σ) sz) := by
  refine Met.ofW (cc := nb_M_isOpen) (maxL := 5) (ret := (some .boolean)) (by decide) rfl ?_
  intro p e s m args below meth c s₁ B hml hv
  obtain ⟨rfl, hsz, hP, hK, hD0, hN⟩ := hv
  have hx := B.exec
  have hb := B.bytes
  have hr := B.returns
  have hts := atoms_spec (ws := nw_M_isOpen) B.pre
  have hB : ∀ w ∈ BG, w.before ([.ref (r 0), .int z1, .int z2] : List Value).toArray s = true := fun w h => hts w (List.mem_cons_of_mem _ h)
  have hown : s.vm.findClass "MovedFramesModel" = some m.cls := findClass_of_methodNamed B.named
  have hlocks := B.notSynchronized
  subst hsz
  have hD := hD0.self (sz := s.heap.size)
  generalize hAe : va_A (wd_M r cI cZ σ) s.heap.size = A at hD ⊢
  have hA : ∀ q : Nat, s.heap.size ≤ q → A q := fun q h => by rw [← hAe]; exact Or.inr h
  have hS : va_S A s.heap s.heap [] := va_S.rf
  have hl := lv_entry ([.ref (r 0), .int z1, .int z2]) (n := 5) (Nat.le_of_ble_eq_true rfl)
  rw [lg_entry_eq]
  generalize (lg_sl ([.ref (r 0), .int z1, .int z2]) ++ List.replicate (5 - (lg_sl ([.ref (r 0), .int z1, .int z2])).length) Slot.unset).toArray = ls at hl ⊢
  have hl : lv_has ls 5 [(0, .ref (r 0)), (1, .int z1), (2, .int z2)] := hl
  have B5 : ∀ (k5 : Int32 → Int32 → Int32 → Int32 → MS → Option (Int32)) (hk5 : ∀ (x1 : Int32) (x2 : Int32) (x3 : Int32) (x4 : Int32), k5 x1 x2 x3 x4 σ = some v → bk_ p l e rm_M_isOpen s m ([.ref (r 0), .int z1, .int z2] : List Value).toArray below meth c (MQ below (qi_ (dC, dI) (wd_M r cI cZ) [(cI, .int), (cZ, .boolean)] A v σ) ([.ref (r 0), .int z1, .int z2] : List Value).toArray s 0 0 A) A (dC, dI) (wd_M r cI cZ) 5 5 [(0, .ref (r 0)), (1, .int x1), (2, .int x2), (3, .int x3), (4, .int x4)] [] σ) (x1 : Int32) (x2 : Int32) (x3 : Int32) (x4 : Int32), mm_isOpen_b5 k5 x1 x2 x3 x4 σ = some v → bk_ p l e rm_M_isOpen s m ([.ref (r 0), .int z1, .int z2] : List Value).toArray below meth c (MQ below (qi_ (dC, dI) (wd_M r cI cZ) [(cI, .int), (cZ, .boolean)] A v σ) ([.ref (r 0), .int z1, .int z2] : List Value).toArray s 0 0 A) A (dC, dI) (wd_M r cI cZ) 5 5 [(0, .ref (r 0)), (1, .int x1), (2, .int x2), (3, .int x3), (4, .int x4)] [] σ := by
    intro k5 hk5 x1 x2 x3 x4 hf ls H locs hl hP hD hS
    unfold mm_isOpen_b5 at hf
    refine lv_iload hx hb nd_M_isOpen_5 (lv_at hl 4 rfl) ?_
    refine lv_iload_n hx hb nd_M_isOpen_7 rfl (lv_at hl 1 rfl) ?_
    refine lv_iload_n hx hb nd_M_isOpen_8 rfl (lv_at hl 2 rfl) ?_
    refine lv_iadd hx hb nd_M_isOpen_9 ?_
    refine lv_icmp_ge (tgt := 39) hx hb nd_M_isOpen_10 (by decide) (fun hc => ?_) (fun hc => ?_)
    · have hf := mi_if_t hc hf
      refine lv_iload_n hx hb nd_M_isOpen_39 rfl (lv_at hl 3 rfl) ?_
      obtain ⟨hg, hf⟩ := mi_gd_el hf
      exact re_z hx hb hr hlocks (Decidable.not_not.mp hg) (mi_eq hf) (rfl) hP hK hD hS nd_M_isOpen_40
    · have hf := mi_if_f hc hf
      refine lv_iload_n hx hb nd_M_isOpen_13 rfl (lv_at hl 3 rfl) ?_
      refine lv_if_eq (tgt := 31) hx hb nd_M_isOpen_14 (by decide) (fun hc => ?_) (fun hc => ?_)
      · have hf := mi_if_t hc hf
        refine lv_iconst (v := 0) hx hb nd_M_isOpen_31 (by decide) ?_
        refine lv_istore_n (lv' := [(3, .int (0 : Int32)), (0, .ref (r 0)), (1, .int x1), (2, .int x2), (4, .int x4)]) hx hb nd_M_isOpen_32 rfl hl (by decide) rfl (fun ls hl => ?_)
        refine lv_iinc (k := 4) (v := x4 + (1 : Int32)) (lv' := [(4, .int (x4 + (1 : Int32))), (3, .int (0 : Int32)), (0, .ref (r 0)), (1, .int x1), (2, .int x2)]) hx hb nd_M_isOpen_33 hl rfl (congrArg (fun z => x4 + z) (by decide : Int32.ofInt 1 = (1 : Int32))) (by decide) rfl (fun ls hl => ?_)
        refine lv_goto (tgt := 5) hx hb nd_M_isOpen_36 (by decide) ?_
        exact hk5 x1 x2 (0 : Int32) (x4 + (1 : Int32)) hf _ _ _ (lv_sub hl [2, 3, 4, 1, 0] rfl) hP hD hS
      · have hf := mi_if_f hc hf
        refine lv_aload_n hx hb nd_M_isOpen_17 rfl (lv_at hl 0 rfl) ?_
        refine va_get (D := (dC, dI)) (ci := 6) (v := .ref (r 1)) (C := RX6) (T := TX6) (N := 11) hx hb hB inB6 hown hK hP 0 rfl rfl 1 (by decide) (hB _ lk_630) (fun _ h9 => h9) rfl nd_M_isOpen_18 ?_
        refine lv_iload hx hb nd_M_isOpen_21 (lv_at hl 4 rfl) ?_
        obtain ⟨hg, hf⟩ := mi_gd_el hf
        refine va_iald hx hb hK hP 1 0 rfl rfl hg nd_M_isOpen_23 ?_
        refine lv_if_ne (tgt := 31) hx hb nd_M_isOpen_24 (by decide) (fun hc => ?_) (fun hc => ?_)
        · have hf := mi_if_f hc hf
          refine lv_iconst (v := 0) hx hb nd_M_isOpen_31 (by decide) ?_
          refine lv_istore_n (lv' := [(3, .int (0 : Int32)), (0, .ref (r 0)), (1, .int x1), (2, .int x2), (4, .int x4)]) hx hb nd_M_isOpen_32 rfl hl (by decide) rfl (fun ls hl => ?_)
          refine lv_iinc (k := 4) (v := x4 + (1 : Int32)) (lv' := [(4, .int (x4 + (1 : Int32))), (3, .int (0 : Int32)), (0, .ref (r 0)), (1, .int x1), (2, .int x2)]) hx hb nd_M_isOpen_33 hl rfl (congrArg (fun z => x4 + z) (by decide : Int32.ofInt 1 = (1 : Int32))) (by decide) rfl (fun ls hl => ?_)
          refine lv_goto (tgt := 5) hx hb nd_M_isOpen_36 (by decide) ?_
          exact hk5 x1 x2 (0 : Int32) (x4 + (1 : Int32)) hf _ _ _ (lv_sub hl [2, 3, 4, 1, 0] rfl) hP hD hS
        · have hf := mi_if_t hc hf
          refine lv_iconst (v := 1) hx hb nd_M_isOpen_27 (by decide) ?_
          refine lv_goto (tgt := 32) hx hb nd_M_isOpen_28 (by decide) ?_
          refine lv_istore_n (lv' := [(3, .int (1 : Int32)), (0, .ref (r 0)), (1, .int x1), (2, .int x2), (4, .int x4)]) hx hb nd_M_isOpen_32 rfl hl (by decide) rfl (fun ls hl => ?_)
          refine lv_iinc (k := 4) (v := x4 + (1 : Int32)) (lv' := [(4, .int (x4 + (1 : Int32))), (3, .int (1 : Int32)), (0, .ref (r 0)), (1, .int x1), (2, .int x2)]) hx hb nd_M_isOpen_33 hl rfl (congrArg (fun z => x4 + z) (by decide : Int32.ofInt 1 = (1 : Int32))) (by decide) rfl (fun ls hl => ?_)
          refine lv_goto (tgt := 5) hx hb nd_M_isOpen_36 (by decide) ?_
          exact hk5 x1 x2 (1 : Int32) (x4 + (1 : Int32)) hf _ _ _ (lv_sub hl [2, 3, 4, 1, 0] rfl) hP hD hS
  have L5 : ∀ (n : Nat) (x1 : Int32) (x2 : Int32) (x3 : Int32) (x4 : Int32), mm_isOpen_l5 n x1 x2 x3 x4 σ = some v → bk_ p l e rm_M_isOpen s m ([.ref (r 0), .int z1, .int z2] : List Value).toArray below meth c (MQ below (qi_ (dC, dI) (wd_M r cI cZ) [(cI, .int), (cZ, .boolean)] A v σ) ([.ref (r 0), .int z1, .int z2] : List Value).toArray s 0 0 A) A (dC, dI) (wd_M r cI cZ) 5 5 [(0, .ref (r 0)), (1, .int x1), (2, .int x2), (3, .int x3), (4, .int x4)] [] σ := by
    intro n
    induction n with
    | zero =>
      intro x1 x2 x3 x4 hf
      exact mi_no hf
    | succ n ih =>
      intro x1 x2 x3 x4 hf
      exact B5 (mm_isOpen_l5 n) ih x1 x2 x3 x4 hf
  have hH : s.heap = s.heap := rfl
  unfold mm_isOpen at hf
  refine lv_iconst (v := 1) hx hb nd_M_isOpen_0 (by decide) ?_
  refine lv_istore_n (lv' := [(3, .int (1 : Int32)), (0, .ref (r 0)), (1, .int z1), (2, .int z2)]) hx hb nd_M_isOpen_1 rfl hl (by decide) rfl (fun ls hl => ?_)
  refine lv_iload_n hx hb nd_M_isOpen_2 rfl (lv_at hl 2 rfl) ?_
  refine lv_istore (lv' := [(4, .int z1), (3, .int (1 : Int32)), (0, .ref (r 0)), (1, .int z1), (2, .int z2)]) hx hb nd_M_isOpen_3 hl (by decide) rfl (fun ls hl => ?_)
  exact L5 FU z1 z2 (1 : Int32) z1 hf _ _ _ (lv_sub hl [2, 3, 4, 1, 0] rfl) hP hD hS
abbrev rm_M_isBlock : Room := { frames := 1, cells := 0, slots := 0, locals := 24 }
set_option maxHeartbeats 4000000 in
set_option maxRecDepth 100000 in
theorem kw_M_isBlock (l : Launch) (dC : Nat → ClassId) (dI : Nat → Nat → Nat) (r : Nat → Nat) (cI cZ : ClassId) (sz : Nat) (σ : MS) (z1 : Int32) (z2 : Int32) (v : Int32) (hf : mm_isBlock σ z1 z2 = some v) : Met l ny_M_isBlock nw_M_isBlock rm_M_isBlock (va_Pc [.ref (r 0), .int z1, .int z2] (pr_ (dC, dI) (wd_M r cI cZ) [(cI, .int), (cZ, .boolean)] sz σ)) (qi_ (dC, dI) (wd_M r cI cZ) [(cI, .int), (cZ, .boolean)] (va_A (wd_M r cI cZ σ) sz) v σ) 0 0 (va_A (wd_M r cI cZ σ) sz) := by
  refine Met.ofW (cc := nb_M_isBlock) (maxL := 3) (ret := (some .boolean)) (by decide) rfl ?_
  intro p e s m args below meth c s₁ B hml hv
  obtain ⟨rfl, hsz, hP, hK, hD0, hN⟩ := hv
  have hx := B.exec
  have hb := B.bytes
  have hr := B.returns
  have hts := atoms_spec (ws := nw_M_isBlock) B.pre
  have hB : ∀ w ∈ BG, w.before ([.ref (r 0), .int z1, .int z2] : List Value).toArray s = true := fun w h => hts w (List.mem_cons_of_mem _ h)
  have hown : s.vm.findClass "MovedFramesModel" = some m.cls := findClass_of_methodNamed B.named
  have hlocks := B.notSynchronized
  subst hsz
  have hD := hD0.self (sz := s.heap.size)
  generalize hAe : va_A (wd_M r cI cZ σ) s.heap.size = A at hD ⊢
  have hA : ∀ q : Nat, s.heap.size ≤ q → A q := fun q h => by rw [← hAe]; exact Or.inr h
  have hS : va_S A s.heap s.heap [] := va_S.rf
  have hl := lv_entry ([.ref (r 0), .int z1, .int z2]) (n := 3) (Nat.le_of_ble_eq_true rfl)
  rw [lg_entry_eq]
  generalize (lg_sl ([.ref (r 0), .int z1, .int z2]) ++ List.replicate (3 - (lg_sl ([.ref (r 0), .int z1, .int z2])).length) Slot.unset).toArray = ls at hl ⊢
  have hl : lv_has ls 3 [(0, .ref (r 0)), (1, .int z1), (2, .int z2)] := hl
  have hH : s.heap = s.heap := rfl
  unfold mm_isBlock at hf
  refine lv_aload_n hx hb nd_M_isBlock_0 rfl (lv_at hl 0 rfl) ?_
  refine lv_iload_n hx hb nd_M_isBlock_1 rfl (lv_at hl 1 rfl) ?_
  refine lv_iload_n hx hb nd_M_isBlock_2 rfl (lv_at hl 2 rfl) ?_
  obtain ⟨r1, hc, hf⟩ := mi_cp_el hf
  refine ca_i (va_runV (C := "MovedFramesModel") (As := [.int z1, .int z2]) (rest := []) ⟨hx, hb, hml, hown, hB⟩ (kw_M_isOpen l dC dI r cI cZ _ σ z1 z2 r1 hc) ⟨callB_of 2 hB (gi_ lk_697) rfl rfl rfl (hB _ lk_7) (hB _ lk_694) (by decide +kernel) ⟨Nat.le_of_ble_eq_true rfl, Nat.le_of_ble_eq_true rfl⟩, hB _ lk_696, hB _ ls_30⟩ ⟨bl_, va_recv (ci := 6) (q0 := 0) hK hP rfl rfl, pre_ hP hK hD hN⟩ rfl rfl hl.1 rfl (lv_room (Nat.le_of_ble_eq_true rfl)) nd_M_isBlock_3 ⟨Nat.zero_le _, Nat.zero_le _⟩) hD hS hA (fun H locs hP hD hS => ?_)
  refine lv_if_eq (tgt := 36) hx hb nd_M_isBlock_6 (by decide) (fun hc => ?_) (fun hc => ?_)
  · have hf := mi_if_t hc hf
    refine lv_iconst (v := 0) hx hb nd_M_isBlock_36 (by decide) ?_
    exact re_z hx hb hr hlocks (Or.inl rfl) (mi_eq hf) (rfl) hP hK hD hS nd_M_isBlock_37
  · have hf := mi_if_f hc hf
    refine lv_iload_n hx hb nd_M_isBlock_9 rfl (lv_at hl 2 rfl) ?_
    refine lv_bipush (v := 64) hx hb nd_M_isBlock_10 (by decide) ?_
    refine lv_icmp_eq (tgt := 32) hx hb nd_M_isBlock_12 (by decide) (fun hc => ?_) (fun hc => ?_)
    · have hf := mi_if_t hc hf
      refine lv_iconst (v := 1) hx hb nd_M_isBlock_32 (by decide) ?_
      refine lv_goto (tgt := 37) hx hb nd_M_isBlock_33 (by decide) ?_
      exact re_z hx hb hr hlocks (Or.inr rfl) (mi_eq hf) (rfl) hP hK hD hS nd_M_isBlock_37
    · have hf := mi_if_f hc hf
      refine lv_aload_n hx hb nd_M_isBlock_15 rfl (lv_at hl 0 rfl) ?_
      refine lv_iload_n hx hb nd_M_isBlock_16 rfl (lv_at hl 1 rfl) ?_
      refine lv_iload_n hx hb nd_M_isBlock_17 rfl (lv_at hl 1 rfl) ?_
      refine lv_iconst (v := 2) hx hb nd_M_isBlock_18 (by decide) ?_
      refine lv_iload_n hx hb nd_M_isBlock_19 rfl (lv_at hl 2 rfl) ?_
      refine lv_imul hx hb nd_M_isBlock_20 ?_
      obtain ⟨hg, hf⟩ := mi_gd_el hf
      refine lv_irem hx hb nd_M_isBlock_21 hg ?_
      refine lv_isub hx hb nd_M_isBlock_22 ?_
      refine lv_iconst (v := 2) hx hb nd_M_isBlock_23 (by decide) ?_
      refine lv_iload_n hx hb nd_M_isBlock_24 rfl (lv_at hl 2 rfl) ?_
      refine lv_imul hx hb nd_M_isBlock_25 ?_
      obtain ⟨r2, hc, hf⟩ := mi_cp_el hf
      refine ca_i (va_runV (C := "MovedFramesModel") (As := [.int (z1 - (z1 - z1 / ((2 : Int32) * z2) * ((2 : Int32) * z2))), .int ((2 : Int32) * z2)]) (rest := []) ⟨hx, hb, hml, hown, hB⟩ (kw_M_isOpen l dC dI r cI cZ _ σ (z1 - (z1 - z1 / ((2 : Int32) * z2) * ((2 : Int32) * z2))) ((2 : Int32) * z2) r2 hc) ⟨callB_of 2 hB (gi_ lk_697) rfl rfl rfl (hB _ lk_7) (hB _ lk_694) (by decide +kernel) ⟨Nat.le_of_ble_eq_true rfl, Nat.le_of_ble_eq_true rfl⟩, hB _ lk_696, hB _ ls_30⟩ ⟨bl_, va_recv (ci := 6) (q0 := 0) hK hP rfl rfl, pre_ hP hK hD hN⟩ rfl rfl hl.1 rfl (lv_room (Nat.le_of_ble_eq_true rfl)) nd_M_isBlock_26 ⟨Nat.zero_le _, Nat.zero_le _⟩) hD hS hA (fun H locs hP hD hS => ?_)
      refine lv_if_ne (tgt := 36) hx hb nd_M_isBlock_29 (by decide) (fun hc => ?_) (fun hc => ?_)
      · have hf := mi_if_f hc hf
        refine lv_iconst (v := 0) hx hb nd_M_isBlock_36 (by decide) ?_
        exact re_z hx hb hr hlocks (Or.inl rfl) (mi_eq hf) (rfl) hP hK hD hS nd_M_isBlock_37
      · have hf := mi_if_t hc hf
        refine lv_iconst (v := 1) hx hb nd_M_isBlock_32 (by decide) ?_
        refine lv_goto (tgt := 37) hx hb nd_M_isBlock_33 (by decide) ?_
        exact re_z hx hb hr hlocks (Or.inr rfl) (mi_eq hf) (rfl) hP hK hD hS nd_M_isBlock_37
abbrev rm_M_lowest : Room := { frames := 2, cells := 0, slots := 0, locals := 46 }
set_option maxHeartbeats 4000000 in
set_option maxRecDepth 100000 in
theorem kw_M_lowest (l : Launch) (dC : Nat → ClassId) (dI : Nat → Nat → Nat) (r : Nat → Nat) (cI cZ : ClassId) (sz : Nat) (σ : MS) (v : Int32) (hf : mm_lowest σ = some v) : Met l ny_M_lowest nw_M_lowest rm_M_lowest (va_Pc [.ref (r 0)] (pr_ (dC, dI) (wd_M r cI cZ) [(cI, .int), (cZ, .boolean)] sz σ)) (qi_ (dC, dI) (wd_M r cI cZ) [(cI, .int), (cZ, .boolean)] (va_A (wd_M r cI cZ σ) sz) v σ) 0 0 (va_A (wd_M r cI cZ σ) sz) := by
  refine Met.ofW (cc := nb_M_lowest) (maxL := 4) (ret := (some .int)) (by decide) rfl ?_
  intro p e s m args below meth c s₁ B hml hv
  obtain ⟨rfl, hsz, hP, hK, hD0, hN⟩ := hv
  have hx := B.exec
  have hb := B.bytes
  have hr := B.returns
  have hts := atoms_spec (ws := nw_M_lowest) B.pre
  have hB : ∀ w ∈ BG, w.before ([.ref (r 0)] : List Value).toArray s = true := fun w h => hts w (List.mem_cons_of_mem _ h)
  have hown : s.vm.findClass "MovedFramesModel" = some m.cls := findClass_of_methodNamed B.named
  have hlocks := B.notSynchronized
  subst hsz
  have hD := hD0.self (sz := s.heap.size)
  generalize hAe : va_A (wd_M r cI cZ σ) s.heap.size = A at hD ⊢
  have hA : ∀ q : Nat, s.heap.size ≤ q → A q := fun q h => by rw [← hAe]; exact Or.inr h
  have hS : va_S A s.heap s.heap [] := va_S.rf
  have hl := lv_entry ([.ref (r 0)]) (n := 4) (Nat.le_of_ble_eq_true rfl)
  rw [lg_entry_eq]
  generalize (lg_sl ([.ref (r 0)]) ++ List.replicate (4 - (lg_sl ([.ref (r 0)])).length) Slot.unset).toArray = ls at hl ⊢
  have hl : lv_has ls 4 [(0, .ref (r 0))] := hl
  have B37 : ∀ (k4 : Int32 → Int32 → MS → Option (Int32)) (hk4 : ∀ (x1 : Int32) (x2 : Int32), k4 x1 x2 σ = some v → bk_ p l e rm_M_lowest s m ([.ref (r 0)] : List Value).toArray below meth c (MQ below (qi_ (dC, dI) (wd_M r cI cZ) [(cI, .int), (cZ, .boolean)] A v σ) ([.ref (r 0)] : List Value).toArray s 0 0 A) A (dC, dI) (wd_M r cI cZ) 4 4 [(0, .ref (r 0)), (1, .int x1), (2, .int x2)] [] σ) (k19 : Int32 → Int32 → Int32 → MS → Option (Int32)) (hk19 : ∀ (x1 : Int32) (x2 : Int32) (x3 : Int32), k19 x1 x2 x3 σ = some v → bk_ p l e rm_M_lowest s m ([.ref (r 0)] : List Value).toArray below meth c (MQ below (qi_ (dC, dI) (wd_M r cI cZ) [(cI, .int), (cZ, .boolean)] A v σ) ([.ref (r 0)] : List Value).toArray s 0 0 A) A (dC, dI) (wd_M r cI cZ) 4 19 [(0, .ref (r 0)), (1, .int x1), (2, .int x2), (3, .int x3)] [] σ) (x2 : Int32) (x3 : Int32) (y0 : Int32), mm_lowest_b37 k4 k19 x2 x3 y0 σ = some v → bk_ p l e rm_M_lowest s m ([.ref (r 0)] : List Value).toArray below meth c (MQ below (qi_ (dC, dI) (wd_M r cI cZ) [(cI, .int), (cZ, .boolean)] A v σ) ([.ref (r 0)] : List Value).toArray s 0 0 A) A (dC, dI) (wd_M r cI cZ) 4 37 [(0, .ref (r 0)), (2, .int x2), (3, .int x3)] [.int y0] σ := by
    intro k4 hk4 k19 hk19 x2 x3 y0 hf ls H locs hl hP hD hS
    unfold mm_lowest_b37 at hf
    refine lv_istore_n (lv' := [(1, .int y0), (0, .ref (r 0)), (2, .int x2), (3, .int x3)]) hx hb nd_M_lowest_37 rfl hl (by decide) rfl (fun ls hl => ?_)
    refine lv_iload_n hx hb nd_M_lowest_38 rfl (lv_at hl 3 rfl) ?_
    refine lv_iload_n hx hb nd_M_lowest_39 rfl (lv_at hl 2 rfl) ?_
    refine lv_isub hx hb nd_M_lowest_40 ?_
    refine lv_istore_n (lv' := [(3, .int (x3 - x2)), (1, .int y0), (0, .ref (r 0)), (2, .int x2)]) hx hb nd_M_lowest_41 rfl hl (by decide) rfl (fun ls hl => ?_)
    refine lv_goto (tgt := 19) hx hb nd_M_lowest_42 (by decide) ?_
    exact hk19 y0 x2 (x3 - x2) hf _ _ _ (lv_sub hl [2, 1, 3, 0] rfl) hP hD hS
  have B19 : ∀ (k4 : Int32 → Int32 → MS → Option (Int32)) (hk4 : ∀ (x1 : Int32) (x2 : Int32), k4 x1 x2 σ = some v → bk_ p l e rm_M_lowest s m ([.ref (r 0)] : List Value).toArray below meth c (MQ below (qi_ (dC, dI) (wd_M r cI cZ) [(cI, .int), (cZ, .boolean)] A v σ) ([.ref (r 0)] : List Value).toArray s 0 0 A) A (dC, dI) (wd_M r cI cZ) 4 4 [(0, .ref (r 0)), (1, .int x1), (2, .int x2)] [] σ) (k19 : Int32 → Int32 → Int32 → MS → Option (Int32)) (hk19 : ∀ (x1 : Int32) (x2 : Int32) (x3 : Int32), k19 x1 x2 x3 σ = some v → bk_ p l e rm_M_lowest s m ([.ref (r 0)] : List Value).toArray below meth c (MQ below (qi_ (dC, dI) (wd_M r cI cZ) [(cI, .int), (cZ, .boolean)] A v σ) ([.ref (r 0)] : List Value).toArray s 0 0 A) A (dC, dI) (wd_M r cI cZ) 4 19 [(0, .ref (r 0)), (1, .int x1), (2, .int x2), (3, .int x3)] [] σ) (x1 : Int32) (x2 : Int32) (x3 : Int32), mm_lowest_b19 k4 k19 x1 x2 x3 σ = some v → bk_ p l e rm_M_lowest s m ([.ref (r 0)] : List Value).toArray below meth c (MQ below (qi_ (dC, dI) (wd_M r cI cZ) [(cI, .int), (cZ, .boolean)] A v σ) ([.ref (r 0)] : List Value).toArray s 0 0 A) A (dC, dI) (wd_M r cI cZ) 4 19 [(0, .ref (r 0)), (1, .int x1), (2, .int x2), (3, .int x3)] [] σ := by
    intro k4 hk4 k19 hk19 x1 x2 x3 hf ls H locs hl hP hD hS
    unfold mm_lowest_b19 at hf
    refine lv_iload_n hx hb nd_M_lowest_19 rfl (lv_at hl 3 rfl) ?_
    refine lv_if_lt (tgt := 45) hx hb nd_M_lowest_20 (by decide) (fun hc => ?_) (fun hc => ?_)
    · have hf := mi_if_t hc hf
      refine lv_iconst (v := 2) hx hb nd_M_lowest_45 (by decide) ?_
      refine lv_iload_n hx hb nd_M_lowest_46 rfl (lv_at hl 2 rfl) ?_
      refine lv_imul hx hb nd_M_lowest_47 ?_
      refine lv_istore_n (lv' := [(2, .int ((2 : Int32) * x2)), (0, .ref (r 0)), (1, .int x1), (3, .int x3)]) hx hb nd_M_lowest_48 rfl hl (by decide) rfl (fun ls hl => ?_)
      refine lv_goto (tgt := 4) hx hb nd_M_lowest_49 (by decide) ?_
      exact hk4 x1 ((2 : Int32) * x2) hf _ _ _ (lv_sub hl [1, 2, 0] rfl) hP hD hS
    · have hf := mi_if_f hc hf
      refine lv_aload_n hx hb nd_M_lowest_23 rfl (lv_at hl 0 rfl) ?_
      refine lv_iload_n hx hb nd_M_lowest_24 rfl (lv_at hl 3 rfl) ?_
      refine lv_iload_n hx hb nd_M_lowest_25 rfl (lv_at hl 2 rfl) ?_
      obtain ⟨r1, hc, hf⟩ := mi_cp_el hf
      refine ca_i (va_runV (C := "MovedFramesModel") (As := [.int x3, .int x2]) (rest := []) ⟨hx, hb, hml, hown, hB⟩ (kw_M_isBlock l dC dI r cI cZ _ σ x3 x2 r1 hc) ⟨callB_of 2 hB (gi_ lk_693) rfl rfl rfl (hB _ lk_7) (hB _ lk_690) (by decide +kernel) ⟨Nat.le_of_ble_eq_true rfl, Nat.le_of_ble_eq_true rfl⟩, hB _ lk_692, hB _ ls_29⟩ ⟨bl_, va_recv (ci := 6) (q0 := 0) hK hP rfl rfl, pre_ hP hK hD hN⟩ rfl rfl hl.1 rfl (lv_room (Nat.le_of_ble_eq_true rfl)) nd_M_lowest_26 ⟨Nat.zero_le _, Nat.zero_le _⟩) hD hS hA (fun H locs hP hD hS => ?_)
      refine lv_if_eq (tgt := 36) hx hb nd_M_lowest_29 (by decide) (fun hc => ?_) (fun hc => ?_)
      · have hf := mi_if_t hc hf
        refine lv_iload_n hx hb nd_M_lowest_36 rfl (lv_at hl 1 rfl) ?_
        exact B37 k4 hk4 k19 hk19 x2 x3 x1 hf _ _ _ (lv_sub hl [0, 2, 3] rfl) hP hD hS
      · have hf := mi_if_f hc hf
        refine lv_iload_n hx hb nd_M_lowest_32 rfl (lv_at hl 3 rfl) ?_
        refine lv_goto (tgt := 37) hx hb nd_M_lowest_33 (by decide) ?_
        exact B37 k4 hk4 k19 hk19 x2 x3 x3 hf _ _ _ (lv_sub hl [0, 2, 3] rfl) hP hD hS
  have L19 : ∀ (k4 : Int32 → Int32 → MS → Option (Int32)) (hk4 : ∀ (x1 : Int32) (x2 : Int32), k4 x1 x2 σ = some v → bk_ p l e rm_M_lowest s m ([.ref (r 0)] : List Value).toArray below meth c (MQ below (qi_ (dC, dI) (wd_M r cI cZ) [(cI, .int), (cZ, .boolean)] A v σ) ([.ref (r 0)] : List Value).toArray s 0 0 A) A (dC, dI) (wd_M r cI cZ) 4 4 [(0, .ref (r 0)), (1, .int x1), (2, .int x2)] [] σ) (n : Nat) (x1 : Int32) (x2 : Int32) (x3 : Int32), mm_lowest_l19 k4 n x1 x2 x3 σ = some v → bk_ p l e rm_M_lowest s m ([.ref (r 0)] : List Value).toArray below meth c (MQ below (qi_ (dC, dI) (wd_M r cI cZ) [(cI, .int), (cZ, .boolean)] A v σ) ([.ref (r 0)] : List Value).toArray s 0 0 A) A (dC, dI) (wd_M r cI cZ) 4 19 [(0, .ref (r 0)), (1, .int x1), (2, .int x2), (3, .int x3)] [] σ := by
    intro k4 hk4 n
    induction n with
    | zero =>
      intro x1 x2 x3 hf
      exact mi_no hf
    | succ n ih =>
      intro x1 x2 x3 hf
      exact B19 k4 hk4 (mm_lowest_l19 k4 n) ih x1 x2 x3 hf
  have B4 : ∀ (k4 : Int32 → Int32 → MS → Option (Int32)) (hk4 : ∀ (x1 : Int32) (x2 : Int32), k4 x1 x2 σ = some v → bk_ p l e rm_M_lowest s m ([.ref (r 0)] : List Value).toArray below meth c (MQ below (qi_ (dC, dI) (wd_M r cI cZ) [(cI, .int), (cZ, .boolean)] A v σ) ([.ref (r 0)] : List Value).toArray s 0 0 A) A (dC, dI) (wd_M r cI cZ) 4 4 [(0, .ref (r 0)), (1, .int x1), (2, .int x2)] [] σ) (x1 : Int32) (x2 : Int32), mm_lowest_b4 k4 x1 x2 σ = some v → bk_ p l e rm_M_lowest s m ([.ref (r 0)] : List Value).toArray below meth c (MQ below (qi_ (dC, dI) (wd_M r cI cZ) [(cI, .int), (cZ, .boolean)] A v σ) ([.ref (r 0)] : List Value).toArray s 0 0 A) A (dC, dI) (wd_M r cI cZ) 4 4 [(0, .ref (r 0)), (1, .int x1), (2, .int x2)] [] σ := by
    intro k4 hk4 x1 x2 hf ls H locs hl hP hD hS
    unfold mm_lowest_b4 at hf
    refine lv_iload_n hx hb nd_M_lowest_4 rfl (lv_at hl 2 rfl) ?_
    refine lv_bipush (v := 64) hx hb nd_M_lowest_5 (by decide) ?_
    refine lv_icmp_gt (tgt := 52) hx hb nd_M_lowest_7 (by decide) (fun hc => ?_) (fun hc => ?_)
    · have hf := mi_if_t hc hf
      refine lv_iload_n hx hb nd_M_lowest_52 rfl (lv_at hl 1 rfl) ?_
      exact re_i hx hb hr hlocks (mi_eq hf) (rfl) hP hK hD hS nd_M_lowest_53
    · have hf := mi_if_f hc hf
      refine lv_iload_n hx hb nd_M_lowest_10 rfl (lv_at hl 1 rfl) ?_
      refine lv_if_ge (tgt := 52) hx hb nd_M_lowest_11 (by decide) (fun hc => ?_) (fun hc => ?_)
      · have hf := mi_if_t hc hf
        refine lv_iload_n hx hb nd_M_lowest_52 rfl (lv_at hl 1 rfl) ?_
        exact re_i hx hb hr hlocks (mi_eq hf) (rfl) hP hK hD hS nd_M_lowest_53
      · have hf := mi_if_f hc hf
        refine lv_bipush (v := 64) hx hb nd_M_lowest_14 (by decide) ?_
        refine lv_iload_n hx hb nd_M_lowest_16 rfl (lv_at hl 2 rfl) ?_
        refine lv_isub hx hb nd_M_lowest_17 ?_
        refine lv_istore_n (lv' := [(3, .int ((64 : Int32) - x2)), (0, .ref (r 0)), (1, .int x1), (2, .int x2)]) hx hb nd_M_lowest_18 rfl hl (by decide) rfl (fun ls hl => ?_)
        exact L19 k4 hk4 FU x1 x2 ((64 : Int32) - x2) hf _ _ _ (lv_sub hl [1, 2, 3, 0] rfl) hP hD hS
  have L4 : ∀ (n : Nat) (x1 : Int32) (x2 : Int32), mm_lowest_l4 n x1 x2 σ = some v → bk_ p l e rm_M_lowest s m ([.ref (r 0)] : List Value).toArray below meth c (MQ below (qi_ (dC, dI) (wd_M r cI cZ) [(cI, .int), (cZ, .boolean)] A v σ) ([.ref (r 0)] : List Value).toArray s 0 0 A) A (dC, dI) (wd_M r cI cZ) 4 4 [(0, .ref (r 0)), (1, .int x1), (2, .int x2)] [] σ := by
    intro n
    induction n with
    | zero =>
      intro x1 x2 hf
      exact mi_no hf
    | succ n ih =>
      intro x1 x2 hf
      exact B4 (mm_lowest_l4 n) ih x1 x2 hf
  have hH : s.heap = s.heap := rfl
  unfold mm_lowest at hf
  refine lv_iconst (v := (-1)) hx hb nd_M_lowest_0 (by decide) ?_
  refine lv_istore_n (lv' := [(1, .int (-1 : Int32)), (0, .ref (r 0))]) hx hb nd_M_lowest_1 rfl hl (by decide) rfl (fun ls hl => ?_)
  refine lv_iconst (v := 1) hx hb nd_M_lowest_2 (by decide) ?_
  refine lv_istore_n (lv' := [(2, .int (1 : Int32)), (1, .int (-1 : Int32)), (0, .ref (r 0))]) hx hb nd_M_lowest_3 rfl hl (by decide) rfl (fun ls hl => ?_)
  exact L4 FU (-1 : Int32) (1 : Int32) hf _ _ _ (lv_sub hl [2, 1, 0] rfl) hP hD hS
abbrev rm_M_own : Room := { frames := 0, cells := 0, slots := 0, locals := 0 }
set_option maxHeartbeats 4000000 in
set_option maxRecDepth 100000 in
theorem kw_M_own (l : Launch) (dC : Nat → ClassId) (dI : Nat → Nat → Nat) (r : Nat → Nat) (cI cZ : ClassId) (sz : Nat) (σ : MS) (z1 : Int32) (z2 : Int32) (σ' : MS) (hf : mm_own σ z1 z2 = some σ') : Met l ny_M_own nw_M_own rm_M_own (va_Pc [.ref (r 0), .int z1, .int z2] (pr_ (dC, dI) (wd_M r cI cZ) [(cI, .int), (cZ, .boolean)] sz σ)) (qv_ (dC, dI) (wd_M r cI cZ) [(cI, .int), (cZ, .boolean)] (va_A (wd_M r cI cZ σ) sz) σ') 0 0 (va_A (wd_M r cI cZ σ) sz) := by
  refine Met.ofW (cc := nb_M_own) (maxL := 4) (ret := none) (by decide) rfl ?_
  intro p e s m args below meth c s₁ B hml hv
  obtain ⟨rfl, hsz, hP, hK, hD0, hN⟩ := hv
  have hx := B.exec
  have hb := B.bytes
  have hr := B.returns
  have hts := atoms_spec (ws := nw_M_own) B.pre
  have hB : ∀ w ∈ BG, w.before ([.ref (r 0), .int z1, .int z2] : List Value).toArray s = true := fun w h => hts w (List.mem_cons_of_mem _ h)
  have hown : s.vm.findClass "MovedFramesModel" = some m.cls := findClass_of_methodNamed B.named
  have hlocks := B.notSynchronized
  subst hsz
  have hD := hD0.self (sz := s.heap.size)
  generalize hAe : va_A (wd_M r cI cZ σ) s.heap.size = A at hD ⊢
  have hA : ∀ q : Nat, s.heap.size ≤ q → A q := fun q h => by rw [← hAe]; exact Or.inr h
  have hS : va_S A s.heap s.heap [] := va_S.rf
  have hl := lv_entry ([.ref (r 0), .int z1, .int z2]) (n := 4) (Nat.le_of_ble_eq_true rfl)
  rw [lg_entry_eq]
  generalize (lg_sl ([.ref (r 0), .int z1, .int z2]) ++ List.replicate (4 - (lg_sl ([.ref (r 0), .int z1, .int z2])).length) Slot.unset).toArray = ls at hl ⊢
  have hl : lv_has ls 4 [(0, .ref (r 0)), (1, .int z1), (2, .int z2)] := hl
  have B9 : ∀ (k9 : Int32 → Int32 → MS → Option (MS)) (hk9 : ∀ (x1 : Int32) (x3 : Int32) (σ : MS), k9 x1 x3 σ = some σ' → bk_ p l e rm_M_own s m ([.ref (r 0), .int z1, .int z2] : List Value).toArray below meth c (MQ below (qv_ (dC, dI) (wd_M r cI cZ) [(cI, .int), (cZ, .boolean)] A σ') ([.ref (r 0), .int z1, .int z2] : List Value).toArray s 0 0 A) A (dC, dI) (wd_M r cI cZ) 4 9 [(0, .ref (r 0)), (1, .int x1), (3, .int x3)] [] σ) (x1 : Int32) (x3 : Int32) (σ : MS), mm_own_b9 k9 x1 x3 σ = some σ' → bk_ p l e rm_M_own s m ([.ref (r 0), .int z1, .int z2] : List Value).toArray below meth c (MQ below (qv_ (dC, dI) (wd_M r cI cZ) [(cI, .int), (cZ, .boolean)] A σ') ([.ref (r 0), .int z1, .int z2] : List Value).toArray s 0 0 A) A (dC, dI) (wd_M r cI cZ) 4 9 [(0, .ref (r 0)), (1, .int x1), (3, .int x3)] [] σ := by
    intro k9 hk9 x1 x3 σ hf ls H locs hl hP hD hS
    unfold mm_own_b9 at hf
    refine lv_iload_n hx hb nd_M_own_9 rfl (lv_at hl 2 rfl) ?_
    refine lv_bipush (v := 16) hx hb nd_M_own_10 (by decide) ?_
    refine lv_icmp_ge (tgt := 33) hx hb nd_M_own_12 (by decide) (fun hc => ?_) (fun hc => ?_)
    · have hf := mi_if_t hc hf
      exact re_v hx hb hr hlocks (mi_eq hf) hP hK hD hS nd_M_own_33
    · have hf := mi_if_f hc hf
      refine lv_aload_n hx hb nd_M_own_15 rfl (lv_at hl 0 rfl) ?_
      refine va_get (D := (dC, dI)) (ci := 6) (v := .ref (r 2)) (C := RX6) (T := TX6) (N := 11) hx hb hB inB6 hown hK hP 0 rfl rfl 2 (by decide) (hB _ lk_631) (fun _ h9 => h9) rfl nd_M_own_16 ?_
      refine lv_bipush (v := 16) hx hb nd_M_own_19 (by decide) ?_
      refine lv_iload_n hx hb nd_M_own_21 rfl (lv_at hl 1 rfl) ?_
      refine lv_imul hx hb nd_M_own_22 ?_
      refine lv_iload_n hx hb nd_M_own_23 rfl (lv_at hl 2 rfl) ?_
      refine lv_iadd hx hb nd_M_own_24 ?_
      refine lv_iconst (v := 0) hx hb nd_M_own_25 (by decide) ?_
      obtain ⟨hg, hf⟩ := mi_gd_el hf
      refine va_iast hx hb hK hP hD hS 2 0 rfl rfl hg nd_M_own_26 (fun H locs hP hD hS => ?_)
      obtain ⟨σ2, e9, hf⟩ := mi_wr_ex hf
      have hP : va_P (dC, dI) vwCl (wd_M r cI cZ σ2) H := by rw [e9]; exact hP
      have hD : va_D A (wd_M r cI cZ σ2) := by rw [e9]; exact hD
      refine lv_iinc (k := 2) (v := x3 + (1 : Int32)) (lv' := [(3, .int (x3 + (1 : Int32))), (0, .ref (r 0)), (1, .int x1)]) hx hb nd_M_own_27 hl rfl (congrArg (fun z => x3 + z) (by decide : Int32.ofInt 1 = (1 : Int32))) (by decide) rfl (fun ls hl => ?_)
      refine lv_goto (tgt := 9) hx hb nd_M_own_30 (by decide) ?_
      exact hk9 x1 (x3 + (1 : Int32)) σ2 hf _ _ _ (lv_sub hl [1, 2, 0] rfl) hP hD hS
  have L9 : ∀ (n : Nat) (x1 : Int32) (x3 : Int32) (σ : MS), mm_own_l9 n x1 x3 σ = some σ' → bk_ p l e rm_M_own s m ([.ref (r 0), .int z1, .int z2] : List Value).toArray below meth c (MQ below (qv_ (dC, dI) (wd_M r cI cZ) [(cI, .int), (cZ, .boolean)] A σ') ([.ref (r 0), .int z1, .int z2] : List Value).toArray s 0 0 A) A (dC, dI) (wd_M r cI cZ) 4 9 [(0, .ref (r 0)), (1, .int x1), (3, .int x3)] [] σ := by
    intro n
    induction n with
    | zero =>
      intro x1 x3 σ hf
      exact mi_no hf
    | succ n ih =>
      intro x1 x3 σ hf
      exact B9 (mm_own_l9 n) ih x1 x3 σ hf
  have hH : s.heap = s.heap := rfl
  unfold mm_own at hf
  refine lv_aload_n hx hb nd_M_own_0 rfl (lv_at hl 0 rfl) ?_
  refine va_get (D := (dC, dI)) (ci := 6) (v := .ref (r 1)) (C := RX6) (T := TX6) (N := 11) hx hb hB inB6 hown hK hP 0 rfl rfl 1 (by decide) (hB _ lk_630) (fun _ h9 => h9) rfl nd_M_own_1 ?_
  refine lv_iload_n hx hb nd_M_own_4 rfl (lv_at hl 1 rfl) ?_
  refine lv_iload_n hx hb nd_M_own_5 rfl (lv_at hl 2 rfl) ?_
  obtain ⟨hg, hf⟩ := mi_gd_el hf
  refine va_iast hx hb hK hP hD hS 1 0 rfl rfl hg nd_M_own_6 (fun H locs hP hD hS => ?_)
  obtain ⟨σ1, e9, hf⟩ := mi_wr_ex hf
  have hP : va_P (dC, dI) vwCl (wd_M r cI cZ σ1) H := by rw [e9]; exact hP
  have hD : va_D A (wd_M r cI cZ σ1) := by rw [e9]; exact hD
  refine lv_iconst (v := 0) hx hb nd_M_own_7 (by decide) ?_
  refine lv_istore_n (lv' := [(3, .int (0 : Int32)), (0, .ref (r 0)), (1, .int z1), (2, .int z2)]) hx hb nd_M_own_8 rfl hl (by decide) rfl (fun ls hl => ?_)
  exact L9 FU z1 (0 : Int32) σ1 hf _ _ _ (lv_sub hl [1, 2, 0] rfl) hP hD hS
abbrev rm_M_give : Room := { frames := 3, cells := 0, slots := 0, locals := 69 }
set_option maxHeartbeats 4000000 in
set_option maxRecDepth 100000 in
theorem kw_M_give (l : Launch) (dC : Nat → ClassId) (dI : Nat → Nat → Nat) (r : Nat → Nat) (cI cZ : ClassId) (sz : Nat) (σ : MS) (z1 : Int32) (v : Int32) (σ' : MS) (hf : mm_give σ z1 = some (v, σ')) : Met l ny_M_give nw_M_give rm_M_give (va_Pc [.ref (r 0), .int z1] (pr_ (dC, dI) (wd_M r cI cZ) [(cI, .int), (cZ, .boolean)] sz σ)) (qi_ (dC, dI) (wd_M r cI cZ) [(cI, .int), (cZ, .boolean)] (va_A (wd_M r cI cZ σ) sz) v σ') 0 0 (va_A (wd_M r cI cZ σ) sz) := by
  refine Met.ofW (cc := nb_M_give) (maxL := 3) (ret := (some .int)) (by decide) rfl ?_
  intro p e s m args below meth c s₁ B hml hv
  obtain ⟨rfl, hsz, hP, hK, hD0, hN⟩ := hv
  have hx := B.exec
  have hb := B.bytes
  have hr := B.returns
  have hts := atoms_spec (ws := nw_M_give) B.pre
  have hB : ∀ w ∈ BG, w.before ([.ref (r 0), .int z1] : List Value).toArray s = true := fun w h => hts w (List.mem_cons_of_mem _ h)
  have hown : s.vm.findClass "MovedFramesModel" = some m.cls := findClass_of_methodNamed B.named
  have hlocks := B.notSynchronized
  subst hsz
  have hD := hD0.self (sz := s.heap.size)
  generalize hAe : va_A (wd_M r cI cZ σ) s.heap.size = A at hD ⊢
  have hA : ∀ q : Nat, s.heap.size ≤ q → A q := fun q h => by rw [← hAe]; exact Or.inr h
  have hS : va_S A s.heap s.heap [] := va_S.rf
  have hl := lv_entry ([.ref (r 0), .int z1]) (n := 3) (Nat.le_of_ble_eq_true rfl)
  rw [lg_entry_eq]
  generalize (lg_sl ([.ref (r 0), .int z1]) ++ List.replicate (3 - (lg_sl ([.ref (r 0), .int z1])).length) Slot.unset).toArray = ls at hl ⊢
  have hl : lv_has ls 3 [(0, .ref (r 0)), (1, .int z1)] := hl
  have hH : s.heap = s.heap := rfl
  unfold mm_give at hf
  refine lv_aload_n hx hb nd_M_give_0 rfl (lv_at hl 0 rfl) ?_
  obtain ⟨r1, hc, hf⟩ := mi_cp_el hf
  refine ca_i (va_runV (C := "MovedFramesModel") (As := []) (rest := []) ⟨hx, hb, hml, hown, hB⟩ (kw_M_lowest l dC dI r cI cZ _ σ r1 hc) ⟨callB_of 0 hB (gi_ lk_689) rfl rfl rfl (hB _ lk_7) (hB _ lk_686) (by decide +kernel) ⟨Nat.le_of_ble_eq_true rfl, Nat.le_of_ble_eq_true rfl⟩, hB _ lk_688, hB _ ls_28⟩ ⟨bl_, va_recv (ci := 6) (q0 := 0) hK hP rfl rfl, pre_ hP hK hD hN⟩ rfl rfl hl.1 rfl (lv_room (Nat.le_of_ble_eq_true rfl)) nd_M_give_1 ⟨Nat.zero_le _, Nat.zero_le _⟩) hD hS hA (fun H locs hP hD hS => ?_)
  refine lv_istore_n (lv' := [(2, .int r1), (0, .ref (r 0)), (1, .int z1)]) hx hb nd_M_give_4 rfl hl (by decide) rfl (fun ls hl => ?_)
  refine lv_aload_n hx hb nd_M_give_5 rfl (lv_at hl 1 rfl) ?_
  refine lv_iload_n hx hb nd_M_give_6 rfl (lv_at hl 0 rfl) ?_
  refine lv_iload_n hx hb nd_M_give_7 rfl (lv_at hl 2 rfl) ?_
  obtain ⟨σ2, hc, hf⟩ := mi_cv_el hf
  refine ca_v (va_runV (C := "MovedFramesModel") (As := [.int r1, .int z1]) (rest := []) ⟨hx, hb, hml, hown, hB⟩ (kw_M_own l dC dI r cI cZ _ σ r1 z1 σ2 hc) ⟨callB_of 2 hB (gi_ lk_701) rfl rfl rfl (hB _ lk_7) (hB _ lk_698) (by decide +kernel) ⟨Nat.le_of_ble_eq_true rfl, Nat.le_of_ble_eq_true rfl⟩, hB _ lk_700, hB _ ls_31⟩ ⟨bl_, va_recv (ci := 6) (q0 := 0) hK hP rfl rfl, pre_ hP hK hD hN⟩ rfl rfl hl.1 rfl (lv_room (Nat.le_of_ble_eq_true rfl)) nd_M_give_8 ⟨Nat.zero_le _, Nat.zero_le _⟩) hD hS hA (fun H locs hP hD hS => ?_)
  refine lv_iload_n hx hb nd_M_give_11 rfl (lv_at hl 0 rfl) ?_
  exact re_i hx hb hr hlocks ((mi_pr hf).1) ((mi_pr hf).2) hP hK hD hS nd_M_give_12
abbrev rm_M_kmalloc : Room := { frames := 4, cells := 0, slots := 0, locals := 91 }
set_option maxHeartbeats 4000000 in
set_option maxRecDepth 100000 in
theorem kw_M_kmalloc (l : Launch) (dC : Nat → ClassId) (dI : Nat → Nat → Nat) (r : Nat → Nat) (cI cZ : ClassId) (sz : Nat) (σ : MS) (z1 : Int32) (v : Int32) (σ' : MS) (hf : mm_kmalloc σ z1 = some (v, σ')) : Met l ny_M_kmalloc nw_M_kmalloc rm_M_kmalloc (va_Pc [.ref (r 0), .int z1] (pr_ (dC, dI) (wd_M r cI cZ) [(cI, .int), (cZ, .boolean)] sz σ)) (qi_ (dC, dI) (wd_M r cI cZ) [(cI, .int), (cZ, .boolean)] (va_A (wd_M r cI cZ σ) sz) v σ') 0 0 (va_A (wd_M r cI cZ σ) sz) := by
  refine Met.ofW (cc := nb_M_kmalloc) (maxL := 7) (ret := (some .int)) (by decide) rfl ?_
  intro p e s m args below meth c s₁ B hml hv
  obtain ⟨rfl, hsz, hP, hK, hD0, hN⟩ := hv
  have hx := B.exec
  have hb := B.bytes
  have hr := B.returns
  have hts := atoms_spec (ws := nw_M_kmalloc) B.pre
  have hB : ∀ w ∈ BG, w.before ([.ref (r 0), .int z1] : List Value).toArray s = true := fun w h => hts w (List.mem_cons_of_mem _ h)
  have hown : s.vm.findClass "MovedFramesModel" = some m.cls := findClass_of_methodNamed B.named
  have hlocks := B.notSynchronized
  subst hsz
  have hD := hD0.self (sz := s.heap.size)
  generalize hAe : va_A (wd_M r cI cZ σ) s.heap.size = A at hD ⊢
  have hA : ∀ q : Nat, s.heap.size ≤ q → A q := fun q h => by rw [← hAe]; exact Or.inr h
  have hS : va_S A s.heap s.heap [] := va_S.rf
  have hl := lv_entry ([.ref (r 0), .int z1]) (n := 7) (Nat.le_of_ble_eq_true rfl)
  rw [lg_entry_eq]
  generalize (lg_sl ([.ref (r 0), .int z1]) ++ List.replicate (7 - (lg_sl ([.ref (r 0), .int z1])).length) Slot.unset).toArray = ls at hl ⊢
  have hl : lv_has ls 7 [(0, .ref (r 0)), (1, .int z1)] := hl
  have B206 : ∀ (k206 : Int32 → Int32 → Int32 → MS → Option (Int32 × MS)) (hk206 : ∀ (x2 : Int32) (x5 : Int32) (x6 : Int32) (σ : MS), k206 x2 x5 x6 σ = some (v, σ') → bk_ p l e rm_M_kmalloc s m ([.ref (r 0), .int z1] : List Value).toArray below meth c (MQ below (qi_ (dC, dI) (wd_M r cI cZ) [(cI, .int), (cZ, .boolean)] A v σ') ([.ref (r 0), .int z1] : List Value).toArray s 0 0 A) A (dC, dI) (wd_M r cI cZ) 7 206 [(0, .ref (r 0)), (2, .int x2), (5, .int x5), (6, .int x6)] [] σ) (x2 : Int32) (x5 : Int32) (x6 : Int32) (σ : MS), mm_kmalloc_b206 k206 x2 x5 x6 σ = some (v, σ') → bk_ p l e rm_M_kmalloc s m ([.ref (r 0), .int z1] : List Value).toArray below meth c (MQ below (qi_ (dC, dI) (wd_M r cI cZ) [(cI, .int), (cZ, .boolean)] A v σ') ([.ref (r 0), .int z1] : List Value).toArray s 0 0 A) A (dC, dI) (wd_M r cI cZ) 7 206 [(0, .ref (r 0)), (2, .int x2), (5, .int x5), (6, .int x6)] [] σ := by
    intro k206 hk206 x2 x5 x6 σ hf ls H locs hl hP hD hS
    unfold mm_kmalloc_b206 at hf
    refine lv_iload hx hb nd_M_kmalloc_206 (lv_at hl 3 rfl) ?_
    refine lv_iload_n hx hb nd_M_kmalloc_208 rfl (lv_at hl 1 rfl) ?_
    refine lv_icmp_ge (tgt := 229) hx hb nd_M_kmalloc_209 (by decide) (fun hc => ?_) (fun hc => ?_)
    · have hf := mi_if_t hc hf
      refine lv_iload hx hb nd_M_kmalloc_229 (lv_at hl 2 rfl) ?_
      exact re_i hx hb hr hlocks ((mi_pr hf).1) ((mi_pr hf).2) hP hK hD hS nd_M_kmalloc_231
    · have hf := mi_if_f hc hf
      refine lv_aload_n hx hb nd_M_kmalloc_212 rfl (lv_at hl 0 rfl) ?_
      refine va_get (D := (dC, dI)) (ci := 6) (v := .ref (r 2)) (C := RX6) (T := TX6) (N := 11) hx hb hB inB6 hown hK hP 0 rfl rfl 2 (by decide) (hB _ lk_631) (fun _ h9 => h9) rfl nd_M_kmalloc_213 ?_
      refine lv_iload hx hb nd_M_kmalloc_216 (lv_at hl 2 rfl) ?_
      refine lv_iload hx hb nd_M_kmalloc_218 (lv_at hl 3 rfl) ?_
      refine lv_iadd hx hb nd_M_kmalloc_220 ?_
      refine lv_iconst (v := 0) hx hb nd_M_kmalloc_221 (by decide) ?_
      obtain ⟨hg, hf⟩ := mi_gd_el hf
      refine va_iast hx hb hK hP hD hS 2 0 rfl rfl hg nd_M_kmalloc_222 (fun H locs hP hD hS => ?_)
      obtain ⟨σ5, e9, hf⟩ := mi_wr_ex hf
      have hP : va_P (dC, dI) vwCl (wd_M r cI cZ σ5) H := by rw [e9]; exact hP
      have hD : va_D A (wd_M r cI cZ σ5) := by rw [e9]; exact hD
      refine lv_iinc (k := 3) (v := x6 + (1 : Int32)) (lv' := [(6, .int (x6 + (1 : Int32))), (0, .ref (r 0)), (2, .int x2), (5, .int x5)]) hx hb nd_M_kmalloc_223 hl rfl (congrArg (fun z => x6 + z) (by decide : Int32.ofInt 1 = (1 : Int32))) (by decide) rfl (fun ls hl => ?_)
      refine lv_goto (tgt := 206) hx hb nd_M_kmalloc_226 (by decide) ?_
      exact hk206 x2 x5 (x6 + (1 : Int32)) σ5 hf _ _ _ (lv_sub hl [1, 2, 3, 0] rfl) hP hD hS
  have L206 : ∀ (n : Nat) (x2 : Int32) (x5 : Int32) (x6 : Int32) (σ : MS), mm_kmalloc_l206 n x2 x5 x6 σ = some (v, σ') → bk_ p l e rm_M_kmalloc s m ([.ref (r 0), .int z1] : List Value).toArray below meth c (MQ below (qi_ (dC, dI) (wd_M r cI cZ) [(cI, .int), (cZ, .boolean)] A v σ') ([.ref (r 0), .int z1] : List Value).toArray s 0 0 A) A (dC, dI) (wd_M r cI cZ) 7 206 [(0, .ref (r 0)), (2, .int x2), (5, .int x5), (6, .int x6)] [] σ := by
    intro n
    induction n with
    | zero =>
      intro x2 x5 x6 σ hf
      exact mi_no hf
    | succ n ih =>
      intro x2 x5 x6 σ hf
      exact B206 (mm_kmalloc_l206 n) ih x2 x5 x6 σ hf
  have B175 : ∀ (x2 : Int32) (x3 : Int32) (x4 : Int32) (σ : MS), mm_kmalloc_b175 x2 x3 x4 σ = some (v, σ') → bk_ p l e rm_M_kmalloc s m ([.ref (r 0), .int z1] : List Value).toArray below meth c (MQ below (qi_ (dC, dI) (wd_M r cI cZ) [(cI, .int), (cZ, .boolean)] A v σ') ([.ref (r 0), .int z1] : List Value).toArray s 0 0 A) A (dC, dI) (wd_M r cI cZ) 7 175 [(0, .ref (r 0)), (2, .int x2), (3, .int x3), (4, .int x4)] [] σ := by
    intro x2 x3 x4 σ hf ls H locs hl hP hD hS
    unfold mm_kmalloc_b175 at hf
    refine lv_aload_n hx hb nd_M_kmalloc_175 rfl (lv_at hl 0 rfl) ?_
    refine va_get (D := (dC, dI)) (ci := 6) (v := .ref (r 4)) (C := RX6) (T := TX6) (N := 11) hx hb hB inB6 hown hK hP 0 rfl rfl 4 (by decide) (hB _ lk_633) (fun _ h9 => h9) rfl nd_M_kmalloc_176 ?_
    refine lv_iload_n hx hb nd_M_kmalloc_179 rfl (lv_at hl 2 rfl) ?_
    refine lv_aload_n hx hb nd_M_kmalloc_180 rfl (lv_at hl 0 rfl) ?_
    refine va_get (D := (dC, dI)) (ci := 6) (v := .ref (r 4)) (C := RX6) (T := TX6) (N := 11) hx hb hB inB6 hown hK hP 0 rfl rfl 4 (by decide) (hB _ lk_633) (fun _ h9 => h9) rfl nd_M_kmalloc_181 ?_
    refine lv_iload_n hx hb nd_M_kmalloc_184 rfl (lv_at hl 2 rfl) ?_
    obtain ⟨hg, hf⟩ := mi_gd_el hf
    refine va_iald hx hb hK hP 4 0 rfl rfl hg nd_M_kmalloc_185 ?_
    refine lv_iconst (v := 1) hx hb nd_M_kmalloc_186 (by decide) ?_
    refine lv_iload hx hb nd_M_kmalloc_187 (lv_at hl 3 rfl) ?_
    refine lv_ishl hx hb nd_M_kmalloc_189 ?_
    refine lv_ior hx hb nd_M_kmalloc_190 ?_
    obtain ⟨hg, hf⟩ := mi_gd_el hf
    refine va_iast hx hb hK hP hD hS 4 0 rfl rfl hg nd_M_kmalloc_191 (fun H locs hP hD hS => ?_)
    obtain ⟨σ4, e9, hf⟩ := mi_wr_ex hf
    have hP : va_P (dC, dI) vwCl (wd_M r cI cZ σ4) H := by rw [e9]; exact hP
    have hD : va_D A (wd_M r cI cZ σ4) := by rw [e9]; exact hD
    refine lv_bipush (v := 16) hx hb nd_M_kmalloc_192 (by decide) ?_
    refine lv_iload_n hx hb nd_M_kmalloc_194 rfl (lv_at hl 2 rfl) ?_
    refine lv_imul hx hb nd_M_kmalloc_195 ?_
    refine lv_iload_n hx hb nd_M_kmalloc_196 rfl (lv_at hl 1 rfl) ?_
    refine lv_iload hx hb nd_M_kmalloc_197 (lv_at hl 3 rfl) ?_
    refine lv_imul hx hb nd_M_kmalloc_199 ?_
    refine lv_iadd hx hb nd_M_kmalloc_200 ?_
    refine lv_istore (lv' := [(5, .int (((16 : Int32) * x3) + (x2 * x4))), (0, .ref (r 0)), (2, .int x2), (3, .int x3), (4, .int x4)]) hx hb nd_M_kmalloc_201 hl (by decide) rfl (fun ls hl => ?_)
    refine lv_iconst (v := 0) hx hb nd_M_kmalloc_203 (by decide) ?_
    refine lv_istore (lv' := [(6, .int (0 : Int32)), (5, .int (((16 : Int32) * x3) + (x2 * x4))), (0, .ref (r 0)), (2, .int x2), (3, .int x3), (4, .int x4)]) hx hb nd_M_kmalloc_204 hl (by decide) rfl (fun ls hl => ?_)
    exact L206 FU x2 (((16 : Int32) * x3) + (x2 * x4)) (0 : Int32) σ4 hf _ _ _ (lv_sub hl [2, 3, 1, 0] rfl) hP hD hS
  have B151 : ∀ (k151 : Int32 → Int32 → Int32 → MS → Option (Int32 × MS)) (hk151 : ∀ (x2 : Int32) (x3 : Int32) (x4 : Int32) (σ : MS), k151 x2 x3 x4 σ = some (v, σ') → bk_ p l e rm_M_kmalloc s m ([.ref (r 0), .int z1] : List Value).toArray below meth c (MQ below (qi_ (dC, dI) (wd_M r cI cZ) [(cI, .int), (cZ, .boolean)] A v σ') ([.ref (r 0), .int z1] : List Value).toArray s 0 0 A) A (dC, dI) (wd_M r cI cZ) 7 151 [(0, .ref (r 0)), (2, .int x2), (3, .int x3), (4, .int x4)] [] σ) (x2 : Int32) (x3 : Int32) (x4 : Int32) (σ : MS), mm_kmalloc_b151 k151 x2 x3 x4 σ = some (v, σ') → bk_ p l e rm_M_kmalloc s m ([.ref (r 0), .int z1] : List Value).toArray below meth c (MQ below (qi_ (dC, dI) (wd_M r cI cZ) [(cI, .int), (cZ, .boolean)] A v σ') ([.ref (r 0), .int z1] : List Value).toArray s 0 0 A) A (dC, dI) (wd_M r cI cZ) 7 151 [(0, .ref (r 0)), (2, .int x2), (3, .int x3), (4, .int x4)] [] σ := by
    intro k151 hk151 x2 x3 x4 σ hf ls H locs hl hP hD hS
    unfold mm_kmalloc_b151 at hf
    refine lv_aload_n hx hb nd_M_kmalloc_151 rfl (lv_at hl 0 rfl) ?_
    refine va_get (D := (dC, dI)) (ci := 6) (v := .ref (r 4)) (C := RX6) (T := TX6) (N := 11) hx hb hB inB6 hown hK hP 0 rfl rfl 4 (by decide) (hB _ lk_633) (fun _ h9 => h9) rfl nd_M_kmalloc_152 ?_
    refine lv_iload_n hx hb nd_M_kmalloc_155 rfl (lv_at hl 2 rfl) ?_
    obtain ⟨hg, hf⟩ := mi_gd_el hf
    refine va_iald hx hb hK hP 4 0 rfl rfl hg nd_M_kmalloc_156 ?_
    refine lv_iload hx hb nd_M_kmalloc_157 (lv_at hl 3 rfl) ?_
    refine lv_ishr hx hb nd_M_kmalloc_159 ?_
    refine lv_iconst (v := 1) hx hb nd_M_kmalloc_160 (by decide) ?_
    refine lv_iand hx hb nd_M_kmalloc_161 ?_
    refine lv_iconst (v := 1) hx hb nd_M_kmalloc_162 (by decide) ?_
    refine lv_icmp_ne (tgt := 175) hx hb nd_M_kmalloc_163 (by decide) (fun hc => ?_) (fun hc => ?_)
    · have hf := mi_if_f hc hf
      exact B175 x2 x3 x4 σ hf _ _ _ (lv_sub hl [0, 1, 2, 3] rfl) hP hD hS
    · have hf := mi_if_t hc hf
      refine lv_iload hx hb nd_M_kmalloc_166 (lv_at hl 3 rfl) ?_
      refine lv_iconst (v := 1) hx hb nd_M_kmalloc_168 (by decide) ?_
      refine lv_iadd hx hb nd_M_kmalloc_169 ?_
      refine lv_istore (lv' := [(4, .int (x4 + (1 : Int32))), (0, .ref (r 0)), (2, .int x2), (3, .int x3)]) hx hb nd_M_kmalloc_170 hl (by decide) rfl (fun ls hl => ?_)
      refine lv_goto (tgt := 151) hx hb nd_M_kmalloc_172 (by decide) ?_
      exact hk151 x2 x3 (x4 + (1 : Int32)) σ hf _ _ _ (lv_sub hl [1, 2, 3, 0] rfl) hP hD hS
  have L151 : ∀ (n : Nat) (x2 : Int32) (x3 : Int32) (x4 : Int32) (σ : MS), mm_kmalloc_l151 n x2 x3 x4 σ = some (v, σ') → bk_ p l e rm_M_kmalloc s m ([.ref (r 0), .int z1] : List Value).toArray below meth c (MQ below (qi_ (dC, dI) (wd_M r cI cZ) [(cI, .int), (cZ, .boolean)] A v σ') ([.ref (r 0), .int z1] : List Value).toArray s 0 0 A) A (dC, dI) (wd_M r cI cZ) 7 151 [(0, .ref (r 0)), (2, .int x2), (3, .int x3), (4, .int x4)] [] σ := by
    intro n
    induction n with
    | zero =>
      intro x2 x3 x4 σ hf
      exact mi_no hf
    | succ n ih =>
      intro x2 x3 x4 σ hf
      exact B151 (mm_kmalloc_l151 n) ih x2 x3 x4 σ hf
  have B116 : ∀ (x2 : Int32) (x3 : Int32) (y1 : Int32) (σ : MS), mm_kmalloc_b116 x2 x3 y1 σ = some (v, σ') → bk_ p l e rm_M_kmalloc s m ([.ref (r 0), .int z1] : List Value).toArray below meth c (MQ below (qi_ (dC, dI) (wd_M r cI cZ) [(cI, .int), (cZ, .boolean)] A v σ') ([.ref (r 0), .int z1] : List Value).toArray s 0 0 A) A (dC, dI) (wd_M r cI cZ) 7 116 [(0, .ref (r 0)), (2, .int x2), (3, .int x3)] [.int y1, .ref (r 0)] σ := by
    intro x2 x3 y1 σ hf ls H locs hl hP hD hS
    unfold mm_kmalloc_b116 at hf
    obtain ⟨r3, σ2, hc, hf⟩ := mi_cw_el hf
    refine ca_i (va_runV (C := "MovedFramesModel") (As := [.int y1]) (rest := []) ⟨hx, hb, hml, hown, hB⟩ (kw_M_throwsBy l dC dI r cI cZ _ σ y1 r3 σ2 hc) ⟨callB_of 1 hB (gi_ lk_681) rfl rfl rfl (hB _ lk_7) (hB _ lk_678) (by decide +kernel) ⟨Nat.le_of_ble_eq_true rfl, Nat.le_of_ble_eq_true rfl⟩, hB _ lk_680, hB _ ls_26⟩ ⟨bl_, va_recv (ci := 6) (q0 := 0) hK hP rfl rfl, pre_ hP hK hD hN⟩ rfl rfl hl.1 rfl (lv_room (Nat.le_of_ble_eq_true rfl)) nd_M_kmalloc_116 ⟨Nat.zero_le _, Nat.zero_le _⟩) hD hS hA (fun H locs hP hD hS => ?_)
    refine lv_if_eq (tgt := 124) hx hb nd_M_kmalloc_119 (by decide) (fun hc => ?_) (fun hc => ?_)
    · have hf := mi_if_t hc hf
      refine lv_iload_n hx hb nd_M_kmalloc_124 rfl (lv_at hl 2 rfl) ?_
      refine lv_if_ge (tgt := 148) hx hb nd_M_kmalloc_125 (by decide) (fun hc => ?_) (fun hc => ?_)
      · have hf := mi_if_t hc hf
        refine lv_iconst (v := 0) hx hb nd_M_kmalloc_148 (by decide) ?_
        refine lv_istore (lv' := [(4, .int (0 : Int32)), (0, .ref (r 0)), (2, .int x2), (3, .int x3)]) hx hb nd_M_kmalloc_149 hl (by decide) rfl (fun ls hl => ?_)
        exact L151 FU x2 x3 (0 : Int32) σ2 hf _ _ _ (lv_sub hl [1, 2, 3, 0] rfl) hP hD hS
      · have hf := mi_if_f hc hf
        refine lv_aload_n hx hb nd_M_kmalloc_128 rfl (lv_at hl 0 rfl) ?_
        refine lv_iconst (v := 2) hx hb nd_M_kmalloc_129 (by decide) ?_
        obtain ⟨r7, σ6, hc, hf⟩ := mi_cw_el hf
        refine ca_i (va_runV (C := "MovedFramesModel") (As := [.int (2 : Int32)]) (rest := []) ⟨hx, hb, hml, hown, hB⟩ (kw_M_give l dC dI r cI cZ _ σ2 (2 : Int32) r7 σ6 hc) ⟨callB_of 1 hB (gi_ lk_685) rfl rfl rfl (hB _ lk_7) (hB _ lk_682) (by decide +kernel) ⟨Nat.le_of_ble_eq_true rfl, Nat.le_of_ble_eq_true rfl⟩, hB _ lk_684, hB _ ls_27⟩ ⟨bl_, va_recv (ci := 6) (q0 := 0) hK hP rfl rfl, pre_ hP hK hD hN⟩ rfl rfl hl.1 rfl (lv_room (Nat.le_of_ble_eq_true rfl)) nd_M_kmalloc_130 ⟨Nat.zero_le _, Nat.zero_le _⟩) hD hS hA (fun H locs hP hD hS => ?_)
        refine lv_istore_n (lv' := [(3, .int r7), (0, .ref (r 0)), (2, .int x2)]) hx hb nd_M_kmalloc_133 rfl hl (by decide) rfl (fun ls hl => ?_)
        refine lv_aload_n hx hb nd_M_kmalloc_134 rfl (lv_at hl 1 rfl) ?_
        refine va_get (D := (dC, dI)) (ci := 6) (v := .ref (r 3)) (C := RX6) (T := TX6) (N := 11) hx hb hB inB6 hown hK hP 0 rfl rfl 3 (by decide) (hB _ lk_632) (fun _ h9 => h9) rfl nd_M_kmalloc_135 ?_
        refine lv_iload_n hx hb nd_M_kmalloc_138 rfl (lv_at hl 0 rfl) ?_
        refine lv_iload_n hx hb nd_M_kmalloc_139 rfl (lv_at hl 2 rfl) ?_
        obtain ⟨hg, hf⟩ := mi_gd_el hf
        refine va_iast hx hb hK hP hD hS 3 0 rfl rfl hg nd_M_kmalloc_140 (fun H locs hP hD hS => ?_)
        obtain ⟨σ8, e9, hf⟩ := mi_wr_ex hf
        have hP : va_P (dC, dI) vwCl (wd_M r cI cZ σ8) H := by rw [e9]; exact hP
        have hD : va_D A (wd_M r cI cZ σ8) := by rw [e9]; exact hD
        refine lv_aload_n hx hb nd_M_kmalloc_141 rfl (lv_at hl 1 rfl) ?_
        refine va_get (D := (dC, dI)) (ci := 6) (v := .ref (r 4)) (C := RX6) (T := TX6) (N := 11) hx hb hB inB6 hown hK hP 0 rfl rfl 4 (by decide) (hB _ lk_633) (fun _ h9 => h9) rfl nd_M_kmalloc_142 ?_
        refine lv_iload_n hx hb nd_M_kmalloc_145 rfl (lv_at hl 0 rfl) ?_
        refine lv_iconst (v := 0) hx hb nd_M_kmalloc_146 (by decide) ?_
        obtain ⟨hg, hf⟩ := mi_gd_el hf
        refine va_iast hx hb hK hP hD hS 4 0 rfl rfl hg nd_M_kmalloc_147 (fun H locs hP hD hS => ?_)
        obtain ⟨σ9, e9, hf⟩ := mi_wr_ex hf
        have hP : va_P (dC, dI) vwCl (wd_M r cI cZ σ9) H := by rw [e9]; exact hP
        have hD : va_D A (wd_M r cI cZ σ9) := by rw [e9]; exact hD
        refine lv_iconst (v := 0) hx hb nd_M_kmalloc_148 (by decide) ?_
        refine lv_istore (lv' := [(4, .int (0 : Int32)), (3, .int r7), (0, .ref (r 0)), (2, .int x2)]) hx hb nd_M_kmalloc_149 hl (by decide) rfl (fun ls hl => ?_)
        exact L151 FU x2 r7 (0 : Int32) σ9 hf _ _ _ (lv_sub hl [2, 3, 1, 0] rfl) hP hD hS
    · have hf := mi_if_f hc hf
      refine lv_iconst (v := 0) hx hb nd_M_kmalloc_122 (by decide) ?_
      exact re_i hx hb hr hlocks ((mi_pr hf).1) ((mi_pr hf).2) hP hK hD hS nd_M_kmalloc_123
  have B115 : ∀ (x2 : Int32) (x3 : Int32) (σ : MS), mm_kmalloc_b115 x2 x3 σ = some (v, σ') → bk_ p l e rm_M_kmalloc s m ([.ref (r 0), .int z1] : List Value).toArray below meth c (MQ below (qi_ (dC, dI) (wd_M r cI cZ) [(cI, .int), (cZ, .boolean)] A v σ') ([.ref (r 0), .int z1] : List Value).toArray s 0 0 A) A (dC, dI) (wd_M r cI cZ) 7 115 [(0, .ref (r 0)), (2, .int x2), (3, .int x3)] [.ref (r 0)] σ := by
    intro x2 x3 σ hf ls H locs hl hP hD hS
    unfold mm_kmalloc_b115 at hf
    refine lv_iconst (v := 0) hx hb nd_M_kmalloc_115 (by decide) ?_
    exact B116 x2 x3 (0 : Int32) σ hf _ _ _ (lv_sub hl [0, 1, 2] rfl) hP hD hS
  have B85 : ∀ (x1 : Int32) (x2 : Int32) (x3 : Int32) (σ : MS), mm_kmalloc_b85 x1 x2 x3 σ = some (v, σ') → bk_ p l e rm_M_kmalloc s m ([.ref (r 0), .int z1] : List Value).toArray below meth c (MQ below (qi_ (dC, dI) (wd_M r cI cZ) [(cI, .int), (cZ, .boolean)] A v σ') ([.ref (r 0), .int z1] : List Value).toArray s 0 0 A) A (dC, dI) (wd_M r cI cZ) 7 85 [(0, .ref (r 0)), (1, .int x1), (2, .int x2), (3, .int x3)] [] σ := by
    intro x1 x2 x3 σ hf ls H locs hl hP hD hS
    unfold mm_kmalloc_b85 at hf
    refine lv_aload_n hx hb nd_M_kmalloc_85 rfl (lv_at hl 0 rfl) ?_
    refine lv_iload_n hx hb nd_M_kmalloc_86 rfl (lv_at hl 1 rfl) ?_
    refine lv_iconst (v := 1) hx hb nd_M_kmalloc_87 (by decide) ?_
    refine lv_bipush (v := 8) hx hb nd_M_kmalloc_88 (by decide) ?_
    obtain ⟨r1, hc, hf⟩ := mi_cp_el hf
    refine ca_i (va_runS (As := [.int x1, .int (1 : Int32), .int (8 : Int32)]) (rest := [.ref (r 0)]) ⟨hx, hb, hml, hown, hB⟩ (kw_M_in l dC dI r cI cZ _ σ x1 (1 : Int32) (8 : Int32) r1 hc) ⟨callB_of 3 hB (gi_ lk_673) rfl rfl rfl (hB _ lk_7) (hB _ lk_671) (by decide +kernel) ⟨Nat.le_of_ble_eq_true rfl, Nat.le_of_ble_eq_true rfl⟩, hB _ lk_672⟩ ⟨bl_, pre_ hP hK hD hN⟩ rfl rfl hl.1 rfl (lv_room (Nat.le_of_ble_eq_true rfl)) nd_M_kmalloc_90 ⟨Nat.zero_le _, Nat.zero_le _⟩) hD hS hA (fun H locs hP hD hS => ?_)
    refine lv_if_ne (tgt := 100) hx hb nd_M_kmalloc_93 (by decide) (fun hc => ?_) (fun hc => ?_)
    · have hf := mi_if_f hc hf
      refine lv_iload_n hx hb nd_M_kmalloc_100 rfl (lv_at hl 3 rfl) ?_
      refine lv_if_ge (tgt := 115) hx hb nd_M_kmalloc_101 (by decide) (fun hc => ?_) (fun hc => ?_)
      · have hf := mi_if_t hc hf
        exact B115 x2 x3 σ hf _ _ _ (lv_sub hl [0, 2, 3] rfl) hP hD hS
      · have hf := mi_if_f hc hf
        refine lv_aload_n hx hb nd_M_kmalloc_104 rfl (lv_at hl 0 rfl) ?_
        obtain ⟨r10, hc, hf⟩ := mi_cp_el hf
        refine ca_i (va_runV (C := "MovedFramesModel") (As := []) (rest := [.ref (r 0)]) ⟨hx, hb, hml, hown, hB⟩ (kw_M_countFree l dC dI r cI cZ _ σ r10 hc) ⟨callB_of 0 hB (gi_ lk_677) rfl rfl rfl (hB _ lk_7) (hB _ lk_674) (by decide +kernel) ⟨Nat.le_of_ble_eq_true rfl, Nat.le_of_ble_eq_true rfl⟩, hB _ lk_676, hB _ ls_25⟩ ⟨bl_, va_recv (ci := 6) (q0 := 0) hK hP rfl rfl, pre_ hP hK hD hN⟩ rfl rfl hl.1 rfl (lv_room (Nat.le_of_ble_eq_true rfl)) nd_M_kmalloc_105 ⟨Nat.zero_le _, Nat.zero_le _⟩) hD hS hA (fun H locs hP hD hS => ?_)
        refine lv_if_ne (tgt := 115) hx hb nd_M_kmalloc_108 (by decide) (fun hc => ?_) (fun hc => ?_)
        · have hf := mi_if_f hc hf
          exact B115 x2 x3 σ hf _ _ _ (lv_sub hl [0, 2, 3] rfl) hP hD hS
        · have hf := mi_if_t hc hf
          refine lv_iconst (v := 2) hx hb nd_M_kmalloc_111 (by decide) ?_
          refine lv_goto (tgt := 116) hx hb nd_M_kmalloc_112 (by decide) ?_
          exact B116 x2 x3 (2 : Int32) σ hf _ _ _ (lv_sub hl [0, 2, 3] rfl) hP hD hS
    · have hf := mi_if_t hc hf
      refine lv_iconst (v := 1) hx hb nd_M_kmalloc_96 (by decide) ?_
      refine lv_goto (tgt := 116) hx hb nd_M_kmalloc_97 (by decide) ?_
      exact B116 x2 x3 (1 : Int32) σ hf _ _ _ (lv_sub hl [0, 2, 3] rfl) hP hD hS
  have B27 : ∀ (k27 : Int32 → Int32 → Int32 → Int32 → MS → Option (Int32 × MS)) (hk27 : ∀ (x1 : Int32) (x2 : Int32) (x3 : Int32) (x4 : Int32) (σ : MS), k27 x1 x2 x3 x4 σ = some (v, σ') → bk_ p l e rm_M_kmalloc s m ([.ref (r 0), .int z1] : List Value).toArray below meth c (MQ below (qi_ (dC, dI) (wd_M r cI cZ) [(cI, .int), (cZ, .boolean)] A v σ') ([.ref (r 0), .int z1] : List Value).toArray s 0 0 A) A (dC, dI) (wd_M r cI cZ) 7 27 [(0, .ref (r 0)), (1, .int x1), (2, .int x2), (3, .int x3), (4, .int x4)] [] σ) (x1 : Int32) (x2 : Int32) (x3 : Int32) (x4 : Int32) (σ : MS), mm_kmalloc_b27 k27 x1 x2 x3 x4 σ = some (v, σ') → bk_ p l e rm_M_kmalloc s m ([.ref (r 0), .int z1] : List Value).toArray below meth c (MQ below (qi_ (dC, dI) (wd_M r cI cZ) [(cI, .int), (cZ, .boolean)] A v σ') ([.ref (r 0), .int z1] : List Value).toArray s 0 0 A) A (dC, dI) (wd_M r cI cZ) 7 27 [(0, .ref (r 0)), (1, .int x1), (2, .int x2), (3, .int x3), (4, .int x4)] [] σ := by
    intro k27 hk27 x1 x2 x3 x4 σ hf ls H locs hl hP hD hS
    unfold mm_kmalloc_b27 at hf
    refine lv_iload hx hb nd_M_kmalloc_27 (lv_at hl 4 rfl) ?_
    refine lv_if_lt (tgt := 85) hx hb nd_M_kmalloc_29 (by decide) (fun hc => ?_) (fun hc => ?_)
    · have hf := mi_if_t hc hf
      exact B85 x1 x2 x3 σ hf _ _ _ (lv_sub hl [0, 1, 2, 3] rfl) hP hD hS
    · have hf := mi_if_f hc hf
      refine lv_aload_n hx hb nd_M_kmalloc_32 rfl (lv_at hl 0 rfl) ?_
      refine va_get (D := (dC, dI)) (ci := 6) (v := .ref (r 1)) (C := RX6) (T := TX6) (N := 11) hx hb hB inB6 hown hK hP 0 rfl rfl 1 (by decide) (hB _ lk_630) (fun _ h9 => h9) rfl nd_M_kmalloc_33 ?_
      refine lv_iload hx hb nd_M_kmalloc_36 (lv_at hl 4 rfl) ?_
      obtain ⟨hg, hf⟩ := mi_gd_el hf
      refine va_iald hx hb hK hP 1 0 rfl rfl hg nd_M_kmalloc_38 ?_
      refine lv_iconst (v := 2) hx hb nd_M_kmalloc_39 (by decide) ?_
      refine lv_icmp_ne (tgt := 77) hx hb nd_M_kmalloc_40 (by decide) (fun hc => ?_) (fun hc => ?_)
      · have hf := mi_if_f hc hf
        refine lv_iload_n hx hb nd_M_kmalloc_77 rfl (lv_at hl 3 rfl) ?_
        refine lv_istore_n (lv' := [(3, .int x3), (0, .ref (r 0)), (1, .int x1), (2, .int x2), (4, .int x4)]) hx hb nd_M_kmalloc_78 rfl hl (by decide) rfl (fun ls hl => ?_)
        refine lv_iinc (k := 4) (v := x4 + (-1 : Int32)) (lv' := [(4, .int (x4 + (-1 : Int32))), (3, .int x3), (0, .ref (r 0)), (1, .int x1), (2, .int x2)]) hx hb nd_M_kmalloc_79 hl rfl (congrArg (fun z => x4 + z) (by decide : Int32.ofInt (-1) = (-1 : Int32))) (by decide) rfl (fun ls hl => ?_)
        refine lv_goto (tgt := 27) hx hb nd_M_kmalloc_82 (by decide) ?_
        exact hk27 x1 x2 x3 (x4 + (-1 : Int32)) σ hf _ _ _ (lv_sub hl [2, 3, 4, 1, 0] rfl) hP hD hS
      · have hf := mi_if_t hc hf
        refine lv_aload_n hx hb nd_M_kmalloc_43 rfl (lv_at hl 0 rfl) ?_
        refine va_get (D := (dC, dI)) (ci := 6) (v := .ref (r 3)) (C := RX6) (T := TX6) (N := 11) hx hb hB inB6 hown hK hP 0 rfl rfl 3 (by decide) (hB _ lk_632) (fun _ h9 => h9) rfl nd_M_kmalloc_44 ?_
        refine lv_iload hx hb nd_M_kmalloc_47 (lv_at hl 4 rfl) ?_
        obtain ⟨hg, hf⟩ := mi_gd_el hf
        refine va_iald hx hb hK hP 3 0 rfl rfl hg nd_M_kmalloc_49 ?_
        refine lv_iload_n hx hb nd_M_kmalloc_50 rfl (lv_at hl 2 rfl) ?_
        refine lv_icmp_ne (tgt := 77) hx hb nd_M_kmalloc_51 (by decide) (fun hc => ?_) (fun hc => ?_)
        · have hf := mi_if_f hc hf
          refine lv_iload_n hx hb nd_M_kmalloc_77 rfl (lv_at hl 3 rfl) ?_
          refine lv_istore_n (lv' := [(3, .int x3), (0, .ref (r 0)), (1, .int x1), (2, .int x2), (4, .int x4)]) hx hb nd_M_kmalloc_78 rfl hl (by decide) rfl (fun ls hl => ?_)
          refine lv_iinc (k := 4) (v := x4 + (-1 : Int32)) (lv' := [(4, .int (x4 + (-1 : Int32))), (3, .int x3), (0, .ref (r 0)), (1, .int x1), (2, .int x2)]) hx hb nd_M_kmalloc_79 hl rfl (congrArg (fun z => x4 + z) (by decide : Int32.ofInt (-1) = (-1 : Int32))) (by decide) rfl (fun ls hl => ?_)
          refine lv_goto (tgt := 27) hx hb nd_M_kmalloc_82 (by decide) ?_
          exact hk27 x1 x2 x3 (x4 + (-1 : Int32)) σ hf _ _ _ (lv_sub hl [2, 3, 4, 1, 0] rfl) hP hD hS
        · have hf := mi_if_t hc hf
          refine lv_aload_n hx hb nd_M_kmalloc_54 rfl (lv_at hl 0 rfl) ?_
          refine va_get (D := (dC, dI)) (ci := 6) (v := .ref (r 4)) (C := RX6) (T := TX6) (N := 11) hx hb hB inB6 hown hK hP 0 rfl rfl 4 (by decide) (hB _ lk_633) (fun _ h9 => h9) rfl nd_M_kmalloc_55 ?_
          refine lv_iload hx hb nd_M_kmalloc_58 (lv_at hl 4 rfl) ?_
          obtain ⟨hg, hf⟩ := mi_gd_el hf
          refine va_iald hx hb hK hP 4 0 rfl rfl hg nd_M_kmalloc_60 ?_
          refine lv_iconst (v := 1) hx hb nd_M_kmalloc_61 (by decide) ?_
          refine lv_bipush (v := 16) hx hb nd_M_kmalloc_62 (by decide) ?_
          refine lv_iload_n hx hb nd_M_kmalloc_64 rfl (lv_at hl 2 rfl) ?_
          obtain ⟨hg, hf⟩ := mi_gd_el hf
          refine lv_idiv hx hb nd_M_kmalloc_65 hg ?_
          refine lv_ishl hx hb nd_M_kmalloc_66 ?_
          refine lv_iconst (v := 1) hx hb nd_M_kmalloc_67 (by decide) ?_
          refine lv_isub hx hb nd_M_kmalloc_68 ?_
          refine lv_icmp_eq (tgt := 77) hx hb nd_M_kmalloc_69 (by decide) (fun hc => ?_) (fun hc => ?_)
          · have hf := mi_if_t hc hf
            refine lv_iload_n hx hb nd_M_kmalloc_77 rfl (lv_at hl 3 rfl) ?_
            refine lv_istore_n (lv' := [(3, .int x3), (0, .ref (r 0)), (1, .int x1), (2, .int x2), (4, .int x4)]) hx hb nd_M_kmalloc_78 rfl hl (by decide) rfl (fun ls hl => ?_)
            refine lv_iinc (k := 4) (v := x4 + (-1 : Int32)) (lv' := [(4, .int (x4 + (-1 : Int32))), (3, .int x3), (0, .ref (r 0)), (1, .int x1), (2, .int x2)]) hx hb nd_M_kmalloc_79 hl rfl (congrArg (fun z => x4 + z) (by decide : Int32.ofInt (-1) = (-1 : Int32))) (by decide) rfl (fun ls hl => ?_)
            refine lv_goto (tgt := 27) hx hb nd_M_kmalloc_82 (by decide) ?_
            exact hk27 x1 x2 x3 (x4 + (-1 : Int32)) σ hf _ _ _ (lv_sub hl [2, 3, 4, 1, 0] rfl) hP hD hS
          · have hf := mi_if_f hc hf
            refine lv_iload hx hb nd_M_kmalloc_72 (lv_at hl 4 rfl) ?_
            refine lv_goto (tgt := 78) hx hb nd_M_kmalloc_74 (by decide) ?_
            refine lv_istore_n (lv' := [(3, .int x4), (0, .ref (r 0)), (1, .int x1), (2, .int x2), (4, .int x4)]) hx hb nd_M_kmalloc_78 rfl hl (by decide) rfl (fun ls hl => ?_)
            refine lv_iinc (k := 4) (v := x4 + (-1 : Int32)) (lv' := [(4, .int (x4 + (-1 : Int32))), (3, .int x4), (0, .ref (r 0)), (1, .int x1), (2, .int x2)]) hx hb nd_M_kmalloc_79 hl rfl (congrArg (fun z => x4 + z) (by decide : Int32.ofInt (-1) = (-1 : Int32))) (by decide) rfl (fun ls hl => ?_)
            refine lv_goto (tgt := 27) hx hb nd_M_kmalloc_82 (by decide) ?_
            exact hk27 x1 x2 x4 (x4 + (-1 : Int32)) σ hf _ _ _ (lv_sub hl [2, 3, 4, 1, 0] rfl) hP hD hS
  have L27 : ∀ (n : Nat) (x1 : Int32) (x2 : Int32) (x3 : Int32) (x4 : Int32) (σ : MS), mm_kmalloc_l27 n x1 x2 x3 x4 σ = some (v, σ') → bk_ p l e rm_M_kmalloc s m ([.ref (r 0), .int z1] : List Value).toArray below meth c (MQ below (qi_ (dC, dI) (wd_M r cI cZ) [(cI, .int), (cZ, .boolean)] A v σ') ([.ref (r 0), .int z1] : List Value).toArray s 0 0 A) A (dC, dI) (wd_M r cI cZ) 7 27 [(0, .ref (r 0)), (1, .int x1), (2, .int x2), (3, .int x3), (4, .int x4)] [] σ := by
    intro n
    induction n with
    | zero =>
      intro x1 x2 x3 x4 σ hf
      exact mi_no hf
    | succ n ih =>
      intro x1 x2 x3 x4 σ hf
      exact B27 (mm_kmalloc_l27 n) ih x1 x2 x3 x4 σ hf
  have hH : s.heap = s.heap := rfl
  unfold mm_kmalloc at hf
  refine lv_iload_n hx hb nd_M_kmalloc_0 rfl (lv_at hl 1 rfl) ?_
  refine lv_iconst (v := 2) hx hb nd_M_kmalloc_1 (by decide) ?_
  refine lv_icmp_gt (tgt := 9) hx hb nd_M_kmalloc_2 (by decide) (fun hc => ?_) (fun hc => ?_)
  · have hf := mi_if_t hc hf
    refine lv_iload_n hx hb nd_M_kmalloc_9 rfl (lv_at hl 1 rfl) ?_
    refine lv_iconst (v := 4) hx hb nd_M_kmalloc_10 (by decide) ?_
    refine lv_icmp_gt (tgt := 18) hx hb nd_M_kmalloc_11 (by decide) (fun hc => ?_) (fun hc => ?_)
    · have hf := mi_if_t hc hf
      refine lv_bipush (v := 8) hx hb nd_M_kmalloc_18 (by decide) ?_
      refine lv_istore_n (lv' := [(2, .int (8 : Int32)), (0, .ref (r 0)), (1, .int z1)]) hx hb nd_M_kmalloc_20 rfl hl (by decide) rfl (fun ls hl => ?_)
      refine lv_iconst (v := (-1)) hx hb nd_M_kmalloc_21 (by decide) ?_
      refine lv_istore_n (lv' := [(3, .int (-1 : Int32)), (2, .int (8 : Int32)), (0, .ref (r 0)), (1, .int z1)]) hx hb nd_M_kmalloc_22 rfl hl (by decide) rfl (fun ls hl => ?_)
      refine lv_bipush (v := 63) hx hb nd_M_kmalloc_23 (by decide) ?_
      refine lv_istore (lv' := [(4, .int (63 : Int32)), (3, .int (-1 : Int32)), (2, .int (8 : Int32)), (0, .ref (r 0)), (1, .int z1)]) hx hb nd_M_kmalloc_25 hl (by decide) rfl (fun ls hl => ?_)
      exact L27 FU z1 (8 : Int32) (-1 : Int32) (63 : Int32) σ hf _ _ _ (lv_sub hl [3, 4, 2, 1, 0] rfl) hP hD hS
    · have hf := mi_if_f hc hf
      refine lv_iconst (v := 4) hx hb nd_M_kmalloc_14 (by decide) ?_
      refine lv_goto (tgt := 20) hx hb nd_M_kmalloc_15 (by decide) ?_
      refine lv_istore_n (lv' := [(2, .int (4 : Int32)), (0, .ref (r 0)), (1, .int z1)]) hx hb nd_M_kmalloc_20 rfl hl (by decide) rfl (fun ls hl => ?_)
      refine lv_iconst (v := (-1)) hx hb nd_M_kmalloc_21 (by decide) ?_
      refine lv_istore_n (lv' := [(3, .int (-1 : Int32)), (2, .int (4 : Int32)), (0, .ref (r 0)), (1, .int z1)]) hx hb nd_M_kmalloc_22 rfl hl (by decide) rfl (fun ls hl => ?_)
      refine lv_bipush (v := 63) hx hb nd_M_kmalloc_23 (by decide) ?_
      refine lv_istore (lv' := [(4, .int (63 : Int32)), (3, .int (-1 : Int32)), (2, .int (4 : Int32)), (0, .ref (r 0)), (1, .int z1)]) hx hb nd_M_kmalloc_25 hl (by decide) rfl (fun ls hl => ?_)
      exact L27 FU z1 (4 : Int32) (-1 : Int32) (63 : Int32) σ hf _ _ _ (lv_sub hl [3, 4, 2, 1, 0] rfl) hP hD hS
  · have hf := mi_if_f hc hf
    refine lv_iconst (v := 2) hx hb nd_M_kmalloc_5 (by decide) ?_
    refine lv_goto (tgt := 20) hx hb nd_M_kmalloc_6 (by decide) ?_
    refine lv_istore_n (lv' := [(2, .int (2 : Int32)), (0, .ref (r 0)), (1, .int z1)]) hx hb nd_M_kmalloc_20 rfl hl (by decide) rfl (fun ls hl => ?_)
    refine lv_iconst (v := (-1)) hx hb nd_M_kmalloc_21 (by decide) ?_
    refine lv_istore_n (lv' := [(3, .int (-1 : Int32)), (2, .int (2 : Int32)), (0, .ref (r 0)), (1, .int z1)]) hx hb nd_M_kmalloc_22 rfl hl (by decide) rfl (fun ls hl => ?_)
    refine lv_bipush (v := 63) hx hb nd_M_kmalloc_23 (by decide) ?_
    refine lv_istore (lv' := [(4, .int (63 : Int32)), (3, .int (-1 : Int32)), (2, .int (2 : Int32)), (0, .ref (r 0)), (1, .int z1)]) hx hb nd_M_kmalloc_25 hl (by decide) rfl (fun ls hl => ?_)
    exact L27 FU z1 (2 : Int32) (-1 : Int32) (63 : Int32) σ hf _ _ _ (lv_sub hl [3, 4, 2, 1, 0] rfl) hP hD hS
abbrev rm_M_isObject : Room := { frames := 1, cells := 0, slots := 0, locals := 22 }
set_option maxHeartbeats 4000000 in
set_option maxRecDepth 100000 in
theorem kw_M_isObject (l : Launch) (dC : Nat → ClassId) (dI : Nat → Nat → Nat) (r : Nat → Nat) (cI cZ : ClassId) (sz : Nat) (σ : MS) (z1 : Int32) (v : Int32) (hf : mm_isObject σ z1 = some v) : Met l ny_M_isObject nw_M_isObject rm_M_isObject (va_Pc [.ref (r 0), .int z1] (pr_ (dC, dI) (wd_M r cI cZ) [(cI, .int), (cZ, .boolean)] sz σ)) (qi_ (dC, dI) (wd_M r cI cZ) [(cI, .int), (cZ, .boolean)] (va_A (wd_M r cI cZ σ) sz) v σ) 0 0 (va_A (wd_M r cI cZ σ) sz) := by
  refine Met.ofW (cc := nb_M_isObject) (maxL := 2) (ret := (some .boolean)) (by decide) rfl ?_
  intro p e s m args below meth c s₁ B hml hv
  obtain ⟨rfl, hsz, hP, hK, hD0, hN⟩ := hv
  have hx := B.exec
  have hb := B.bytes
  have hr := B.returns
  have hts := atoms_spec (ws := nw_M_isObject) B.pre
  have hB : ∀ w ∈ BG, w.before ([.ref (r 0), .int z1] : List Value).toArray s = true := fun w h => hts w (List.mem_cons_of_mem _ h)
  have hown : s.vm.findClass "MovedFramesModel" = some m.cls := findClass_of_methodNamed B.named
  have hlocks := B.notSynchronized
  subst hsz
  have hD := hD0.self (sz := s.heap.size)
  generalize hAe : va_A (wd_M r cI cZ σ) s.heap.size = A at hD ⊢
  have hA : ∀ q : Nat, s.heap.size ≤ q → A q := fun q h => by rw [← hAe]; exact Or.inr h
  have hS : va_S A s.heap s.heap [] := va_S.rf
  have hl := lv_entry ([.ref (r 0), .int z1]) (n := 2) (Nat.le_of_ble_eq_true rfl)
  rw [lg_entry_eq]
  generalize (lg_sl ([.ref (r 0), .int z1]) ++ List.replicate (2 - (lg_sl ([.ref (r 0), .int z1])).length) Slot.unset).toArray = ls at hl ⊢
  have hl : lv_has ls 2 [(0, .ref (r 0)), (1, .int z1)] := hl
  have hH : s.heap = s.heap := rfl
  unfold mm_isObject at hf
  refine lv_iload_n hx hb nd_M_isObject_0 rfl (lv_at hl 1 rfl) ?_
  refine lv_iconst (v := 0) hx hb nd_M_isObject_1 (by decide) ?_
  refine lv_sipush (v := 1023) hx hb nd_M_isObject_2 (by decide) ?_
  obtain ⟨r1, hc, hf⟩ := mi_cp_el hf
  refine ca_i (va_runS (As := [.int z1, .int (0 : Int32), .int (1023 : Int32)]) (rest := []) ⟨hx, hb, hml, hown, hB⟩ (kw_M_in l dC dI r cI cZ _ σ z1 (0 : Int32) (1023 : Int32) r1 hc) ⟨callB_of 3 hB (gi_ lk_673) rfl rfl rfl (hB _ lk_7) (hB _ lk_671) (by decide +kernel) ⟨Nat.le_of_ble_eq_true rfl, Nat.le_of_ble_eq_true rfl⟩, hB _ lk_672⟩ ⟨bl_, pre_ hP hK hD hN⟩ rfl rfl hl.1 rfl (lv_room (Nat.le_of_ble_eq_true rfl)) nd_M_isObject_5 ⟨Nat.zero_le _, Nat.zero_le _⟩) hD hS hA (fun H locs hP hD hS => ?_)
  refine lv_if_eq (tgt := 24) hx hb nd_M_isObject_8 (by decide) (fun hc => ?_) (fun hc => ?_)
  · have hf := mi_if_t hc hf
    refine lv_iconst (v := 0) hx hb nd_M_isObject_24 (by decide) ?_
    exact re_z hx hb hr hlocks (Or.inl rfl) (mi_eq hf) (rfl) hP hK hD hS nd_M_isObject_25
  · have hf := mi_if_f hc hf
    refine lv_aload_n hx hb nd_M_isObject_11 rfl (lv_at hl 0 rfl) ?_
    refine va_get (D := (dC, dI)) (ci := 6) (v := .ref (r 1)) (C := RX6) (T := TX6) (N := 11) hx hb hB inB6 hown hK hP 0 rfl rfl 1 (by decide) (hB _ lk_630) (fun _ h9 => h9) rfl nd_M_isObject_12 ?_
    refine lv_iload_n hx hb nd_M_isObject_15 rfl (lv_at hl 1 rfl) ?_
    refine lv_bipush (v := 16) hx hb nd_M_isObject_16 (by decide) ?_
    refine lv_idiv hx hb nd_M_isObject_18 (by decide) ?_
    obtain ⟨hg, hf⟩ := mi_gd_el hf
    refine va_iald hx hb hK hP 1 0 rfl rfl hg nd_M_isObject_19 ?_
    refine lv_iconst (v := 2) hx hb nd_M_isObject_20 (by decide) ?_
    refine lv_icmp_eq (tgt := 26) hx hb nd_M_isObject_21 (by decide) (fun hc => ?_) (fun hc => ?_)
    · have hf := mi_if_t hc hf
      refine lv_aload_n hx hb nd_M_isObject_26 rfl (lv_at hl 0 rfl) ?_
      refine va_get (D := (dC, dI)) (ci := 6) (v := .ref (r 4)) (C := RX6) (T := TX6) (N := 11) hx hb hB inB6 hown hK hP 0 rfl rfl 4 (by decide) (hB _ lk_633) (fun _ h9 => h9) rfl nd_M_isObject_27 ?_
      refine lv_iload_n hx hb nd_M_isObject_30 rfl (lv_at hl 1 rfl) ?_
      refine lv_bipush (v := 16) hx hb nd_M_isObject_31 (by decide) ?_
      refine lv_idiv hx hb nd_M_isObject_33 (by decide) ?_
      obtain ⟨hg, hf⟩ := mi_gd_el hf
      refine va_iald hx hb hK hP 4 0 rfl rfl hg nd_M_isObject_34 ?_
      refine lv_iload_n hx hb nd_M_isObject_35 rfl (lv_at hl 1 rfl) ?_
      refine lv_bipush (v := 16) hx hb nd_M_isObject_36 (by decide) ?_
      refine lv_irem hx hb nd_M_isObject_38 (by decide) ?_
      refine lv_aload_n hx hb nd_M_isObject_39 rfl (lv_at hl 0 rfl) ?_
      refine va_get (D := (dC, dI)) (ci := 6) (v := .ref (r 3)) (C := RX6) (T := TX6) (N := 11) hx hb hB inB6 hown hK hP 0 rfl rfl 3 (by decide) (hB _ lk_632) (fun _ h9 => h9) rfl nd_M_isObject_40 ?_
      refine lv_iload_n hx hb nd_M_isObject_43 rfl (lv_at hl 1 rfl) ?_
      refine lv_bipush (v := 16) hx hb nd_M_isObject_44 (by decide) ?_
      refine lv_idiv hx hb nd_M_isObject_46 (by decide) ?_
      obtain ⟨hg, hf⟩ := mi_gd_el hf
      refine va_iald hx hb hK hP 3 0 rfl rfl hg nd_M_isObject_47 ?_
      obtain ⟨hg, hf⟩ := mi_gd_el hf
      refine lv_idiv hx hb nd_M_isObject_48 hg ?_
      refine lv_ishr hx hb nd_M_isObject_49 ?_
      refine lv_iconst (v := 1) hx hb nd_M_isObject_50 (by decide) ?_
      refine lv_iand hx hb nd_M_isObject_51 ?_
      refine lv_iconst (v := 1) hx hb nd_M_isObject_52 (by decide) ?_
      refine lv_icmp_ne (tgt := 60) hx hb nd_M_isObject_53 (by decide) (fun hc => ?_) (fun hc => ?_)
      · have hf := mi_if_f hc hf
        refine lv_iconst (v := 0) hx hb nd_M_isObject_60 (by decide) ?_
        exact re_z hx hb hr hlocks (Or.inl rfl) (mi_eq hf) (rfl) hP hK hD hS nd_M_isObject_61
      · have hf := mi_if_t hc hf
        refine lv_iconst (v := 1) hx hb nd_M_isObject_56 (by decide) ?_
        refine lv_goto (tgt := 61) hx hb nd_M_isObject_57 (by decide) ?_
        exact re_z hx hb hr hlocks (Or.inr rfl) (mi_eq hf) (rfl) hP hK hD hS nd_M_isObject_61
    · have hf := mi_if_f hc hf
      refine lv_iconst (v := 0) hx hb nd_M_isObject_24 (by decide) ?_
      exact re_z hx hb hr hlocks (Or.inl rfl) (mi_eq hf) (rfl) hP hK hD hS nd_M_isObject_25
abbrev rm_M_kfree : Room := { frames := 2, cells := 0, slots := 0, locals := 43 }
set_option maxHeartbeats 4000000 in
set_option maxRecDepth 100000 in
theorem kw_M_kfree (l : Launch) (dC : Nat → ClassId) (dI : Nat → Nat → Nat) (r : Nat → Nat) (cI cZ : ClassId) (sz : Nat) (σ : MS) (z1 : Int32) (σ' : MS) (hf : mm_kfree σ z1 = some σ') : Met l ny_M_kfree nw_M_kfree rm_M_kfree (va_Pc [.ref (r 0), .int z1] (pr_ (dC, dI) (wd_M r cI cZ) [(cI, .int), (cZ, .boolean)] sz σ)) (qv_ (dC, dI) (wd_M r cI cZ) [(cI, .int), (cZ, .boolean)] (va_A (wd_M r cI cZ σ) sz) σ') 0 0 (va_A (wd_M r cI cZ σ) sz) := by
  refine Met.ofW (cc := nb_M_kfree) (maxL := 3) (ret := none) (by decide) rfl ?_
  intro p e s m args below meth c s₁ B hml hv
  obtain ⟨rfl, hsz, hP, hK, hD0, hN⟩ := hv
  have hx := B.exec
  have hb := B.bytes
  have hr := B.returns
  have hts := atoms_spec (ws := nw_M_kfree) B.pre
  have hB : ∀ w ∈ BG, w.before ([.ref (r 0), .int z1] : List Value).toArray s = true := fun w h => hts w (List.mem_cons_of_mem _ h)
  have hown : s.vm.findClass "MovedFramesModel" = some m.cls := findClass_of_methodNamed B.named
  have hlocks := B.notSynchronized
  subst hsz
  have hD := hD0.self (sz := s.heap.size)
  generalize hAe : va_A (wd_M r cI cZ σ) s.heap.size = A at hD ⊢
  have hA : ∀ q : Nat, s.heap.size ≤ q → A q := fun q h => by rw [← hAe]; exact Or.inr h
  have hS : va_S A s.heap s.heap [] := va_S.rf
  have hl := lv_entry ([.ref (r 0), .int z1]) (n := 3) (Nat.le_of_ble_eq_true rfl)
  rw [lg_entry_eq]
  generalize (lg_sl ([.ref (r 0), .int z1]) ++ List.replicate (3 - (lg_sl ([.ref (r 0), .int z1])).length) Slot.unset).toArray = ls at hl ⊢
  have hl : lv_has ls 3 [(0, .ref (r 0)), (1, .int z1)] := hl
  have B90 : ∀ (y1 : Int32) (y2 : Int32) (σ : MS), mm_kfree_b90 y1 y2 σ = some σ' → bk_ p l e rm_M_kfree s m ([.ref (r 0), .int z1] : List Value).toArray below meth c (MQ below (qv_ (dC, dI) (wd_M r cI cZ) [(cI, .int), (cZ, .boolean)] A σ') ([.ref (r 0), .int z1] : List Value).toArray s 0 0 A) A (dC, dI) (wd_M r cI cZ) 3 90 [] [.int y2, .int y1, .ref (r 1)] σ := by
    intro y1 y2 σ hf ls H locs hl hP hD hS
    unfold mm_kfree_b90 at hf
    obtain ⟨hg, hf⟩ := mi_gd_el hf
    refine va_iast hx hb hK hP hD hS 1 0 rfl rfl hg nd_M_kfree_90 (fun H locs hP hD hS => ?_)
    obtain ⟨σ5, e9, hf⟩ := mi_wr_ex hf
    have hP : va_P (dC, dI) vwCl (wd_M r cI cZ σ5) H := by rw [e9]; exact hP
    have hD : va_D A (wd_M r cI cZ σ5) := by rw [e9]; exact hD
    exact re_v hx hb hr hlocks (mi_eq hf) hP hK hD hS nd_M_kfree_91
  have B31 : ∀ (x1 : Int32) (y1 : Int32) (σ : MS), mm_kfree_b31 x1 y1 σ = some σ' → bk_ p l e rm_M_kfree s m ([.ref (r 0), .int z1] : List Value).toArray below meth c (MQ below (qv_ (dC, dI) (wd_M r cI cZ) [(cI, .int), (cZ, .boolean)] A σ') ([.ref (r 0), .int z1] : List Value).toArray s 0 0 A) A (dC, dI) (wd_M r cI cZ) 3 31 [(0, .ref (r 0)), (1, .int x1)] [.int y1, .ref (r 0)] σ := by
    intro x1 y1 σ hf ls H locs hl hP hD hS
    unfold mm_kfree_b31 at hf
    obtain ⟨r3, σ2, hc, hf⟩ := mi_cw_el hf
    refine ca_i (va_runV (C := "MovedFramesModel") (As := [.int y1]) (rest := []) ⟨hx, hb, hml, hown, hB⟩ (kw_M_throwsBy l dC dI r cI cZ _ σ y1 r3 σ2 hc) ⟨callB_of 1 hB (gi_ lk_681) rfl rfl rfl (hB _ lk_7) (hB _ lk_678) (by decide +kernel) ⟨Nat.le_of_ble_eq_true rfl, Nat.le_of_ble_eq_true rfl⟩, hB _ lk_680, hB _ ls_26⟩ ⟨bl_, va_recv (ci := 6) (q0 := 0) hK hP rfl rfl, pre_ hP hK hD hN⟩ rfl rfl hl.1 rfl (lv_room (Nat.le_of_ble_eq_true rfl)) nd_M_kfree_31 ⟨Nat.zero_le _, Nat.zero_le _⟩) hD hS hA (fun H locs hP hD hS => ?_)
    refine lv_if_eq (tgt := 38) hx hb nd_M_kfree_34 (by decide) (fun hc => ?_) (fun hc => ?_)
    · have hf := mi_if_t hc hf
      refine lv_iload_n hx hb nd_M_kfree_38 rfl (lv_at hl 1 rfl) ?_
      refine lv_bipush (v := 16) hx hb nd_M_kfree_39 (by decide) ?_
      refine lv_idiv hx hb nd_M_kfree_41 (by decide) ?_
      refine lv_istore_n (lv' := [(2, .int (x1 / (16 : Int32))), (0, .ref (r 0)), (1, .int x1)]) hx hb nd_M_kfree_42 rfl hl (by decide) rfl (fun ls hl => ?_)
      refine lv_aload_n hx hb nd_M_kfree_43 rfl (lv_at hl 1 rfl) ?_
      refine va_get (D := (dC, dI)) (ci := 6) (v := .ref (r 4)) (C := RX6) (T := TX6) (N := 11) hx hb hB inB6 hown hK hP 0 rfl rfl 4 (by decide) (hB _ lk_633) (fun _ h9 => h9) rfl nd_M_kfree_44 ?_
      refine lv_iload_n hx hb nd_M_kfree_47 rfl (lv_at hl 0 rfl) ?_
      refine lv_aload_n hx hb nd_M_kfree_48 rfl (lv_at hl 1 rfl) ?_
      refine va_get (D := (dC, dI)) (ci := 6) (v := .ref (r 4)) (C := RX6) (T := TX6) (N := 11) hx hb hB inB6 hown hK hP 0 rfl rfl 4 (by decide) (hB _ lk_633) (fun _ h9 => h9) rfl nd_M_kfree_49 ?_
      refine lv_iload_n hx hb nd_M_kfree_52 rfl (lv_at hl 0 rfl) ?_
      obtain ⟨hg, hf⟩ := mi_gd_el hf
      refine va_iald hx hb hK hP 4 0 rfl rfl hg nd_M_kfree_53 ?_
      refine lv_iconst (v := 1) hx hb nd_M_kfree_54 (by decide) ?_
      refine lv_iload_n hx hb nd_M_kfree_55 rfl (lv_at hl 2 rfl) ?_
      refine lv_bipush (v := 16) hx hb nd_M_kfree_56 (by decide) ?_
      refine lv_irem hx hb nd_M_kfree_58 (by decide) ?_
      refine lv_aload_n hx hb nd_M_kfree_59 rfl (lv_at hl 1 rfl) ?_
      refine va_get (D := (dC, dI)) (ci := 6) (v := .ref (r 3)) (C := RX6) (T := TX6) (N := 11) hx hb hB inB6 hown hK hP 0 rfl rfl 3 (by decide) (hB _ lk_632) (fun _ h9 => h9) rfl nd_M_kfree_60 ?_
      refine lv_iload_n hx hb nd_M_kfree_63 rfl (lv_at hl 0 rfl) ?_
      obtain ⟨hg, hf⟩ := mi_gd_el hf
      refine va_iald hx hb hK hP 3 0 rfl rfl hg nd_M_kfree_64 ?_
      obtain ⟨hg, hf⟩ := mi_gd_el hf
      refine lv_idiv hx hb nd_M_kfree_65 hg ?_
      refine lv_ishl hx hb nd_M_kfree_66 ?_
      refine lv_iconst (v := (-1)) hx hb nd_M_kfree_67 (by decide) ?_
      refine lv_ixor hx hb nd_M_kfree_68 ?_
      refine lv_iand hx hb nd_M_kfree_69 ?_
      obtain ⟨hg, hf⟩ := mi_gd_el hf
      refine va_iast hx hb hK hP hD hS 4 0 rfl rfl hg nd_M_kfree_70 (fun H locs hP hD hS => ?_)
      obtain ⟨σ4, e9, hf⟩ := mi_wr_ex hf
      have hP : va_P (dC, dI) vwCl (wd_M r cI cZ σ4) H := by rw [e9]; exact hP
      have hD : va_D A (wd_M r cI cZ σ4) := by rw [e9]; exact hD
      refine lv_aload_n hx hb nd_M_kfree_71 rfl (lv_at hl 1 rfl) ?_
      refine va_get (D := (dC, dI)) (ci := 6) (v := .ref (r 1)) (C := RX6) (T := TX6) (N := 11) hx hb hB inB6 hown hK hP 0 rfl rfl 1 (by decide) (hB _ lk_630) (fun _ h9 => h9) rfl nd_M_kfree_72 ?_
      refine lv_iload_n hx hb nd_M_kfree_75 rfl (lv_at hl 0 rfl) ?_
      refine lv_aload_n hx hb nd_M_kfree_76 rfl (lv_at hl 1 rfl) ?_
      refine va_get (D := (dC, dI)) (ci := 6) (v := .ref (r 4)) (C := RX6) (T := TX6) (N := 11) hx hb hB inB6 hown hK hP 0 rfl rfl 4 (by decide) (hB _ lk_633) (fun _ h9 => h9) rfl nd_M_kfree_77 ?_
      refine lv_iload_n hx hb nd_M_kfree_80 rfl (lv_at hl 0 rfl) ?_
      obtain ⟨hg, hf⟩ := mi_gd_el hf
      refine va_iald hx hb hK hP 4 0 rfl rfl hg nd_M_kfree_81 ?_
      refine lv_if_ne (tgt := 89) hx hb nd_M_kfree_82 (by decide) (fun hc => ?_) (fun hc => ?_)
      · have hf := mi_if_f hc hf
        refine lv_iconst (v := 2) hx hb nd_M_kfree_89 (by decide) ?_
        exact B90 (x1 / (16 : Int32)) (2 : Int32) σ4 hf _ _ _ (lv_sub hl [] rfl) hP hD hS
      · have hf := mi_if_t hc hf
        refine lv_iconst (v := 0) hx hb nd_M_kfree_85 (by decide) ?_
        refine lv_goto (tgt := 90) hx hb nd_M_kfree_86 (by decide) ?_
        exact B90 (x1 / (16 : Int32)) (0 : Int32) σ4 hf _ _ _ (lv_sub hl [] rfl) hP hD hS
    · have hf := mi_if_f hc hf
      exact re_v hx hb hr hlocks (mi_eq hf) hP hK hD hS nd_M_kfree_37
  have B30 : ∀ (x1 : Int32) (σ : MS), mm_kfree_b30 x1 σ = some σ' → bk_ p l e rm_M_kfree s m ([.ref (r 0), .int z1] : List Value).toArray below meth c (MQ below (qv_ (dC, dI) (wd_M r cI cZ) [(cI, .int), (cZ, .boolean)] A σ') ([.ref (r 0), .int z1] : List Value).toArray s 0 0 A) A (dC, dI) (wd_M r cI cZ) 3 30 [(0, .ref (r 0)), (1, .int x1)] [.ref (r 0)] σ := by
    intro x1 σ hf ls H locs hl hP hD hS
    unfold mm_kfree_b30 at hf
    refine lv_iconst (v := 1) hx hb nd_M_kfree_30 (by decide) ?_
    exact B31 x1 (1 : Int32) σ hf _ _ _ (lv_sub hl [0, 1] rfl) hP hD hS
  have hH : s.heap = s.heap := rfl
  unfold mm_kfree at hf
  refine lv_aload_n hx hb nd_M_kfree_0 rfl (lv_at hl 0 rfl) ?_
  refine lv_aload_n hx hb nd_M_kfree_1 rfl (lv_at hl 0 rfl) ?_
  refine lv_iload_n hx hb nd_M_kfree_2 rfl (lv_at hl 1 rfl) ?_
  obtain ⟨r1, hc, hf⟩ := mi_cp_el hf
  refine ca_i (va_runV (C := "MovedFramesModel") (As := [.int z1]) (rest := [.ref (r 0)]) ⟨hx, hb, hml, hown, hB⟩ (kw_M_isObject l dC dI r cI cZ _ σ z1 r1 hc) ⟨callB_of 1 hB (gi_ lk_709) rfl rfl rfl (hB _ lk_7) (hB _ lk_706) (by decide +kernel) ⟨Nat.le_of_ble_eq_true rfl, Nat.le_of_ble_eq_true rfl⟩, hB _ lk_708, hB _ ls_32⟩ ⟨bl_, va_recv (ci := 6) (q0 := 0) hK hP rfl rfl, pre_ hP hK hD hN⟩ rfl rfl hl.1 rfl (lv_room (Nat.le_of_ble_eq_true rfl)) nd_M_kfree_3 ⟨Nat.zero_le _, Nat.zero_le _⟩) hD hS hA (fun H locs hP hD hS => ?_)
  refine lv_if_eq (tgt := 30) hx hb nd_M_kfree_6 (by decide) (fun hc => ?_) (fun hc => ?_)
  · have hf := mi_if_t hc hf
    exact B30 z1 σ hf _ _ _ (lv_sub hl [0, 1] rfl) hP hD hS
  · have hf := mi_if_f hc hf
    refine lv_iload_n hx hb nd_M_kfree_9 rfl (lv_at hl 1 rfl) ?_
    refine lv_bipush (v := 16) hx hb nd_M_kfree_10 (by decide) ?_
    refine lv_irem hx hb nd_M_kfree_12 (by decide) ?_
    refine lv_aload_n hx hb nd_M_kfree_13 rfl (lv_at hl 0 rfl) ?_
    refine va_get (D := (dC, dI)) (ci := 6) (v := .ref (r 3)) (C := RX6) (T := TX6) (N := 11) hx hb hB inB6 hown hK hP 0 rfl rfl 3 (by decide) (hB _ lk_632) (fun _ h9 => h9) rfl nd_M_kfree_14 ?_
    refine lv_iload_n hx hb nd_M_kfree_17 rfl (lv_at hl 1 rfl) ?_
    refine lv_bipush (v := 16) hx hb nd_M_kfree_18 (by decide) ?_
    refine lv_idiv hx hb nd_M_kfree_20 (by decide) ?_
    obtain ⟨hg, hf⟩ := mi_gd_el hf
    refine va_iald hx hb hK hP 3 0 rfl rfl hg nd_M_kfree_21 ?_
    obtain ⟨hg, hf⟩ := mi_gd_el hf
    refine lv_irem hx hb nd_M_kfree_22 hg ?_
    refine lv_if_ne (tgt := 30) hx hb nd_M_kfree_23 (by decide) (fun hc => ?_) (fun hc => ?_)
    · have hf := mi_if_f hc hf
      exact B30 z1 σ hf _ _ _ (lv_sub hl [0, 1] rfl) hP hD hS
    · have hf := mi_if_t hc hf
      refine lv_iconst (v := 0) hx hb nd_M_kfree_26 (by decide) ?_
      refine lv_goto (tgt := 31) hx hb nd_M_kfree_27 (by decide) ?_
      exact B31 z1 (0 : Int32) σ hf _ _ _ (lv_sub hl [0, 1] rfl) hP hD hS
abbrev rm_M_rowOf : Room := { frames := 0, cells := 0, slots := 0, locals := 0 }
set_option maxHeartbeats 4000000 in
set_option maxRecDepth 100000 in
theorem kw_M_rowOf (l : Launch) (dC : Nat → ClassId) (dI : Nat → Nat → Nat) (r : Nat → Nat) (cI cZ : ClassId) (sz : Nat) (σ : MS) (z1 : Int32) (v : Int32) (hf : mm_rowOf σ z1 = some v) : Met l ny_M_rowOf nw_M_rowOf rm_M_rowOf (va_Pc [.ref (r 0), .int z1] (pr_ (dC, dI) (wd_M r cI cZ) [(cI, .int), (cZ, .boolean)] sz σ)) (qi_ (dC, dI) (wd_M r cI cZ) [(cI, .int), (cZ, .boolean)] (va_A (wd_M r cI cZ σ) sz) v σ) 0 0 (va_A (wd_M r cI cZ σ) sz) := by
  refine Met.ofW (cc := nb_M_rowOf) (maxL := 6) (ret := (some .int)) (by decide) rfl ?_
  intro p e s m args below meth c s₁ B hml hv
  obtain ⟨rfl, hsz, hP, hK, hD0, hN⟩ := hv
  have hx := B.exec
  have hb := B.bytes
  have hr := B.returns
  have hts := atoms_spec (ws := nw_M_rowOf) B.pre
  have hB : ∀ w ∈ BG, w.before ([.ref (r 0), .int z1] : List Value).toArray s = true := fun w h => hts w (List.mem_cons_of_mem _ h)
  have hown : s.vm.findClass "MovedFramesModel" = some m.cls := findClass_of_methodNamed B.named
  have hlocks := B.notSynchronized
  subst hsz
  have hD := hD0.self (sz := s.heap.size)
  generalize hAe : va_A (wd_M r cI cZ σ) s.heap.size = A at hD ⊢
  have hA : ∀ q : Nat, s.heap.size ≤ q → A q := fun q h => by rw [← hAe]; exact Or.inr h
  have hS : va_S A s.heap s.heap [] := va_S.rf
  have hl := lv_entry ([.ref (r 0), .int z1]) (n := 6) (Nat.le_of_ble_eq_true rfl)
  rw [lg_entry_eq]
  generalize (lg_sl ([.ref (r 0), .int z1]) ++ List.replicate (6 - (lg_sl ([.ref (r 0), .int z1])).length) Slot.unset).toArray = ls at hl ⊢
  have hl : lv_has ls 6 [(0, .ref (r 0)), (1, .int z1)] := hl
  have B53 : ∀ (k7 : Int32 → Int32 → Int32 → MS → Option (Int32)) (hk7 : ∀ (x1 : Int32) (x2 : Int32) (x3 : Int32), k7 x1 x2 x3 σ = some v → bk_ p l e rm_M_rowOf s m ([.ref (r 0), .int z1] : List Value).toArray below meth c (MQ below (qi_ (dC, dI) (wd_M r cI cZ) [(cI, .int), (cZ, .boolean)] A v σ) ([.ref (r 0), .int z1] : List Value).toArray s 0 0 A) A (dC, dI) (wd_M r cI cZ) 6 7 [(0, .ref (r 0)), (1, .int x1), (2, .int x2), (3, .int x3)] [] σ) (x1 : Int32) (x2 : Int32) (x3 : Int32) (x4 : Int32), mm_rowOf_b53 k7 x1 x2 x3 x4 σ = some v → bk_ p l e rm_M_rowOf s m ([.ref (r 0), .int z1] : List Value).toArray below meth c (MQ below (qi_ (dC, dI) (wd_M r cI cZ) [(cI, .int), (cZ, .boolean)] A v σ) ([.ref (r 0), .int z1] : List Value).toArray s 0 0 A) A (dC, dI) (wd_M r cI cZ) 6 53 [(0, .ref (r 0)), (1, .int x1), (2, .int x2), (3, .int x3), (4, .int x4)] [] σ := by
    intro k7 hk7 x1 x2 x3 x4 hf ls H locs hl hP hD hS
    unfold mm_rowOf_b53 at hf
    refine lv_iload hx hb nd_M_rowOf_53 (lv_at hl 4 rfl) ?_
    refine lv_if_eq (tgt := 62) hx hb nd_M_rowOf_55 (by decide) (fun hc => ?_) (fun hc => ?_)
    · have hf := mi_if_t hc hf
      refine lv_iload_n hx hb nd_M_rowOf_62 rfl (lv_at hl 2 rfl) ?_
      refine lv_istore_n (lv' := [(2, .int x2), (0, .ref (r 0)), (1, .int x1), (3, .int x3), (4, .int x4)]) hx hb nd_M_rowOf_63 rfl hl (by decide) rfl (fun ls hl => ?_)
      refine lv_iinc (k := 3) (v := x3 + (-1 : Int32)) (lv' := [(3, .int (x3 + (-1 : Int32))), (2, .int x2), (0, .ref (r 0)), (1, .int x1), (4, .int x4)]) hx hb nd_M_rowOf_64 hl rfl (congrArg (fun z => x3 + z) (by decide : Int32.ofInt (-1) = (-1 : Int32))) (by decide) rfl (fun ls hl => ?_)
      refine lv_goto (tgt := 7) hx hb nd_M_rowOf_67 (by decide) ?_
      exact hk7 x1 x2 (x3 + (-1 : Int32)) hf _ _ _ (lv_sub hl [2, 3, 1, 0] rfl) hP hD hS
    · have hf := mi_if_f hc hf
      refine lv_iload_n hx hb nd_M_rowOf_58 rfl (lv_at hl 3 rfl) ?_
      refine lv_goto (tgt := 63) hx hb nd_M_rowOf_59 (by decide) ?_
      refine lv_istore_n (lv' := [(2, .int x3), (0, .ref (r 0)), (1, .int x1), (3, .int x3), (4, .int x4)]) hx hb nd_M_rowOf_63 rfl hl (by decide) rfl (fun ls hl => ?_)
      refine lv_iinc (k := 3) (v := x3 + (-1 : Int32)) (lv' := [(3, .int (x3 + (-1 : Int32))), (2, .int x3), (0, .ref (r 0)), (1, .int x1), (4, .int x4)]) hx hb nd_M_rowOf_64 hl rfl (congrArg (fun z => x3 + z) (by decide : Int32.ofInt (-1) = (-1 : Int32))) (by decide) rfl (fun ls hl => ?_)
      refine lv_goto (tgt := 7) hx hb nd_M_rowOf_67 (by decide) ?_
      exact hk7 x1 x3 (x3 + (-1 : Int32)) hf _ _ _ (lv_sub hl [2, 3, 1, 0] rfl) hP hD hS
  have B17 : ∀ (k7 : Int32 → Int32 → Int32 → MS → Option (Int32)) (hk7 : ∀ (x1 : Int32) (x2 : Int32) (x3 : Int32), k7 x1 x2 x3 σ = some v → bk_ p l e rm_M_rowOf s m ([.ref (r 0), .int z1] : List Value).toArray below meth c (MQ below (qi_ (dC, dI) (wd_M r cI cZ) [(cI, .int), (cZ, .boolean)] A v σ) ([.ref (r 0), .int z1] : List Value).toArray s 0 0 A) A (dC, dI) (wd_M r cI cZ) 6 7 [(0, .ref (r 0)), (1, .int x1), (2, .int x2), (3, .int x3)] [] σ) (k17 : Int32 → Int32 → Int32 → Int32 → Int32 → MS → Option (Int32)) (hk17 : ∀ (x1 : Int32) (x2 : Int32) (x3 : Int32) (x4 : Int32) (x5 : Int32), k17 x1 x2 x3 x4 x5 σ = some v → bk_ p l e rm_M_rowOf s m ([.ref (r 0), .int z1] : List Value).toArray below meth c (MQ below (qi_ (dC, dI) (wd_M r cI cZ) [(cI, .int), (cZ, .boolean)] A v σ) ([.ref (r 0), .int z1] : List Value).toArray s 0 0 A) A (dC, dI) (wd_M r cI cZ) 6 17 [(0, .ref (r 0)), (1, .int x1), (2, .int x2), (3, .int x3), (4, .int x4), (5, .int x5)] [] σ) (x1 : Int32) (x2 : Int32) (x3 : Int32) (x4 : Int32) (x5 : Int32), mm_rowOf_b17 k7 k17 x1 x2 x3 x4 x5 σ = some v → bk_ p l e rm_M_rowOf s m ([.ref (r 0), .int z1] : List Value).toArray below meth c (MQ below (qi_ (dC, dI) (wd_M r cI cZ) [(cI, .int), (cZ, .boolean)] A v σ) ([.ref (r 0), .int z1] : List Value).toArray s 0 0 A) A (dC, dI) (wd_M r cI cZ) 6 17 [(0, .ref (r 0)), (1, .int x1), (2, .int x2), (3, .int x3), (4, .int x4), (5, .int x5)] [] σ := by
    intro k7 hk7 k17 hk17 x1 x2 x3 x4 x5 hf ls H locs hl hP hD hS
    unfold mm_rowOf_b17 at hf
    refine lv_iload hx hb nd_M_rowOf_17 (lv_at hl 5 rfl) ?_
    refine lv_iload_n hx hb nd_M_rowOf_19 rfl (lv_at hl 3 rfl) ?_
    refine lv_iload_n hx hb nd_M_rowOf_20 rfl (lv_at hl 1 rfl) ?_
    refine lv_iadd hx hb nd_M_rowOf_21 ?_
    refine lv_icmp_ge (tgt := 53) hx hb nd_M_rowOf_22 (by decide) (fun hc => ?_) (fun hc => ?_)
    · have hf := mi_if_t hc hf
      exact B53 k7 hk7 x1 x2 x3 x4 hf _ _ _ (lv_sub hl [0, 1, 2, 3, 4] rfl) hP hD hS
    · have hf := mi_if_f hc hf
      refine lv_iload hx hb nd_M_rowOf_25 (lv_at hl 4 rfl) ?_
      refine lv_if_eq (tgt := 44) hx hb nd_M_rowOf_27 (by decide) (fun hc => ?_) (fun hc => ?_)
      · have hf := mi_if_t hc hf
        refine lv_iconst (v := 0) hx hb nd_M_rowOf_44 (by decide) ?_
        refine lv_istore (lv' := [(4, .int (0 : Int32)), (0, .ref (r 0)), (1, .int x1), (2, .int x2), (3, .int x3), (5, .int x5)]) hx hb nd_M_rowOf_45 hl (by decide) rfl (fun ls hl => ?_)
        refine lv_iinc (k := 5) (v := x5 + (1 : Int32)) (lv' := [(5, .int (x5 + (1 : Int32))), (4, .int (0 : Int32)), (0, .ref (r 0)), (1, .int x1), (2, .int x2), (3, .int x3)]) hx hb nd_M_rowOf_47 hl rfl (congrArg (fun z => x5 + z) (by decide : Int32.ofInt 1 = (1 : Int32))) (by decide) rfl (fun ls hl => ?_)
        refine lv_goto (tgt := 17) hx hb nd_M_rowOf_50 (by decide) ?_
        exact hk17 x1 x2 x3 (0 : Int32) (x5 + (1 : Int32)) hf _ _ _ (lv_sub hl [2, 3, 4, 5, 1, 0] rfl) hP hD hS
      · have hf := mi_if_f hc hf
        refine lv_aload_n hx hb nd_M_rowOf_30 rfl (lv_at hl 0 rfl) ?_
        refine va_get (D := (dC, dI)) (ci := 6) (v := .ref (r 6)) (C := RX6) (T := TX6) (N := 11) hx hb hB inB6 hown hK hP 0 rfl rfl 6 (by decide) (hB _ lk_635) (fun _ h9 => h9) rfl nd_M_rowOf_31 ?_
        refine lv_iload hx hb nd_M_rowOf_34 (lv_at hl 5 rfl) ?_
        obtain ⟨hg, hf⟩ := mi_gd_el hf
        refine va_iald hx hb hK hP 6 0 rfl rfl hg nd_M_rowOf_36 ?_
        refine lv_if_ne (tgt := 44) hx hb nd_M_rowOf_37 (by decide) (fun hc => ?_) (fun hc => ?_)
        · have hf := mi_if_f hc hf
          refine lv_iconst (v := 0) hx hb nd_M_rowOf_44 (by decide) ?_
          refine lv_istore (lv' := [(4, .int (0 : Int32)), (0, .ref (r 0)), (1, .int x1), (2, .int x2), (3, .int x3), (5, .int x5)]) hx hb nd_M_rowOf_45 hl (by decide) rfl (fun ls hl => ?_)
          refine lv_iinc (k := 5) (v := x5 + (1 : Int32)) (lv' := [(5, .int (x5 + (1 : Int32))), (4, .int (0 : Int32)), (0, .ref (r 0)), (1, .int x1), (2, .int x2), (3, .int x3)]) hx hb nd_M_rowOf_47 hl rfl (congrArg (fun z => x5 + z) (by decide : Int32.ofInt 1 = (1 : Int32))) (by decide) rfl (fun ls hl => ?_)
          refine lv_goto (tgt := 17) hx hb nd_M_rowOf_50 (by decide) ?_
          exact hk17 x1 x2 x3 (0 : Int32) (x5 + (1 : Int32)) hf _ _ _ (lv_sub hl [2, 3, 4, 5, 1, 0] rfl) hP hD hS
        · have hf := mi_if_t hc hf
          refine lv_iconst (v := 1) hx hb nd_M_rowOf_40 (by decide) ?_
          refine lv_goto (tgt := 45) hx hb nd_M_rowOf_41 (by decide) ?_
          refine lv_istore (lv' := [(4, .int (1 : Int32)), (0, .ref (r 0)), (1, .int x1), (2, .int x2), (3, .int x3), (5, .int x5)]) hx hb nd_M_rowOf_45 hl (by decide) rfl (fun ls hl => ?_)
          refine lv_iinc (k := 5) (v := x5 + (1 : Int32)) (lv' := [(5, .int (x5 + (1 : Int32))), (4, .int (1 : Int32)), (0, .ref (r 0)), (1, .int x1), (2, .int x2), (3, .int x3)]) hx hb nd_M_rowOf_47 hl rfl (congrArg (fun z => x5 + z) (by decide : Int32.ofInt 1 = (1 : Int32))) (by decide) rfl (fun ls hl => ?_)
          refine lv_goto (tgt := 17) hx hb nd_M_rowOf_50 (by decide) ?_
          exact hk17 x1 x2 x3 (1 : Int32) (x5 + (1 : Int32)) hf _ _ _ (lv_sub hl [2, 3, 4, 5, 1, 0] rfl) hP hD hS
  have L17 : ∀ (k7 : Int32 → Int32 → Int32 → MS → Option (Int32)) (hk7 : ∀ (x1 : Int32) (x2 : Int32) (x3 : Int32), k7 x1 x2 x3 σ = some v → bk_ p l e rm_M_rowOf s m ([.ref (r 0), .int z1] : List Value).toArray below meth c (MQ below (qi_ (dC, dI) (wd_M r cI cZ) [(cI, .int), (cZ, .boolean)] A v σ) ([.ref (r 0), .int z1] : List Value).toArray s 0 0 A) A (dC, dI) (wd_M r cI cZ) 6 7 [(0, .ref (r 0)), (1, .int x1), (2, .int x2), (3, .int x3)] [] σ) (n : Nat) (x1 : Int32) (x2 : Int32) (x3 : Int32) (x4 : Int32) (x5 : Int32), mm_rowOf_l17 k7 n x1 x2 x3 x4 x5 σ = some v → bk_ p l e rm_M_rowOf s m ([.ref (r 0), .int z1] : List Value).toArray below meth c (MQ below (qi_ (dC, dI) (wd_M r cI cZ) [(cI, .int), (cZ, .boolean)] A v σ) ([.ref (r 0), .int z1] : List Value).toArray s 0 0 A) A (dC, dI) (wd_M r cI cZ) 6 17 [(0, .ref (r 0)), (1, .int x1), (2, .int x2), (3, .int x3), (4, .int x4), (5, .int x5)] [] σ := by
    intro k7 hk7 n
    induction n with
    | zero =>
      intro x1 x2 x3 x4 x5 hf
      exact mi_no hf
    | succ n ih =>
      intro x1 x2 x3 x4 x5 hf
      exact B17 k7 hk7 (mm_rowOf_l17 k7 n) ih x1 x2 x3 x4 x5 hf
  have B7 : ∀ (k7 : Int32 → Int32 → Int32 → MS → Option (Int32)) (hk7 : ∀ (x1 : Int32) (x2 : Int32) (x3 : Int32), k7 x1 x2 x3 σ = some v → bk_ p l e rm_M_rowOf s m ([.ref (r 0), .int z1] : List Value).toArray below meth c (MQ below (qi_ (dC, dI) (wd_M r cI cZ) [(cI, .int), (cZ, .boolean)] A v σ) ([.ref (r 0), .int z1] : List Value).toArray s 0 0 A) A (dC, dI) (wd_M r cI cZ) 6 7 [(0, .ref (r 0)), (1, .int x1), (2, .int x2), (3, .int x3)] [] σ) (x1 : Int32) (x2 : Int32) (x3 : Int32), mm_rowOf_b7 k7 x1 x2 x3 σ = some v → bk_ p l e rm_M_rowOf s m ([.ref (r 0), .int z1] : List Value).toArray below meth c (MQ below (qi_ (dC, dI) (wd_M r cI cZ) [(cI, .int), (cZ, .boolean)] A v σ) ([.ref (r 0), .int z1] : List Value).toArray s 0 0 A) A (dC, dI) (wd_M r cI cZ) 6 7 [(0, .ref (r 0)), (1, .int x1), (2, .int x2), (3, .int x3)] [] σ := by
    intro k7 hk7 x1 x2 x3 hf ls H locs hl hP hD hS
    unfold mm_rowOf_b7 at hf
    refine lv_iload_n hx hb nd_M_rowOf_7 rfl (lv_at hl 3 rfl) ?_
    refine lv_if_lt (tgt := 70) hx hb nd_M_rowOf_8 (by decide) (fun hc => ?_) (fun hc => ?_)
    · have hf := mi_if_t hc hf
      refine lv_iload_n hx hb nd_M_rowOf_70 rfl (lv_at hl 2 rfl) ?_
      exact re_i hx hb hr hlocks (mi_eq hf) (rfl) hP hK hD hS nd_M_rowOf_71
    · have hf := mi_if_f hc hf
      refine lv_iconst (v := 1) hx hb nd_M_rowOf_11 (by decide) ?_
      refine lv_istore (lv' := [(4, .int (1 : Int32)), (0, .ref (r 0)), (1, .int x1), (2, .int x2), (3, .int x3)]) hx hb nd_M_rowOf_12 hl (by decide) rfl (fun ls hl => ?_)
      refine lv_iload_n hx hb nd_M_rowOf_14 rfl (lv_at hl 4 rfl) ?_
      refine lv_istore (lv' := [(5, .int x3), (4, .int (1 : Int32)), (0, .ref (r 0)), (1, .int x1), (2, .int x2), (3, .int x3)]) hx hb nd_M_rowOf_15 hl (by decide) rfl (fun ls hl => ?_)
      exact L17 k7 hk7 FU x1 x2 x3 (1 : Int32) x3 hf _ _ _ (lv_sub hl [2, 3, 4, 5, 1, 0] rfl) hP hD hS
  have L7 : ∀ (n : Nat) (x1 : Int32) (x2 : Int32) (x3 : Int32), mm_rowOf_l7 n x1 x2 x3 σ = some v → bk_ p l e rm_M_rowOf s m ([.ref (r 0), .int z1] : List Value).toArray below meth c (MQ below (qi_ (dC, dI) (wd_M r cI cZ) [(cI, .int), (cZ, .boolean)] A v σ) ([.ref (r 0), .int z1] : List Value).toArray s 0 0 A) A (dC, dI) (wd_M r cI cZ) 6 7 [(0, .ref (r 0)), (1, .int x1), (2, .int x2), (3, .int x3)] [] σ := by
    intro n
    induction n with
    | zero =>
      intro x1 x2 x3 hf
      exact mi_no hf
    | succ n ih =>
      intro x1 x2 x3 hf
      exact B7 (mm_rowOf_l7 n) ih x1 x2 x3 hf
  have hH : s.heap = s.heap := rfl
  unfold mm_rowOf at hf
  refine lv_iconst (v := (-1)) hx hb nd_M_rowOf_0 (by decide) ?_
  refine lv_istore_n (lv' := [(2, .int (-1 : Int32)), (0, .ref (r 0)), (1, .int z1)]) hx hb nd_M_rowOf_1 rfl hl (by decide) rfl (fun ls hl => ?_)
  refine lv_bipush (v := 64) hx hb nd_M_rowOf_2 (by decide) ?_
  refine lv_iload_n hx hb nd_M_rowOf_4 rfl (lv_at hl 2 rfl) ?_
  refine lv_isub hx hb nd_M_rowOf_5 ?_
  refine lv_istore_n (lv' := [(3, .int ((64 : Int32) - z1)), (2, .int (-1 : Int32)), (0, .ref (r 0)), (1, .int z1)]) hx hb nd_M_rowOf_6 rfl hl (by decide) rfl (fun ls hl => ?_)
  exact L7 FU z1 (-1 : Int32) ((64 : Int32) - z1) hf _ _ _ (lv_sub hl [2, 3, 1, 0] rfl) hP hD hS
abbrev rm_M_vmalloc : Room := { frames := 4, cells := 0, slots := 0, locals := 91 }
set_option maxHeartbeats 4000000 in
set_option maxRecDepth 100000 in
theorem kw_M_vmalloc (l : Launch) (dC : Nat → ClassId) (dI : Nat → Nat → Nat) (r : Nat → Nat) (cI cZ : ClassId) (sz : Nat) (σ : MS) (z1 : Int32) (v : Int32) (σ' : MS) (hf : mm_vmalloc σ z1 = some (v, σ')) : Met l ny_M_vmalloc nw_M_vmalloc rm_M_vmalloc (va_Pc [.ref (r 0), .int z1] (pr_ (dC, dI) (wd_M r cI cZ) [(cI, .int), (cZ, .boolean)] sz σ)) (qi_ (dC, dI) (wd_M r cI cZ) [(cI, .int), (cZ, .boolean)] (va_A (wd_M r cI cZ σ) sz) v σ') 0 0 (va_A (wd_M r cI cZ σ) sz) := by
  refine Met.ofW (cc := nb_M_vmalloc) (maxL := 5) (ret := (some .int)) (by decide) rfl ?_
  intro p e s m args below meth c s₁ B hml hv
  obtain ⟨rfl, hsz, hP, hK, hD0, hN⟩ := hv
  have hx := B.exec
  have hb := B.bytes
  have hr := B.returns
  have hts := atoms_spec (ws := nw_M_vmalloc) B.pre
  have hB : ∀ w ∈ BG, w.before ([.ref (r 0), .int z1] : List Value).toArray s = true := fun w h => hts w (List.mem_cons_of_mem _ h)
  have hown : s.vm.findClass "MovedFramesModel" = some m.cls := findClass_of_methodNamed B.named
  have hlocks := B.notSynchronized
  subst hsz
  have hD := hD0.self (sz := s.heap.size)
  generalize hAe : va_A (wd_M r cI cZ σ) s.heap.size = A at hD ⊢
  have hA : ∀ q : Nat, s.heap.size ≤ q → A q := fun q h => by rw [← hAe]; exact Or.inr h
  have hS : va_S A s.heap s.heap [] := va_S.rf
  have hl := lv_entry ([.ref (r 0), .int z1]) (n := 5) (Nat.le_of_ble_eq_true rfl)
  rw [lg_entry_eq]
  generalize (lg_sl ([.ref (r 0), .int z1]) ++ List.replicate (5 - (lg_sl ([.ref (r 0), .int z1])).length) Slot.unset).toArray = ls at hl ⊢
  have hl : lv_has ls 5 [(0, .ref (r 0)), (1, .int z1)] := hl
  have B87 : ∀ (x1 : Int32) (x3 : Int32) (σ : MS), mm_vmalloc_b87 x1 x3 σ = some (v, σ') → bk_ p l e rm_M_vmalloc s m ([.ref (r 0), .int z1] : List Value).toArray below meth c (MQ below (qi_ (dC, dI) (wd_M r cI cZ) [(cI, .int), (cZ, .boolean)] A v σ') ([.ref (r 0), .int z1] : List Value).toArray s 0 0 A) A (dC, dI) (wd_M r cI cZ) 5 87 [(0, .ref (r 0)), (1, .int x1), (3, .int x3)] [] σ := by
    intro x1 x3 σ hf ls H locs hl hP hD hS
    unfold mm_vmalloc_b87 at hf
    refine lv_aload_n hx hb nd_M_vmalloc_87 rfl (lv_at hl 0 rfl) ?_
    refine va_get (D := (dC, dI)) (ci := 6) (v := .ref (r 7)) (C := RX6) (T := TX6) (N := 11) hx hb hB inB6 hown hK hP 0 rfl rfl 7 (by decide) (hB _ lk_636) (fun _ h9 => h9) rfl nd_M_vmalloc_88 ?_
    refine lv_iload_n hx hb nd_M_vmalloc_91 rfl (lv_at hl 2 rfl) ?_
    refine lv_iload_n hx hb nd_M_vmalloc_92 rfl (lv_at hl 1 rfl) ?_
    obtain ⟨hg, hf⟩ := mi_gd_el hf
    refine va_iast hx hb hK hP hD hS 7 0 rfl rfl hg nd_M_vmalloc_93 (fun H locs hP hD hS => ?_)
    obtain ⟨σ4, e9, hf⟩ := mi_wr_ex hf
    have hP : va_P (dC, dI) vwCl (wd_M r cI cZ σ4) H := by rw [e9]; exact hP
    have hD : va_D A (wd_M r cI cZ σ4) := by rw [e9]; exact hD
    refine lv_bipush (v := 16) hx hb nd_M_vmalloc_94 (by decide) ?_
    refine lv_iload_n hx hb nd_M_vmalloc_96 rfl (lv_at hl 2 rfl) ?_
    refine lv_imul hx hb nd_M_vmalloc_97 ?_
    exact re_i hx hb hr hlocks ((mi_pr hf).1) ((mi_pr hf).2) hP hK hD hS nd_M_vmalloc_98
  have B59 : ∀ (k59 : Int32 → Int32 → Int32 → MS → Option (Int32 × MS)) (hk59 : ∀ (x1 : Int32) (x3 : Int32) (x4 : Int32) (σ : MS), k59 x1 x3 x4 σ = some (v, σ') → bk_ p l e rm_M_vmalloc s m ([.ref (r 0), .int z1] : List Value).toArray below meth c (MQ below (qi_ (dC, dI) (wd_M r cI cZ) [(cI, .int), (cZ, .boolean)] A v σ') ([.ref (r 0), .int z1] : List Value).toArray s 0 0 A) A (dC, dI) (wd_M r cI cZ) 5 59 [(0, .ref (r 0)), (1, .int x1), (3, .int x3), (4, .int x4)] [] σ) (x1 : Int32) (x3 : Int32) (x4 : Int32) (σ : MS), mm_vmalloc_b59 k59 x1 x3 x4 σ = some (v, σ') → bk_ p l e rm_M_vmalloc s m ([.ref (r 0), .int z1] : List Value).toArray below meth c (MQ below (qi_ (dC, dI) (wd_M r cI cZ) [(cI, .int), (cZ, .boolean)] A v σ') ([.ref (r 0), .int z1] : List Value).toArray s 0 0 A) A (dC, dI) (wd_M r cI cZ) 5 59 [(0, .ref (r 0)), (1, .int x1), (3, .int x3), (4, .int x4)] [] σ := by
    intro k59 hk59 x1 x3 x4 σ hf ls H locs hl hP hD hS
    unfold mm_vmalloc_b59 at hf
    refine lv_iload hx hb nd_M_vmalloc_59 (lv_at hl 3 rfl) ?_
    refine lv_iload_n hx hb nd_M_vmalloc_61 rfl (lv_at hl 2 rfl) ?_
    refine lv_iload_n hx hb nd_M_vmalloc_62 rfl (lv_at hl 1 rfl) ?_
    refine lv_iadd hx hb nd_M_vmalloc_63 ?_
    refine lv_icmp_ge (tgt := 87) hx hb nd_M_vmalloc_64 (by decide) (fun hc => ?_) (fun hc => ?_)
    · have hf := mi_if_t hc hf
      exact B87 x1 x3 σ hf _ _ _ (lv_sub hl [0, 1, 2] rfl) hP hD hS
    · have hf := mi_if_f hc hf
      refine lv_aload_n hx hb nd_M_vmalloc_67 rfl (lv_at hl 0 rfl) ?_
      refine va_get (D := (dC, dI)) (ci := 6) (v := .ref (r 6)) (C := RX6) (T := TX6) (N := 11) hx hb hB inB6 hown hK hP 0 rfl rfl 6 (by decide) (hB _ lk_635) (fun _ h9 => h9) rfl nd_M_vmalloc_68 ?_
      refine lv_iload hx hb nd_M_vmalloc_71 (lv_at hl 3 rfl) ?_
      refine lv_iconst (v := 1) hx hb nd_M_vmalloc_73 (by decide) ?_
      refine lv_aload_n hx hb nd_M_vmalloc_74 rfl (lv_at hl 0 rfl) ?_
      refine lv_iconst (v := 3) hx hb nd_M_vmalloc_75 (by decide) ?_
      obtain ⟨r6, σ5, hc, hf⟩ := mi_cw_el hf
      refine ca_i (va_runV (C := "MovedFramesModel") (As := [.int (3 : Int32)]) (rest := [.int (1 : Int32), .int x4, .ref (r 6)]) ⟨hx, hb, hml, hown, hB⟩ (kw_M_give l dC dI r cI cZ _ σ (3 : Int32) r6 σ5 hc) ⟨callB_of 1 hB (gi_ lk_685) rfl rfl rfl (hB _ lk_7) (hB _ lk_682) (by decide +kernel) ⟨Nat.le_of_ble_eq_true rfl, Nat.le_of_ble_eq_true rfl⟩, hB _ lk_684, hB _ ls_27⟩ ⟨bl_, va_recv (ci := 6) (q0 := 0) hK hP rfl rfl, pre_ hP hK hD hN⟩ rfl rfl hl.1 rfl (lv_room (Nat.le_of_ble_eq_true rfl)) nd_M_vmalloc_76 ⟨Nat.zero_le _, Nat.zero_le _⟩) hD hS hA (fun H locs hP hD hS => ?_)
      refine lv_iadd hx hb nd_M_vmalloc_79 ?_
      obtain ⟨hg, hf⟩ := mi_gd_el hf
      refine va_iast hx hb hK hP hD hS 6 0 rfl rfl hg nd_M_vmalloc_80 (fun H locs hP hD hS => ?_)
      obtain ⟨σ7, e9, hf⟩ := mi_wr_ex hf
      have hP : va_P (dC, dI) vwCl (wd_M r cI cZ σ7) H := by rw [e9]; exact hP
      have hD : va_D A (wd_M r cI cZ σ7) := by rw [e9]; exact hD
      refine lv_iinc (k := 3) (v := x4 + (1 : Int32)) (lv' := [(4, .int (x4 + (1 : Int32))), (0, .ref (r 0)), (1, .int x1), (3, .int x3)]) hx hb nd_M_vmalloc_81 hl rfl (congrArg (fun z => x4 + z) (by decide : Int32.ofInt 1 = (1 : Int32))) (by decide) rfl (fun ls hl => ?_)
      refine lv_goto (tgt := 59) hx hb nd_M_vmalloc_84 (by decide) ?_
      exact hk59 x1 x3 (x4 + (1 : Int32)) σ7 hf _ _ _ (lv_sub hl [1, 2, 3, 0] rfl) hP hD hS
  have L59 : ∀ (n : Nat) (x1 : Int32) (x3 : Int32) (x4 : Int32) (σ : MS), mm_vmalloc_l59 n x1 x3 x4 σ = some (v, σ') → bk_ p l e rm_M_vmalloc s m ([.ref (r 0), .int z1] : List Value).toArray below meth c (MQ below (qi_ (dC, dI) (wd_M r cI cZ) [(cI, .int), (cZ, .boolean)] A v σ') ([.ref (r 0), .int z1] : List Value).toArray s 0 0 A) A (dC, dI) (wd_M r cI cZ) 5 59 [(0, .ref (r 0)), (1, .int x1), (3, .int x3), (4, .int x4)] [] σ := by
    intro n
    induction n with
    | zero =>
      intro x1 x3 x4 σ hf
      exact mi_no hf
    | succ n ih =>
      intro x1 x3 x4 σ hf
      exact B59 (mm_vmalloc_l59 n) ih x1 x3 x4 σ hf
  have B48 : ∀ (x1 : Int32) (x3 : Int32) (y1 : Int32) (σ : MS), mm_vmalloc_b48 x1 x3 y1 σ = some (v, σ') → bk_ p l e rm_M_vmalloc s m ([.ref (r 0), .int z1] : List Value).toArray below meth c (MQ below (qi_ (dC, dI) (wd_M r cI cZ) [(cI, .int), (cZ, .boolean)] A v σ') ([.ref (r 0), .int z1] : List Value).toArray s 0 0 A) A (dC, dI) (wd_M r cI cZ) 5 48 [(0, .ref (r 0)), (1, .int x1), (3, .int x3)] [.int y1, .ref (r 0)] σ := by
    intro x1 x3 y1 σ hf ls H locs hl hP hD hS
    unfold mm_vmalloc_b48 at hf
    obtain ⟨r3, σ2, hc, hf⟩ := mi_cw_el hf
    refine ca_i (va_runV (C := "MovedFramesModel") (As := [.int y1]) (rest := []) ⟨hx, hb, hml, hown, hB⟩ (kw_M_throwsBy l dC dI r cI cZ _ σ y1 r3 σ2 hc) ⟨callB_of 1 hB (gi_ lk_681) rfl rfl rfl (hB _ lk_7) (hB _ lk_678) (by decide +kernel) ⟨Nat.le_of_ble_eq_true rfl, Nat.le_of_ble_eq_true rfl⟩, hB _ lk_680, hB _ ls_26⟩ ⟨bl_, va_recv (ci := 6) (q0 := 0) hK hP rfl rfl, pre_ hP hK hD hN⟩ rfl rfl hl.1 rfl (lv_room (Nat.le_of_ble_eq_true rfl)) nd_M_vmalloc_48 ⟨Nat.zero_le _, Nat.zero_le _⟩) hD hS hA (fun H locs hP hD hS => ?_)
    refine lv_if_eq (tgt := 56) hx hb nd_M_vmalloc_51 (by decide) (fun hc => ?_) (fun hc => ?_)
    · have hf := mi_if_t hc hf
      refine lv_iload_n hx hb nd_M_vmalloc_56 rfl (lv_at hl 2 rfl) ?_
      refine lv_istore (lv' := [(4, .int x3), (0, .ref (r 0)), (1, .int x1), (3, .int x3)]) hx hb nd_M_vmalloc_57 hl (by decide) rfl (fun ls hl => ?_)
      exact L59 FU x1 x3 x3 σ2 hf _ _ _ (lv_sub hl [1, 2, 3, 0] rfl) hP hD hS
    · have hf := mi_if_f hc hf
      refine lv_iconst (v := 0) hx hb nd_M_vmalloc_54 (by decide) ?_
      exact re_i hx hb hr hlocks ((mi_pr hf).1) ((mi_pr hf).2) hP hK hD hS nd_M_vmalloc_55
  have B21 : ∀ (x1 : Int32) (x2 : Int32) (y0 : Int32) (σ : MS), mm_vmalloc_b21 x1 x2 y0 σ = some (v, σ') → bk_ p l e rm_M_vmalloc s m ([.ref (r 0), .int z1] : List Value).toArray below meth c (MQ below (qi_ (dC, dI) (wd_M r cI cZ) [(cI, .int), (cZ, .boolean)] A v σ') ([.ref (r 0), .int z1] : List Value).toArray s 0 0 A) A (dC, dI) (wd_M r cI cZ) 5 21 [(0, .ref (r 0)), (1, .int x1), (2, .int x2)] [.int y0] σ := by
    intro x1 x2 y0 σ hf ls H locs hl hP hD hS
    unfold mm_vmalloc_b21 at hf
    refine lv_istore_n (lv' := [(3, .int y0), (0, .ref (r 0)), (1, .int x1), (2, .int x2)]) hx hb nd_M_vmalloc_21 rfl hl (by decide) rfl (fun ls hl => ?_)
    refine lv_aload_n hx hb nd_M_vmalloc_22 rfl (lv_at hl 1 rfl) ?_
    refine lv_iload_n hx hb nd_M_vmalloc_23 rfl (lv_at hl 3 rfl) ?_
    refine lv_if_ne (tgt := 31) hx hb nd_M_vmalloc_24 (by decide) (fun hc => ?_) (fun hc => ?_)
    · have hf := mi_if_f hc hf
      refine lv_iload_n hx hb nd_M_vmalloc_31 rfl (lv_at hl 0 rfl) ?_
      refine lv_if_lt (tgt := 43) hx hb nd_M_vmalloc_32 (by decide) (fun hc => ?_) (fun hc => ?_)
      · have hf := mi_if_t hc hf
        refine lv_iconst (v := 2) hx hb nd_M_vmalloc_43 (by decide) ?_
        refine lv_goto (tgt := 48) hx hb nd_M_vmalloc_44 (by decide) ?_
        exact B48 x1 y0 (2 : Int32) σ hf _ _ _ (lv_sub hl [1, 2, 0] rfl) hP hD hS
      · have hf := mi_if_f hc hf
        refine lv_aload_n hx hb nd_M_vmalloc_35 rfl (lv_at hl 1 rfl) ?_
        obtain ⟨r8, hc, hf⟩ := mi_cp_el hf
        refine ca_i (va_runV (C := "MovedFramesModel") (As := []) (rest := [.ref (r 0)]) ⟨hx, hb, hml, hown, hB⟩ (kw_M_countFree l dC dI r cI cZ _ σ r8 hc) ⟨callB_of 0 hB (gi_ lk_677) rfl rfl rfl (hB _ lk_7) (hB _ lk_674) (by decide +kernel) ⟨Nat.le_of_ble_eq_true rfl, Nat.le_of_ble_eq_true rfl⟩, hB _ lk_676, hB _ ls_25⟩ ⟨bl_, va_recv (ci := 6) (q0 := 0) hK hP rfl rfl, pre_ hP hK hD hN⟩ rfl rfl hl.1 rfl (lv_room (Nat.le_of_ble_eq_true rfl)) nd_M_vmalloc_36 ⟨Nat.zero_le _, Nat.zero_le _⟩) hD hS hA (fun H locs hP hD hS => ?_)
        refine lv_iload_n hx hb nd_M_vmalloc_39 rfl (lv_at hl 2 rfl) ?_
        refine lv_icmp_ge (tgt := 47) hx hb nd_M_vmalloc_40 (by decide) (fun hc => ?_) (fun hc => ?_)
        · have hf := mi_if_t hc hf
          refine lv_iconst (v := 0) hx hb nd_M_vmalloc_47 (by decide) ?_
          exact B48 x1 y0 (0 : Int32) σ hf _ _ _ (lv_sub hl [1, 2, 0] rfl) hP hD hS
        · have hf := mi_if_f hc hf
          refine lv_iconst (v := 2) hx hb nd_M_vmalloc_43 (by decide) ?_
          refine lv_goto (tgt := 48) hx hb nd_M_vmalloc_44 (by decide) ?_
          exact B48 x1 y0 (2 : Int32) σ hf _ _ _ (lv_sub hl [1, 2, 0] rfl) hP hD hS
    · have hf := mi_if_t hc hf
      refine lv_iconst (v := 1) hx hb nd_M_vmalloc_27 (by decide) ?_
      refine lv_goto (tgt := 48) hx hb nd_M_vmalloc_28 (by decide) ?_
      exact B48 x1 y0 (1 : Int32) σ hf _ _ _ (lv_sub hl [1, 2, 0] rfl) hP hD hS
  have hH : s.heap = s.heap := rfl
  unfold mm_vmalloc at hf
  refine lv_iload_n hx hb nd_M_vmalloc_0 rfl (lv_at hl 1 rfl) ?_
  refine lv_iconst (v := 1) hx hb nd_M_vmalloc_1 (by decide) ?_
  refine lv_bipush (v := 8) hx hb nd_M_vmalloc_2 (by decide) ?_
  obtain ⟨r1, hc, hf⟩ := mi_cp_el hf
  refine ca_i (va_runS (As := [.int z1, .int (1 : Int32), .int (8 : Int32)]) (rest := []) ⟨hx, hb, hml, hown, hB⟩ (kw_M_in l dC dI r cI cZ _ σ z1 (1 : Int32) (8 : Int32) r1 hc) ⟨callB_of 3 hB (gi_ lk_673) rfl rfl rfl (hB _ lk_7) (hB _ lk_671) (by decide +kernel) ⟨Nat.le_of_ble_eq_true rfl, Nat.le_of_ble_eq_true rfl⟩, hB _ lk_672⟩ ⟨bl_, pre_ hP hK hD hN⟩ rfl rfl hl.1 rfl (lv_room (Nat.le_of_ble_eq_true rfl)) nd_M_vmalloc_4 ⟨Nat.zero_le _, Nat.zero_le _⟩) hD hS hA (fun H locs hP hD hS => ?_)
  refine lv_istore_n (lv' := [(2, .int r1), (0, .ref (r 0)), (1, .int z1)]) hx hb nd_M_vmalloc_7 rfl hl (by decide) rfl (fun ls hl => ?_)
  refine lv_iload_n hx hb nd_M_vmalloc_8 rfl (lv_at hl 0 rfl) ?_
  refine lv_if_eq (tgt := 20) hx hb nd_M_vmalloc_9 (by decide) (fun hc => ?_) (fun hc => ?_)
  · have hf := mi_if_t hc hf
    refine lv_iconst (v := (-1)) hx hb nd_M_vmalloc_20 (by decide) ?_
    exact B21 z1 r1 (-1 : Int32) σ hf _ _ _ (lv_sub hl [1, 2, 0] rfl) hP hD hS
  · have hf := mi_if_f hc hf
    refine lv_aload_n hx hb nd_M_vmalloc_12 rfl (lv_at hl 1 rfl) ?_
    refine lv_iload_n hx hb nd_M_vmalloc_13 rfl (lv_at hl 2 rfl) ?_
    obtain ⟨r9, hc, hf⟩ := mi_cp_el hf
    refine ca_i (va_runV (C := "MovedFramesModel") (As := [.int z1]) (rest := []) ⟨hx, hb, hml, hown, hB⟩ (kw_M_rowOf l dC dI r cI cZ _ σ z1 r9 hc) ⟨callB_of 1 hB (gi_ lk_717) rfl rfl rfl (hB _ lk_7) (hB _ lk_714) (by decide +kernel) ⟨Nat.le_of_ble_eq_true rfl, Nat.le_of_ble_eq_true rfl⟩, hB _ lk_716, hB _ ls_33⟩ ⟨bl_, va_recv (ci := 6) (q0 := 0) hK hP rfl rfl, pre_ hP hK hD hN⟩ rfl rfl hl.1 rfl (lv_room (Nat.le_of_ble_eq_true rfl)) nd_M_vmalloc_14 ⟨Nat.zero_le _, Nat.zero_le _⟩) hD hS hA (fun H locs hP hD hS => ?_)
    refine lv_goto (tgt := 21) hx hb nd_M_vmalloc_17 (by decide) ?_
    exact B21 z1 r1 r9 σ hf _ _ _ (lv_sub hl [1, 2, 0] rfl) hP hD hS
