def nc_ (U : State) : Prop := va_Nc "java/lang/IllegalStateException" "java/lang/IllegalArgumentException" U ∧ va_Nc "java/lang/IndexOutOfBoundsException" "java/lang/IllegalArgumentException" U ∧ va_Nc "java/lang/IllegalStateException" "java/lang/IndexOutOfBoundsException" U
theorem nc_moved {u U : State} (h : u.vm.Alike U.vm) (hC : nc_ u) : nc_ U := ⟨va_Nc.moved h hC.1, va_Nc.moved h hC.2.1, va_Nc.moved h hC.2.2⟩
def wo_ (qo : Nat) (cJ : ClassId) (o : Nat → Int64) : Nat × va_E := (qo, .inl (cJ, 1, .inr (.inl o)))
def wh_ (q : Nat → Nat) (qo : Nat) (cI cZ cJ : ClassId) (u : CS × (Nat → Int64)) : va_W := wd_C q cI cZ u.1 ++ [wo_ qo cJ u.2]
def prh_ {S : Type} (D : va_G) (wd : S → va_W) (tys : List (ClassId × FieldType)) (sz : Nat) (σ : S) : State → Prop := fun U => prx_ D wd tys sz σ U ∧ nc_ U
theorem blh_ {S : Type} {D : va_G} {wd : S → va_W} {tys : List (ClassId × FieldType)} {av : List Value} {σ : S} {sz : Nat} : FrameBlind (va_Pc av (prh_ D wd tys sz σ)) := fun a U g mk q => by
  obtain ⟨q0, q1, q2⟩ := q
  obtain ⟨_, q3⟩ := blx_ (av := av) a U g mk ⟨q0, q1⟩
  exact ⟨q0, q3, nc_moved (u := U) (U := U.calling g mk a) (Vm.Alike.refl U.vm) q2⟩
theorem preh_ {s : State} {H : Heap} {locs : List Loc} {S : Type} {D : va_G} {wd : S → va_W} {tys : List (ClassId × FieldType)} {A : Nat → Prop} {av : List Value} {σ : S} (hP : va_P D vwCl (wd σ) H) (hK : va_K D vwCl tys s) (hD : va_D A (wd σ)) (hN : nl_ s) (hT : tp_ s) (hZ : zq_ A s s.heap) (hC : nc_ s) (hS : va_S A s.heap H locs) (hA : ∀ q, s.heap.size ≤ q → A q) :
    ∀ U : State, U.heap = H → s.WarmedH U.vm → va_Pc av (prh_ D wd tys H.size σ) av.toArray U := fun U hU hW =>
  ⟨rfl, (prex_ (av := av) hP hK hD hN hT hZ hS hA U hU hW).2, nc_moved hW.alike hC⟩
theorem csw_ {R : Room} {s : State} {args : Array Value} {own : String} {index maxL mc ms : Nat} {y : MethodName} {bytes : ByteArray} {ret : Option FieldType} {hh : List (Nat × Nat × Nat × Nat)} {Ts ws ws' : List Cond} {rm : Room} (n : Nat) (ht : ∀ w ∈ Ts, w.before args s = true) (hG : GoodIn Ts ws) (hw : ws = Cond.codeWith y bytes maxL ret hh :: ws') (hrc : rm.cells = mc) (hrs : rm.slots = ms) (hini : (Cond.initialized y.cls).before args s = true) (hl : (Cond.methodLink own index y).before args s = true) (hst : (Cond.static y).before args s = true)
    (hd : y.cls ≠ "java/lang/invoke/MethodHandle" ∧ y.cls ≠ "java/lang/invoke/VarHandle" ∧ (parseMethodDescriptor y.desc).map (fun d => d.parameters.length) = some n) (hR : rm.frames + 1 ≤ R.frames ∧ 8 + (maxL + 11) + rm.locals ≤ R.locals) : vx_CSW R s args own index y bytes maxL ret hh ws rm mc ms n := by
  have hc : Cond.codeWith y bytes maxL ret hh ∈ ws := by rw [hw]; exact List.mem_cons_self
  refine ⟨⟨hrc, hrs, hR.1, hR.2, pay_in ht hG, hc⟩, ht _ (hG _ hc).1, hini, ⟨hd.1, hd.2.1⟩, fun sig h => ?_, hl, hst⟩
  have h2 := hd.2.2
  rw [h] at h2
  exact (Option.some.inj h2).symm
def kc_L_kmalloc (n : Nat) (k : Int32) : Prop := (n = 0 ∧ k = 0) ∨ (n = 1 ∧ k = 1) ∨ (n = 3 ∧ k = 2)
abbrev rh_L_kmalloc : Room := { frames := 8, cells := 1, slots := 6, locals := 136 }
set_option maxHeartbeats 4000000 in
set_option maxRecDepth 100000 in
theorem kh_L_kmalloc (l : Launch) (dC : Nat → ClassId) (dI : Nat → Nat → Nat) (q : Nat → Nat) (qo : Nat) (cI cZ cJ : ClassId) (sz : Nat) (σ : CS) (o : Nat → Int64) (x1 : Int32) (v : Int32) (n : Nat) (σ' : CS) (k : Int32) (htr : l.stackTraces = false) (hk : kc_L_kmalloc n k) (hf : mc_kmalloc σ x1 = some (v, n, σ')) : Met l ny_L_kmalloc nw_L_kmalloc rh_L_kmalloc (va_Pc [.ref (q 0), .int x1, .ref qo] (prh_ (dC, dI) (wh_ q qo cI cZ cJ) [(cI, .int), (cZ, .boolean), (cJ, .long)] sz (σ, o))) (qi_ (dC, dI) (wh_ q qo cI cZ cJ) [(cI, .int), (cZ, .boolean), (cJ, .long)] (va_A (wh_ q qo cI cZ cJ (σ, o)) sz) k (σ', (if n = 0 then vp_updL o 0 v.toInt64 else o))) 1 6 (va_A (wh_ q qo cI cZ cJ (σ, o)) sz) := by
  refine va_MetW (cc := nb_L_kmalloc) (maxL := 4) (ret := (some .int)) (hh := nh_L_kmalloc) (by decide) rfl ?_
  intro p e s m args below meth c s₁ B hml hv
  obtain ⟨rfl, ⟨⟨hsz, hP, hK, hD0, hN⟩, hT, hZ⟩, hC⟩ := hv
  have hx := B.exec
  have hb := B.bytes
  have hr := B.returns
  have hts := atoms_spec (ws := nw_L_kmalloc) B.pre
  have hB : ∀ w ∈ BG, w.before ([.ref (q 0), .int x1, .ref qo] : List Value).toArray s = true := fun w h => hts w (List.mem_cons_of_mem _ h)
  have hown : s.vm.findClass "MovedFramesLaw" = some m.cls := findClass_of_methodNamed B.named
  have hlocks := B.notSynchronized
  have htab : c.exceptionTable.toList = tableOf nh_L_kmalloc := vx_table (x := ny_L_kmalloc) B (hts _ List.mem_cons_self)
  subst hsz
  have hD := hD0.self (sz := s.heap.size)
  generalize hAe : va_A (wh_ q qo cI cZ cJ (σ, o)) s.heap.size = A at hD hZ ⊢
  have hA : ∀ q : Nat, s.heap.size ≤ q → A q := fun q h => by rw [← hAe]; exact Or.inr h
  have hS : va_S A s.heap s.heap [] := va_S.rf
  have hl := lv_entry ([.ref (q 0), .int x1, .ref qo]) (n := 4) (Nat.le_of_ble_eq_true rfl)
  rw [lg_entry_eq]
  generalize (lg_sl ([.ref (q 0), .int x1, .ref qo]) ++ List.replicate (4 - (lg_sl ([.ref (q 0), .int x1, .ref qo])).length) Slot.unset).toArray = ls at hl ⊢
  have hl : lv_has ls 4 [(0, .ref (q 0)), (1, .int x1), (2, .ref qo)] := hl
  refine lv_aload_n hx hb nd_L_kmalloc_0 rfl (lv_at hl 2 rfl) ?_
  refine lv_iconst (v := 0) hx hb nd_L_kmalloc_1 (by decide) ?_
  refine lv_aload_n hx hb nd_L_kmalloc_2 rfl (lv_at hl 0 rfl) ?_
  refine lv_iload_n hx hb nd_L_kmalloc_3 rfl (lv_at hl 1 rfl) ?_
  have hPc : va_P (dC, dI) vwCl (wd_C q cI cZ σ) s.heap := hP.sub [0, 1, 2, 3, 4, 5, 6, 7, 8, 9, 10, 11, 12, 13, 14, 15] rfl
  have hDc : va_D A (wd_C q cI cZ σ) := hD.sub [0, 1, 2, 3, 4, 5, 6, 7, 8, 9, 10, 11, 12, 13, 14, 15] (by decide) rfl
  have hKc : va_K (dC, dI) vwCl [(cI, .int), (cZ, .boolean)] s := hK.sub [0, 1] rfl
  have hFc := va_free (wc := (wd_C q cI cZ σ)) hD hS hA [0, 1, 2, 3, 4, 5, 6, 7, 8, 9, 10, 11, 12, 13, 14, 15] rfl
  rcases hk with ⟨rfl, rfl⟩ | ⟨rfl, rfl⟩ | ⟨rfl, rfl⟩
  · refine va_calli (va_runV (C := "MovedFrames") (As := [.int x1]) (rest := [.int 0, .ref qo]) ⟨hx, hb, hml, hown, hB⟩ (kw_F_kmalloc l dC dI q cI cZ _ σ x1 v σ' hf) ⟨callB_of 1 hB (gi_ lk_223) rfl rfl rfl (hB _ lk_1) (hB _ lk_220) (by decide +kernel) ⟨(Nat.le_of_ble_eq_true rfl), (Nat.le_of_ble_eq_true rfl)⟩, hB _ lk_221, hB _ lk_222⟩ ⟨bl_, va_recv (ci := 5) (q0 := 0) hKc hPc rfl rfl, pre_ hPc hKc hDc hN⟩ rfl rfl hl.1 rfl (lv_room (Nat.le_of_ble_eq_true rfl)) nd_L_kmalloc_4 ⟨Nat.zero_le _, Nat.zero_le _⟩) hS (fun q _ h => hFc q h) hFc (fun r9 u t H1 locs ht hvm hw hB1 hz1 hk1 hS => ?_)
    obtain ⟨hr9, hu⟩ := hw
    have hr9 := hr9.symm
    subst hr9
    obtain ⟨hP1, hK1, hD1⟩ := hB1
    rw [ht] at hP1
    rw [hu] at hP1 hD1
    obtain ⟨hP, hD⟩ := va_join (wc := (wd_C q cI cZ σ)) (wr := [wo_ qo cJ o]) (w1 := wd_C q cI cZ σ') hP hD [0, 1, 2, 3, 4, 5, 6, 7, 8, 9, 10, 11, 12, 13, 14, 15] [16] rfl rfl (by decide) (by decide) hk1 hFc hP1 hD1
    have hP : va_P (dC, dI) vwCl (wh_ q qo cI cZ cJ (σ', o)) H1 := hP.sub [1, 2, 3, 4, 5, 6, 7, 8, 9, 10, 11, 12, 13, 14, 15, 16, 0] rfl
    have hD : va_D A (wh_ q qo cI cZ cJ (σ', o)) := hD.sub [1, 2, 3, 4, 5, 6, 7, 8, 9, 10, 11, 12, 13, 14, 15, 16, 0] (by decide) rfl
    refine lv_i2l (v := v.toInt64) hx hb nd_L_kmalloc_7 rfl ?_
    refine va_last hx hb hK hP hD hS 16 2 rfl rfl (by unfold vp_in; decide) nd_L_kmalloc_8 (fun H locs hP hD hS => ?_)
    have hP : va_P (dC, dI) vwCl (wh_ q qo cI cZ cJ (σ', vp_updL o 0 v.toInt64)) H := hP
    have hD : va_D A (wh_ q qo cI cZ cJ (σ', vp_updL o 0 v.toInt64)) := hD
    refine lv_goto (tgt := 18) hx hb nd_L_kmalloc_9 (by decide) ?_
    refine lv_iconst (v := 0) hx hb nd_L_kmalloc_18 (by decide) ?_
    refine W.widen (k := 1) (n := 6) (Nat.le_of_ble_eq_true rfl) (Nat.le_of_ble_eq_true rfl) ?_
    exact re_i hx hb hr hlocks rfl rfl hP hK hD hS nd_L_kmalloc_19
  · refine vx_calli (vx_runV (C := "MovedFrames") (As := [.int x1]) (rest := [.int 0, .ref qo]) ⟨hx, hb, hml, hown, hB⟩ (kt_F_kmalloc l dC dI q cI cZ _ σ x1 v 1 σ' htr (by decide) hf) ⟨callB_of 1 hB (gi_ lk_223) rfl rfl rfl (hB _ lk_1) (hB _ lk_220) (by decide +kernel) ⟨(Nat.le_of_ble_eq_true rfl), (Nat.le_of_ble_eq_true rfl)⟩, hB _ lk_221, hB _ lk_222⟩ ⟨blx_, va_recv (ci := 5) (q0 := 0) hKc hPc rfl rfl, prex_ hPc hKc hDc hN hT hZ hS hA⟩ rfl rfl hl.1 rfl (lv_room (Nat.le_of_ble_eq_true rfl)) nd_L_kmalloc_4 ⟨(Nat.le_of_ble_eq_true rfl), (Nat.le_of_ble_eq_true rfl)⟩) hS (fun q _ h => hFc q h) hFc (fun q _ h => hFc q h) (fun E ce q9 u t H1 locs ht hvm hpx hB1 hz1 hk1 hS hce hcv hcl => ?_) (fun r u t H1 locs1 ht hvm hp => hp.elim)
    obtain ⟨-, hu⟩ := hpx
    obtain ⟨hE, hP1, hK1, hD1⟩ := hB1
    subst hE
    rw [ht] at hP1
    rw [hu] at hP1 hD1
    obtain ⟨hP, hD⟩ := va_join (wc := (wd_C q cI cZ σ)) (wr := [wo_ qo cJ o]) (w1 := wd_C q cI cZ σ') hP hD [0, 1, 2, 3, 4, 5, 6, 7, 8, 9, 10, 11, 12, 13, 14, 15] [16] rfl rfl (by decide) (by decide) hk1 hFc hP1 hD1
    have hP : va_P (dC, dI) vwCl (wh_ q qo cI cZ cJ (σ', o)) H1 := hP.sub [1, 2, 3, 4, 5, 6, 7, 8, 9, 10, 11, 12, 13, 14, 15, 16, 0] rfl
    have hD : va_D A (wh_ q qo cI cZ cJ (σ', o)) := hD.sub [1, 2, 3, 4, 5, 6, 7, 8, 9, 10, 11, 12, 13, 14, 15, 16, 0] (by decide) rfl
    refine vx_catch (own := "MovedFramesLaw") (name := "java/lang/IllegalArgumentException") (E := "java/lang/IllegalArgumentException") hown [] ⟨0, 9, 12, 13⟩ [⟨0, 9, 15, 15⟩] (htab.trans rfl) (fun z hz => by cases hz) (by decide) (by decide) (hB _ lk_218) (va_Nw.use (nx_tab _ (by decide +kernel)) (hT.1 (Cond.castable "java/lang/IllegalArgumentException" "java/lang/IllegalArgumentException") (by decide +kernel))) hce hcv hcl ?_
    refine lv_astore_n (lv' := [(3, .ref q9), (0, .ref (q 0)), (1, .int x1), (2, .ref qo)]) hx hb nd_L_kmalloc_12 rfl hl (by decide) rfl (fun ls hl => ?_)
    refine lv_iconst (v := 1) hx hb nd_L_kmalloc_13 (by decide) ?_
    refine W.widen (k := 1) (n := 6) (Nat.le_of_ble_eq_true rfl) (Nat.le_of_ble_eq_true rfl) ?_
    exact re_i hx hb hr hlocks rfl rfl hP hK hD hS nd_L_kmalloc_14
  · refine vx_calli (vx_runV (C := "MovedFrames") (As := [.int x1]) (rest := [.int 0, .ref qo]) ⟨hx, hb, hml, hown, hB⟩ (kt_F_kmalloc l dC dI q cI cZ _ σ x1 v 3 σ' htr (by decide) hf) ⟨callB_of 1 hB (gi_ lk_223) rfl rfl rfl (hB _ lk_1) (hB _ lk_220) (by decide +kernel) ⟨(Nat.le_of_ble_eq_true rfl), (Nat.le_of_ble_eq_true rfl)⟩, hB _ lk_221, hB _ lk_222⟩ ⟨blx_, va_recv (ci := 5) (q0 := 0) hKc hPc rfl rfl, prex_ hPc hKc hDc hN hT hZ hS hA⟩ rfl rfl hl.1 rfl (lv_room (Nat.le_of_ble_eq_true rfl)) nd_L_kmalloc_4 ⟨(Nat.le_of_ble_eq_true rfl), (Nat.le_of_ble_eq_true rfl)⟩) hS (fun q _ h => hFc q h) hFc (fun q _ h => hFc q h) (fun E ce q9 u t H1 locs ht hvm hpx hB1 hz1 hk1 hS hce hcv hcl => ?_) (fun r u t H1 locs1 ht hvm hp => hp.elim)
    obtain ⟨-, hu⟩ := hpx
    obtain ⟨hE, hP1, hK1, hD1⟩ := hB1
    subst hE
    rw [ht] at hP1
    rw [hu] at hP1 hD1
    obtain ⟨hP, hD⟩ := va_join (wc := (wd_C q cI cZ σ)) (wr := [wo_ qo cJ o]) (w1 := wd_C q cI cZ σ') hP hD [0, 1, 2, 3, 4, 5, 6, 7, 8, 9, 10, 11, 12, 13, 14, 15] [16] rfl rfl (by decide) (by decide) hk1 hFc hP1 hD1
    have hP : va_P (dC, dI) vwCl (wh_ q qo cI cZ cJ (σ', o)) H1 := hP.sub [1, 2, 3, 4, 5, 6, 7, 8, 9, 10, 11, 12, 13, 14, 15, 16, 0] rfl
    have hD : va_D A (wh_ q qo cI cZ cJ (σ', o)) := hD.sub [1, 2, 3, 4, 5, 6, 7, 8, 9, 10, 11, 12, 13, 14, 15, 16, 0] (by decide) rfl
    refine vx_catch (own := "MovedFramesLaw") (name := "java/lang/IllegalStateException") (E := "java/lang/IllegalStateException") hown [⟨0, 9, 12, 13⟩] ⟨0, 9, 15, 15⟩ [] (htab.trans rfl) (List.forall_mem_cons.mpr ⟨Or.inr ⟨by decide, "java/lang/IllegalArgumentException", hB _ lk_218, hC.1⟩, fun z hz => by cases hz⟩) (by decide) (by decide) (hB _ lk_219) (va_Nw.use (nx_tab _ (by decide +kernel)) (hT.1 (Cond.castable "java/lang/IllegalStateException" "java/lang/IllegalStateException") (by decide +kernel))) hce hcv hcl ?_
    refine lv_astore_n (lv' := [(3, .ref q9), (0, .ref (q 0)), (1, .int x1), (2, .ref qo)]) hx hb nd_L_kmalloc_15 rfl hl (by decide) rfl (fun ls hl => ?_)
    refine lv_iconst (v := 2) hx hb nd_L_kmalloc_16 (by decide) ?_
    refine W.widen (k := 1) (n := 6) (Nat.le_of_ble_eq_true rfl) (Nat.le_of_ble_eq_true rfl) ?_
    exact re_i hx hb hr hlocks rfl rfl hP hK hD hS nd_L_kmalloc_17
def kc_L_kfree (n : Nat) (k : Int32) : Prop := (n = 0 ∧ k = 0) ∨ (n = 1 ∧ k = 1)
abbrev rh_L_kfree : Room := { frames := 8, cells := 1, slots := 6, locals := 131 }
set_option maxHeartbeats 4000000 in
set_option maxRecDepth 100000 in
theorem kh_L_kfree (l : Launch) (dC : Nat → ClassId) (dI : Nat → Nat → Nat) (q : Nat → Nat) (qo : Nat) (cI cZ cJ : ClassId) (sz : Nat) (σ : CS) (o : Nat → Int64) (x1 : Int32) (v : Int32) (n : Nat) (σ' : CS) (k : Int32) (htr : l.stackTraces = false) (hk : kc_L_kfree n k) (hf : mc_kfree σ x1 = some (v, n, σ')) : Met l ny_L_kfree nw_L_kfree rh_L_kfree (va_Pc [.ref (q 0), .int x1] (prh_ (dC, dI) (wh_ q qo cI cZ cJ) [(cI, .int), (cZ, .boolean), (cJ, .long)] sz (σ, o))) (qi_ (dC, dI) (wh_ q qo cI cZ cJ) [(cI, .int), (cZ, .boolean), (cJ, .long)] (va_A (wh_ q qo cI cZ cJ (σ, o)) sz) k (σ', o)) 1 6 (va_A (wh_ q qo cI cZ cJ (σ, o)) sz) := by
  refine va_MetW (cc := nb_L_kfree) (maxL := 3) (ret := (some .int)) (hh := nh_L_kfree) (by decide) rfl ?_
  intro p e s m args below meth c s₁ B hml hv
  obtain ⟨rfl, ⟨⟨hsz, hP, hK, hD0, hN⟩, hT, hZ⟩, hC⟩ := hv
  have hx := B.exec
  have hb := B.bytes
  have hr := B.returns
  have hts := atoms_spec (ws := nw_L_kfree) B.pre
  have hB : ∀ w ∈ BG, w.before ([.ref (q 0), .int x1] : List Value).toArray s = true := fun w h => hts w (List.mem_cons_of_mem _ h)
  have hown : s.vm.findClass "MovedFramesLaw" = some m.cls := findClass_of_methodNamed B.named
  have hlocks := B.notSynchronized
  have htab : c.exceptionTable.toList = tableOf nh_L_kfree := vx_table (x := ny_L_kfree) B (hts _ List.mem_cons_self)
  subst hsz
  have hD := hD0.self (sz := s.heap.size)
  generalize hAe : va_A (wh_ q qo cI cZ cJ (σ, o)) s.heap.size = A at hD hZ ⊢
  have hA : ∀ q : Nat, s.heap.size ≤ q → A q := fun q h => by rw [← hAe]; exact Or.inr h
  have hS : va_S A s.heap s.heap [] := va_S.rf
  have hl := lv_entry ([.ref (q 0), .int x1]) (n := 3) (Nat.le_of_ble_eq_true rfl)
  rw [lg_entry_eq]
  generalize (lg_sl ([.ref (q 0), .int x1]) ++ List.replicate (3 - (lg_sl ([.ref (q 0), .int x1])).length) Slot.unset).toArray = ls at hl ⊢
  have hl : lv_has ls 3 [(0, .ref (q 0)), (1, .int x1)] := hl
  refine lv_aload_n hx hb nd_L_kfree_0 rfl (lv_at hl 0 rfl) ?_
  refine lv_iload_n hx hb nd_L_kfree_1 rfl (lv_at hl 1 rfl) ?_
  have hPc : va_P (dC, dI) vwCl (wd_C q cI cZ σ) s.heap := hP.sub [0, 1, 2, 3, 4, 5, 6, 7, 8, 9, 10, 11, 12, 13, 14, 15] rfl
  have hDc : va_D A (wd_C q cI cZ σ) := hD.sub [0, 1, 2, 3, 4, 5, 6, 7, 8, 9, 10, 11, 12, 13, 14, 15] (by decide) rfl
  have hKc : va_K (dC, dI) vwCl [(cI, .int), (cZ, .boolean)] s := hK.sub [0, 1] rfl
  have hFc := va_free (wc := (wd_C q cI cZ σ)) hD hS hA [0, 1, 2, 3, 4, 5, 6, 7, 8, 9, 10, 11, 12, 13, 14, 15] rfl
  rcases hk with ⟨rfl, rfl⟩ | ⟨rfl, rfl⟩
  · refine va_callv (va_runV (C := "MovedFrames") (As := [.int x1]) (rest := []) ⟨hx, hb, hml, hown, hB⟩ (kw_F_kfree l dC dI q cI cZ _ σ x1 v σ' hf) ⟨callB_of 1 hB (gi_ lk_364) rfl rfl rfl (hB _ lk_1) (hB _ lk_361) (by decide +kernel) ⟨(Nat.le_of_ble_eq_true rfl), (Nat.le_of_ble_eq_true rfl)⟩, hB _ lk_362, hB _ lk_363⟩ ⟨bl_, va_recv (ci := 5) (q0 := 0) hKc hPc rfl rfl, pre_ hPc hKc hDc hN⟩ rfl rfl hl.1 rfl (lv_room (Nat.le_of_ble_eq_true rfl)) nd_L_kfree_2 ⟨Nat.zero_le _, Nat.zero_le _⟩) hS (fun q _ h => hFc q h) hFc (fun u t H1 locs ht hvm hw hB1 hz1 hk1 hS => ?_)
    have hu := hw
    obtain ⟨hP1, hK1, hD1⟩ := hB1
    rw [ht] at hP1
    rw [hu] at hP1 hD1
    obtain ⟨hP, hD⟩ := va_join (wc := (wd_C q cI cZ σ)) (wr := [wo_ qo cJ o]) (w1 := wd_C q cI cZ σ') hP hD [0, 1, 2, 3, 4, 5, 6, 7, 8, 9, 10, 11, 12, 13, 14, 15] [16] rfl rfl (by decide) (by decide) hk1 hFc hP1 hD1
    have hP : va_P (dC, dI) vwCl (wh_ q qo cI cZ cJ (σ', o)) H1 := hP.sub [1, 2, 3, 4, 5, 6, 7, 8, 9, 10, 11, 12, 13, 14, 15, 16, 0] rfl
    have hD : va_D A (wh_ q qo cI cZ cJ (σ', o)) := hD.sub [1, 2, 3, 4, 5, 6, 7, 8, 9, 10, 11, 12, 13, 14, 15, 16, 0] (by decide) rfl
    refine lv_goto (tgt := 11) hx hb nd_L_kfree_5 (by decide) ?_
    refine lv_iconst (v := 0) hx hb nd_L_kfree_11 (by decide) ?_
    refine W.widen (k := 1) (n := 6) (Nat.le_of_ble_eq_true rfl) (Nat.le_of_ble_eq_true rfl) ?_
    exact re_i hx hb hr hlocks rfl rfl hP hK hD hS nd_L_kfree_12
  · refine vx_callv (vx_runV (C := "MovedFrames") (As := [.int x1]) (rest := []) ⟨hx, hb, hml, hown, hB⟩ (kt_F_kfree l dC dI q cI cZ _ σ x1 v 1 σ' htr (by decide) hf) ⟨callB_of 1 hB (gi_ lk_364) rfl rfl rfl (hB _ lk_1) (hB _ lk_361) (by decide +kernel) ⟨(Nat.le_of_ble_eq_true rfl), (Nat.le_of_ble_eq_true rfl)⟩, hB _ lk_362, hB _ lk_363⟩ ⟨blx_, va_recv (ci := 5) (q0 := 0) hKc hPc rfl rfl, prex_ hPc hKc hDc hN hT hZ hS hA⟩ rfl rfl hl.1 rfl (lv_room (Nat.le_of_ble_eq_true rfl)) nd_L_kfree_2 ⟨(Nat.le_of_ble_eq_true rfl), (Nat.le_of_ble_eq_true rfl)⟩) hS (fun q _ h => hFc q h) hFc (fun q _ h => hFc q h) (fun E ce q9 u t H1 locs ht hvm hpx hB1 hz1 hk1 hS hce hcv hcl => ?_) (fun u t H1 locs1 ht hvm hp => hp.elim)
    obtain ⟨-, hu⟩ := hpx
    obtain ⟨hE, hP1, hK1, hD1⟩ := hB1
    subst hE
    rw [ht] at hP1
    rw [hu] at hP1 hD1
    obtain ⟨hP, hD⟩ := va_join (wc := (wd_C q cI cZ σ)) (wr := [wo_ qo cJ o]) (w1 := wd_C q cI cZ σ') hP hD [0, 1, 2, 3, 4, 5, 6, 7, 8, 9, 10, 11, 12, 13, 14, 15] [16] rfl rfl (by decide) (by decide) hk1 hFc hP1 hD1
    have hP : va_P (dC, dI) vwCl (wh_ q qo cI cZ cJ (σ', o)) H1 := hP.sub [1, 2, 3, 4, 5, 6, 7, 8, 9, 10, 11, 12, 13, 14, 15, 16, 0] rfl
    have hD : va_D A (wh_ q qo cI cZ cJ (σ', o)) := hD.sub [1, 2, 3, 4, 5, 6, 7, 8, 9, 10, 11, 12, 13, 14, 15, 16, 0] (by decide) rfl
    refine vx_catch (own := "MovedFramesLaw") (name := "java/lang/IllegalArgumentException") (E := "java/lang/IllegalArgumentException") hown [] ⟨0, 5, 8, 13⟩ [] (htab.trans rfl) (fun z hz => by cases hz) (by decide) (by decide) (hB _ lk_218) (va_Nw.use (nx_tab _ (by decide +kernel)) (hT.1 (Cond.castable "java/lang/IllegalArgumentException" "java/lang/IllegalArgumentException") (by decide +kernel))) hce hcv hcl ?_
    refine lv_astore_n (lv' := [(2, .ref q9), (0, .ref (q 0)), (1, .int x1)]) hx hb nd_L_kfree_8 rfl hl (by decide) rfl (fun ls hl => ?_)
    refine lv_iconst (v := 1) hx hb nd_L_kfree_9 (by decide) ?_
    refine W.widen (k := 1) (n := 6) (Nat.le_of_ble_eq_true rfl) (Nat.le_of_ble_eq_true rfl) ?_
    exact re_i hx hb hr hlocks rfl rfl hP hK hD hS nd_L_kfree_10
def kc_L_vmalloc (n : Nat) (k : Int32) : Prop := (n = 0 ∧ k = 0) ∨ (n = 1 ∧ k = 1) ∨ (n = 3 ∧ k = 2)
abbrev rh_L_vmalloc : Room := { frames := 8, cells := 1, slots := 6, locals := 131 }
set_option maxHeartbeats 4000000 in
set_option maxRecDepth 100000 in
theorem kh_L_vmalloc (l : Launch) (dC : Nat → ClassId) (dI : Nat → Nat → Nat) (q : Nat → Nat) (qo : Nat) (cI cZ cJ : ClassId) (sz : Nat) (σ : CS) (o : Nat → Int64) (x1 : Int32) (v : Int32) (n : Nat) (σ' : CS) (k : Int32) (htr : l.stackTraces = false) (hk : kc_L_vmalloc n k) (hf : mc_vmalloc σ x1 = some (v, n, σ')) : Met l ny_L_vmalloc nw_L_vmalloc rh_L_vmalloc (va_Pc [.ref (q 0), .int x1, .ref qo] (prh_ (dC, dI) (wh_ q qo cI cZ cJ) [(cI, .int), (cZ, .boolean), (cJ, .long)] sz (σ, o))) (qi_ (dC, dI) (wh_ q qo cI cZ cJ) [(cI, .int), (cZ, .boolean), (cJ, .long)] (va_A (wh_ q qo cI cZ cJ (σ, o)) sz) k (σ', (if n = 0 then vp_updL o 0 v.toInt64 else o))) 1 6 (va_A (wh_ q qo cI cZ cJ (σ, o)) sz) := by
  refine va_MetW (cc := nb_L_vmalloc) (maxL := 4) (ret := (some .int)) (hh := nh_L_vmalloc) (by decide) rfl ?_
  intro p e s m args below meth c s₁ B hml hv
  obtain ⟨rfl, ⟨⟨hsz, hP, hK, hD0, hN⟩, hT, hZ⟩, hC⟩ := hv
  have hx := B.exec
  have hb := B.bytes
  have hr := B.returns
  have hts := atoms_spec (ws := nw_L_vmalloc) B.pre
  have hB : ∀ w ∈ BG, w.before ([.ref (q 0), .int x1, .ref qo] : List Value).toArray s = true := fun w h => hts w (List.mem_cons_of_mem _ h)
  have hown : s.vm.findClass "MovedFramesLaw" = some m.cls := findClass_of_methodNamed B.named
  have hlocks := B.notSynchronized
  have htab : c.exceptionTable.toList = tableOf nh_L_vmalloc := vx_table (x := ny_L_vmalloc) B (hts _ List.mem_cons_self)
  subst hsz
  have hD := hD0.self (sz := s.heap.size)
  generalize hAe : va_A (wh_ q qo cI cZ cJ (σ, o)) s.heap.size = A at hD hZ ⊢
  have hA : ∀ q : Nat, s.heap.size ≤ q → A q := fun q h => by rw [← hAe]; exact Or.inr h
  have hS : va_S A s.heap s.heap [] := va_S.rf
  have hl := lv_entry ([.ref (q 0), .int x1, .ref qo]) (n := 4) (Nat.le_of_ble_eq_true rfl)
  rw [lg_entry_eq]
  generalize (lg_sl ([.ref (q 0), .int x1, .ref qo]) ++ List.replicate (4 - (lg_sl ([.ref (q 0), .int x1, .ref qo])).length) Slot.unset).toArray = ls at hl ⊢
  have hl : lv_has ls 4 [(0, .ref (q 0)), (1, .int x1), (2, .ref qo)] := hl
  refine lv_aload_n hx hb nd_L_vmalloc_0 rfl (lv_at hl 2 rfl) ?_
  refine lv_iconst (v := 0) hx hb nd_L_vmalloc_1 (by decide) ?_
  refine lv_aload_n hx hb nd_L_vmalloc_2 rfl (lv_at hl 0 rfl) ?_
  refine lv_iload_n hx hb nd_L_vmalloc_3 rfl (lv_at hl 1 rfl) ?_
  have hPc : va_P (dC, dI) vwCl (wd_C q cI cZ σ) s.heap := hP.sub [0, 1, 2, 3, 4, 5, 6, 7, 8, 9, 10, 11, 12, 13, 14, 15] rfl
  have hDc : va_D A (wd_C q cI cZ σ) := hD.sub [0, 1, 2, 3, 4, 5, 6, 7, 8, 9, 10, 11, 12, 13, 14, 15] (by decide) rfl
  have hKc : va_K (dC, dI) vwCl [(cI, .int), (cZ, .boolean)] s := hK.sub [0, 1] rfl
  have hFc := va_free (wc := (wd_C q cI cZ σ)) hD hS hA [0, 1, 2, 3, 4, 5, 6, 7, 8, 9, 10, 11, 12, 13, 14, 15] rfl
  rcases hk with ⟨rfl, rfl⟩ | ⟨rfl, rfl⟩ | ⟨rfl, rfl⟩
  · refine va_calli (va_runV (C := "MovedFrames") (As := [.int x1]) (rest := [.int 0, .ref qo]) ⟨hx, hb, hml, hown, hB⟩ (kw_F_vmalloc l dC dI q cI cZ _ σ x1 v σ' hf) ⟨callB_of 1 hB (gi_ lk_383) rfl rfl rfl (hB _ lk_1) (hB _ lk_380) (by decide +kernel) ⟨(Nat.le_of_ble_eq_true rfl), (Nat.le_of_ble_eq_true rfl)⟩, hB _ lk_381, hB _ lk_382⟩ ⟨bl_, va_recv (ci := 5) (q0 := 0) hKc hPc rfl rfl, pre_ hPc hKc hDc hN⟩ rfl rfl hl.1 rfl (lv_room (Nat.le_of_ble_eq_true rfl)) nd_L_vmalloc_4 ⟨Nat.zero_le _, Nat.zero_le _⟩) hS (fun q _ h => hFc q h) hFc (fun r9 u t H1 locs ht hvm hw hB1 hz1 hk1 hS => ?_)
    obtain ⟨hr9, hu⟩ := hw
    have hr9 := hr9.symm
    subst hr9
    obtain ⟨hP1, hK1, hD1⟩ := hB1
    rw [ht] at hP1
    rw [hu] at hP1 hD1
    obtain ⟨hP, hD⟩ := va_join (wc := (wd_C q cI cZ σ)) (wr := [wo_ qo cJ o]) (w1 := wd_C q cI cZ σ') hP hD [0, 1, 2, 3, 4, 5, 6, 7, 8, 9, 10, 11, 12, 13, 14, 15] [16] rfl rfl (by decide) (by decide) hk1 hFc hP1 hD1
    have hP : va_P (dC, dI) vwCl (wh_ q qo cI cZ cJ (σ', o)) H1 := hP.sub [1, 2, 3, 4, 5, 6, 7, 8, 9, 10, 11, 12, 13, 14, 15, 16, 0] rfl
    have hD : va_D A (wh_ q qo cI cZ cJ (σ', o)) := hD.sub [1, 2, 3, 4, 5, 6, 7, 8, 9, 10, 11, 12, 13, 14, 15, 16, 0] (by decide) rfl
    refine lv_i2l (v := v.toInt64) hx hb nd_L_vmalloc_7 rfl ?_
    refine va_last hx hb hK hP hD hS 16 2 rfl rfl (by unfold vp_in; decide) nd_L_vmalloc_8 (fun H locs hP hD hS => ?_)
    have hP : va_P (dC, dI) vwCl (wh_ q qo cI cZ cJ (σ', vp_updL o 0 v.toInt64)) H := hP
    have hD : va_D A (wh_ q qo cI cZ cJ (σ', vp_updL o 0 v.toInt64)) := hD
    refine lv_goto (tgt := 18) hx hb nd_L_vmalloc_9 (by decide) ?_
    refine lv_iconst (v := 0) hx hb nd_L_vmalloc_18 (by decide) ?_
    refine W.widen (k := 1) (n := 6) (Nat.le_of_ble_eq_true rfl) (Nat.le_of_ble_eq_true rfl) ?_
    exact re_i hx hb hr hlocks rfl rfl hP hK hD hS nd_L_vmalloc_19
  · refine vx_calli (vx_runV (C := "MovedFrames") (As := [.int x1]) (rest := [.int 0, .ref qo]) ⟨hx, hb, hml, hown, hB⟩ (kt_F_vmalloc l dC dI q cI cZ _ σ x1 v 1 σ' htr (by decide) hf) ⟨callB_of 1 hB (gi_ lk_383) rfl rfl rfl (hB _ lk_1) (hB _ lk_380) (by decide +kernel) ⟨(Nat.le_of_ble_eq_true rfl), (Nat.le_of_ble_eq_true rfl)⟩, hB _ lk_381, hB _ lk_382⟩ ⟨blx_, va_recv (ci := 5) (q0 := 0) hKc hPc rfl rfl, prex_ hPc hKc hDc hN hT hZ hS hA⟩ rfl rfl hl.1 rfl (lv_room (Nat.le_of_ble_eq_true rfl)) nd_L_vmalloc_4 ⟨(Nat.le_of_ble_eq_true rfl), (Nat.le_of_ble_eq_true rfl)⟩) hS (fun q _ h => hFc q h) hFc (fun q _ h => hFc q h) (fun E ce q9 u t H1 locs ht hvm hpx hB1 hz1 hk1 hS hce hcv hcl => ?_) (fun r u t H1 locs1 ht hvm hp => hp.elim)
    obtain ⟨-, hu⟩ := hpx
    obtain ⟨hE, hP1, hK1, hD1⟩ := hB1
    subst hE
    rw [ht] at hP1
    rw [hu] at hP1 hD1
    obtain ⟨hP, hD⟩ := va_join (wc := (wd_C q cI cZ σ)) (wr := [wo_ qo cJ o]) (w1 := wd_C q cI cZ σ') hP hD [0, 1, 2, 3, 4, 5, 6, 7, 8, 9, 10, 11, 12, 13, 14, 15] [16] rfl rfl (by decide) (by decide) hk1 hFc hP1 hD1
    have hP : va_P (dC, dI) vwCl (wh_ q qo cI cZ cJ (σ', o)) H1 := hP.sub [1, 2, 3, 4, 5, 6, 7, 8, 9, 10, 11, 12, 13, 14, 15, 16, 0] rfl
    have hD : va_D A (wh_ q qo cI cZ cJ (σ', o)) := hD.sub [1, 2, 3, 4, 5, 6, 7, 8, 9, 10, 11, 12, 13, 14, 15, 16, 0] (by decide) rfl
    refine vx_catch (own := "MovedFramesLaw") (name := "java/lang/IllegalArgumentException") (E := "java/lang/IllegalArgumentException") hown [] ⟨0, 9, 12, 13⟩ [⟨0, 9, 15, 15⟩] (htab.trans rfl) (fun z hz => by cases hz) (by decide) (by decide) (hB _ lk_218) (va_Nw.use (nx_tab _ (by decide +kernel)) (hT.1 (Cond.castable "java/lang/IllegalArgumentException" "java/lang/IllegalArgumentException") (by decide +kernel))) hce hcv hcl ?_
    refine lv_astore_n (lv' := [(3, .ref q9), (0, .ref (q 0)), (1, .int x1), (2, .ref qo)]) hx hb nd_L_vmalloc_12 rfl hl (by decide) rfl (fun ls hl => ?_)
    refine lv_iconst (v := 1) hx hb nd_L_vmalloc_13 (by decide) ?_
    refine W.widen (k := 1) (n := 6) (Nat.le_of_ble_eq_true rfl) (Nat.le_of_ble_eq_true rfl) ?_
    exact re_i hx hb hr hlocks rfl rfl hP hK hD hS nd_L_vmalloc_14
  · refine vx_calli (vx_runV (C := "MovedFrames") (As := [.int x1]) (rest := [.int 0, .ref qo]) ⟨hx, hb, hml, hown, hB⟩ (kt_F_vmalloc l dC dI q cI cZ _ σ x1 v 3 σ' htr (by decide) hf) ⟨callB_of 1 hB (gi_ lk_383) rfl rfl rfl (hB _ lk_1) (hB _ lk_380) (by decide +kernel) ⟨(Nat.le_of_ble_eq_true rfl), (Nat.le_of_ble_eq_true rfl)⟩, hB _ lk_381, hB _ lk_382⟩ ⟨blx_, va_recv (ci := 5) (q0 := 0) hKc hPc rfl rfl, prex_ hPc hKc hDc hN hT hZ hS hA⟩ rfl rfl hl.1 rfl (lv_room (Nat.le_of_ble_eq_true rfl)) nd_L_vmalloc_4 ⟨(Nat.le_of_ble_eq_true rfl), (Nat.le_of_ble_eq_true rfl)⟩) hS (fun q _ h => hFc q h) hFc (fun q _ h => hFc q h) (fun E ce q9 u t H1 locs ht hvm hpx hB1 hz1 hk1 hS hce hcv hcl => ?_) (fun r u t H1 locs1 ht hvm hp => hp.elim)
    obtain ⟨-, hu⟩ := hpx
    obtain ⟨hE, hP1, hK1, hD1⟩ := hB1
    subst hE
    rw [ht] at hP1
    rw [hu] at hP1 hD1
    obtain ⟨hP, hD⟩ := va_join (wc := (wd_C q cI cZ σ)) (wr := [wo_ qo cJ o]) (w1 := wd_C q cI cZ σ') hP hD [0, 1, 2, 3, 4, 5, 6, 7, 8, 9, 10, 11, 12, 13, 14, 15] [16] rfl rfl (by decide) (by decide) hk1 hFc hP1 hD1
    have hP : va_P (dC, dI) vwCl (wh_ q qo cI cZ cJ (σ', o)) H1 := hP.sub [1, 2, 3, 4, 5, 6, 7, 8, 9, 10, 11, 12, 13, 14, 15, 16, 0] rfl
    have hD : va_D A (wh_ q qo cI cZ cJ (σ', o)) := hD.sub [1, 2, 3, 4, 5, 6, 7, 8, 9, 10, 11, 12, 13, 14, 15, 16, 0] (by decide) rfl
    refine vx_catch (own := "MovedFramesLaw") (name := "java/lang/IllegalStateException") (E := "java/lang/IllegalStateException") hown [⟨0, 9, 12, 13⟩] ⟨0, 9, 15, 15⟩ [] (htab.trans rfl) (List.forall_mem_cons.mpr ⟨Or.inr ⟨by decide, "java/lang/IllegalArgumentException", hB _ lk_218, hC.1⟩, fun z hz => by cases hz⟩) (by decide) (by decide) (hB _ lk_219) (va_Nw.use (nx_tab _ (by decide +kernel)) (hT.1 (Cond.castable "java/lang/IllegalStateException" "java/lang/IllegalStateException") (by decide +kernel))) hce hcv hcl ?_
    refine lv_astore_n (lv' := [(3, .ref q9), (0, .ref (q 0)), (1, .int x1), (2, .ref qo)]) hx hb nd_L_vmalloc_15 rfl hl (by decide) rfl (fun ls hl => ?_)
    refine lv_iconst (v := 2) hx hb nd_L_vmalloc_16 (by decide) ?_
    refine W.widen (k := 1) (n := 6) (Nat.le_of_ble_eq_true rfl) (Nat.le_of_ble_eq_true rfl) ?_
    exact re_i hx hb hr hlocks rfl rfl hP hK hD hS nd_L_vmalloc_17
def kc_L_vfree (n : Nat) (k : Int32) : Prop := (n = 0 ∧ k = 0) ∨ (n = 1 ∧ k = 1)
abbrev rh_L_vfree : Room := { frames := 8, cells := 1, slots := 6, locals := 131 }
set_option maxHeartbeats 4000000 in
set_option maxRecDepth 100000 in
theorem kh_L_vfree (l : Launch) (dC : Nat → ClassId) (dI : Nat → Nat → Nat) (q : Nat → Nat) (qo : Nat) (cI cZ cJ : ClassId) (sz : Nat) (σ : CS) (o : Nat → Int64) (x1 : Int32) (v : Int32) (n : Nat) (σ' : CS) (k : Int32) (htr : l.stackTraces = false) (hk : kc_L_vfree n k) (hf : mc_vfree σ x1 = some (v, n, σ')) : Met l ny_L_vfree nw_L_vfree rh_L_vfree (va_Pc [.ref (q 0), .int x1, .ref qo] (prh_ (dC, dI) (wh_ q qo cI cZ cJ) [(cI, .int), (cZ, .boolean), (cJ, .long)] sz (σ, o))) (qi_ (dC, dI) (wh_ q qo cI cZ cJ) [(cI, .int), (cZ, .boolean), (cJ, .long)] (va_A (wh_ q qo cI cZ cJ (σ, o)) sz) k (σ', (if n = 0 then vp_updL o 0 v.toInt64 else o))) 1 6 (va_A (wh_ q qo cI cZ cJ (σ, o)) sz) := by
  refine va_MetW (cc := nb_L_vfree) (maxL := 4) (ret := (some .int)) (hh := nh_L_vfree) (by decide) rfl ?_
  intro p e s m args below meth c s₁ B hml hv
  obtain ⟨rfl, ⟨⟨hsz, hP, hK, hD0, hN⟩, hT, hZ⟩, hC⟩ := hv
  have hx := B.exec
  have hb := B.bytes
  have hr := B.returns
  have hts := atoms_spec (ws := nw_L_vfree) B.pre
  have hB : ∀ w ∈ BG, w.before ([.ref (q 0), .int x1, .ref qo] : List Value).toArray s = true := fun w h => hts w (List.mem_cons_of_mem _ h)
  have hown : s.vm.findClass "MovedFramesLaw" = some m.cls := findClass_of_methodNamed B.named
  have hlocks := B.notSynchronized
  have htab : c.exceptionTable.toList = tableOf nh_L_vfree := vx_table (x := ny_L_vfree) B (hts _ List.mem_cons_self)
  subst hsz
  have hD := hD0.self (sz := s.heap.size)
  generalize hAe : va_A (wh_ q qo cI cZ cJ (σ, o)) s.heap.size = A at hD hZ ⊢
  have hA : ∀ q : Nat, s.heap.size ≤ q → A q := fun q h => by rw [← hAe]; exact Or.inr h
  have hS : va_S A s.heap s.heap [] := va_S.rf
  have hl := lv_entry ([.ref (q 0), .int x1, .ref qo]) (n := 4) (Nat.le_of_ble_eq_true rfl)
  rw [lg_entry_eq]
  generalize (lg_sl ([.ref (q 0), .int x1, .ref qo]) ++ List.replicate (4 - (lg_sl ([.ref (q 0), .int x1, .ref qo])).length) Slot.unset).toArray = ls at hl ⊢
  have hl : lv_has ls 4 [(0, .ref (q 0)), (1, .int x1), (2, .ref qo)] := hl
  refine lv_aload_n hx hb nd_L_vfree_0 rfl (lv_at hl 2 rfl) ?_
  refine lv_iconst (v := 0) hx hb nd_L_vfree_1 (by decide) ?_
  refine lv_aload_n hx hb nd_L_vfree_2 rfl (lv_at hl 0 rfl) ?_
  refine lv_iload_n hx hb nd_L_vfree_3 rfl (lv_at hl 1 rfl) ?_
  have hPc : va_P (dC, dI) vwCl (wd_C q cI cZ σ) s.heap := hP.sub [0, 1, 2, 3, 4, 5, 6, 7, 8, 9, 10, 11, 12, 13, 14, 15] rfl
  have hDc : va_D A (wd_C q cI cZ σ) := hD.sub [0, 1, 2, 3, 4, 5, 6, 7, 8, 9, 10, 11, 12, 13, 14, 15] (by decide) rfl
  have hKc : va_K (dC, dI) vwCl [(cI, .int), (cZ, .boolean)] s := hK.sub [0, 1] rfl
  have hFc := va_free (wc := (wd_C q cI cZ σ)) hD hS hA [0, 1, 2, 3, 4, 5, 6, 7, 8, 9, 10, 11, 12, 13, 14, 15] rfl
  rcases hk with ⟨rfl, rfl⟩ | ⟨rfl, rfl⟩
  · refine va_calli (va_runV (C := "MovedFrames") (As := [.int x1]) (rest := [.int 0, .ref qo]) ⟨hx, hb, hml, hown, hB⟩ (kw_F_vfree l dC dI q cI cZ _ σ x1 v σ' hf) ⟨callB_of 1 hB (gi_ lk_401) rfl rfl rfl (hB _ lk_1) (hB _ lk_398) (by decide +kernel) ⟨(Nat.le_of_ble_eq_true rfl), (Nat.le_of_ble_eq_true rfl)⟩, hB _ lk_399, hB _ lk_400⟩ ⟨bl_, va_recv (ci := 5) (q0 := 0) hKc hPc rfl rfl, pre_ hPc hKc hDc hN⟩ rfl rfl hl.1 rfl (lv_room (Nat.le_of_ble_eq_true rfl)) nd_L_vfree_4 ⟨Nat.zero_le _, Nat.zero_le _⟩) hS (fun q _ h => hFc q h) hFc (fun r9 u t H1 locs ht hvm hw hB1 hz1 hk1 hS => ?_)
    obtain ⟨hr9, hu⟩ := hw
    have hr9 := hr9.symm
    subst hr9
    obtain ⟨hP1, hK1, hD1⟩ := hB1
    rw [ht] at hP1
    rw [hu] at hP1 hD1
    obtain ⟨hP, hD⟩ := va_join (wc := (wd_C q cI cZ σ)) (wr := [wo_ qo cJ o]) (w1 := wd_C q cI cZ σ') hP hD [0, 1, 2, 3, 4, 5, 6, 7, 8, 9, 10, 11, 12, 13, 14, 15] [16] rfl rfl (by decide) (by decide) hk1 hFc hP1 hD1
    have hP : va_P (dC, dI) vwCl (wh_ q qo cI cZ cJ (σ', o)) H1 := hP.sub [1, 2, 3, 4, 5, 6, 7, 8, 9, 10, 11, 12, 13, 14, 15, 16, 0] rfl
    have hD : va_D A (wh_ q qo cI cZ cJ (σ', o)) := hD.sub [1, 2, 3, 4, 5, 6, 7, 8, 9, 10, 11, 12, 13, 14, 15, 16, 0] (by decide) rfl
    refine lv_i2l (v := v.toInt64) hx hb nd_L_vfree_7 rfl ?_
    refine va_last hx hb hK hP hD hS 16 2 rfl rfl (by unfold vp_in; decide) nd_L_vfree_8 (fun H locs hP hD hS => ?_)
    have hP : va_P (dC, dI) vwCl (wh_ q qo cI cZ cJ (σ', vp_updL o 0 v.toInt64)) H := hP
    have hD : va_D A (wh_ q qo cI cZ cJ (σ', vp_updL o 0 v.toInt64)) := hD
    refine lv_goto (tgt := 15) hx hb nd_L_vfree_9 (by decide) ?_
    refine lv_iconst (v := 0) hx hb nd_L_vfree_15 (by decide) ?_
    refine W.widen (k := 1) (n := 6) (Nat.le_of_ble_eq_true rfl) (Nat.le_of_ble_eq_true rfl) ?_
    exact re_i hx hb hr hlocks rfl rfl hP hK hD hS nd_L_vfree_16
  · refine vx_calli (vx_runV (C := "MovedFrames") (As := [.int x1]) (rest := [.int 0, .ref qo]) ⟨hx, hb, hml, hown, hB⟩ (kt_F_vfree l dC dI q cI cZ _ σ x1 v 1 σ' htr (by decide) hf) ⟨callB_of 1 hB (gi_ lk_401) rfl rfl rfl (hB _ lk_1) (hB _ lk_398) (by decide +kernel) ⟨(Nat.le_of_ble_eq_true rfl), (Nat.le_of_ble_eq_true rfl)⟩, hB _ lk_399, hB _ lk_400⟩ ⟨blx_, va_recv (ci := 5) (q0 := 0) hKc hPc rfl rfl, prex_ hPc hKc hDc hN hT hZ hS hA⟩ rfl rfl hl.1 rfl (lv_room (Nat.le_of_ble_eq_true rfl)) nd_L_vfree_4 ⟨(Nat.le_of_ble_eq_true rfl), (Nat.le_of_ble_eq_true rfl)⟩) hS (fun q _ h => hFc q h) hFc (fun q _ h => hFc q h) (fun E ce q9 u t H1 locs ht hvm hpx hB1 hz1 hk1 hS hce hcv hcl => ?_) (fun r u t H1 locs1 ht hvm hp => hp.elim)
    obtain ⟨-, hu⟩ := hpx
    obtain ⟨hE, hP1, hK1, hD1⟩ := hB1
    subst hE
    rw [ht] at hP1
    rw [hu] at hP1 hD1
    obtain ⟨hP, hD⟩ := va_join (wc := (wd_C q cI cZ σ)) (wr := [wo_ qo cJ o]) (w1 := wd_C q cI cZ σ') hP hD [0, 1, 2, 3, 4, 5, 6, 7, 8, 9, 10, 11, 12, 13, 14, 15] [16] rfl rfl (by decide) (by decide) hk1 hFc hP1 hD1
    have hP : va_P (dC, dI) vwCl (wh_ q qo cI cZ cJ (σ', o)) H1 := hP.sub [1, 2, 3, 4, 5, 6, 7, 8, 9, 10, 11, 12, 13, 14, 15, 16, 0] rfl
    have hD : va_D A (wh_ q qo cI cZ cJ (σ', o)) := hD.sub [1, 2, 3, 4, 5, 6, 7, 8, 9, 10, 11, 12, 13, 14, 15, 16, 0] (by decide) rfl
    refine vx_catch (own := "MovedFramesLaw") (name := "java/lang/IllegalArgumentException") (E := "java/lang/IllegalArgumentException") hown [] ⟨0, 9, 12, 13⟩ [] (htab.trans rfl) (fun z hz => by cases hz) (by decide) (by decide) (hB _ lk_218) (va_Nw.use (nx_tab _ (by decide +kernel)) (hT.1 (Cond.castable "java/lang/IllegalArgumentException" "java/lang/IllegalArgumentException") (by decide +kernel))) hce hcv hcl ?_
    refine lv_astore_n (lv' := [(3, .ref q9), (0, .ref (q 0)), (1, .int x1), (2, .ref qo)]) hx hb nd_L_vfree_12 rfl hl (by decide) rfl (fun ls hl => ?_)
    refine lv_iconst (v := 1) hx hb nd_L_vfree_13 (by decide) ?_
    refine W.widen (k := 1) (n := 6) (Nat.le_of_ble_eq_true rfl) (Nat.le_of_ble_eq_true rfl) ?_
    exact re_i hx hb hr hlocks rfl rfl hP hK hD hS nd_L_vfree_14
def kc_L_create (n : Nat) (k : Int32) : Prop := (n = 0 ∧ k = 0) ∨ (n = 3 ∧ k = 1)
abbrev rh_L_create : Room := { frames := 8, cells := 1, slots := 6, locals := 130 }
set_option maxHeartbeats 4000000 in
set_option maxRecDepth 100000 in
theorem kh_L_create (l : Launch) (dC : Nat → ClassId) (dI : Nat → Nat → Nat) (q : Nat → Nat) (qo : Nat) (cI cZ cJ : ClassId) (sz : Nat) (σ : CS) (o : Nat → Int64) (v : Int32) (n : Nat) (σ' : CS) (k : Int32) (htr : l.stackTraces = false) (hk : kc_L_create n k) (hf : mc_create σ = some (v, n, σ')) : Met l ny_L_create nw_L_create rh_L_create (va_Pc [.ref (q 0), .ref qo] (prh_ (dC, dI) (wh_ q qo cI cZ cJ) [(cI, .int), (cZ, .boolean), (cJ, .long)] sz (σ, o))) (qi_ (dC, dI) (wh_ q qo cI cZ cJ) [(cI, .int), (cZ, .boolean), (cJ, .long)] (va_A (wh_ q qo cI cZ cJ (σ, o)) sz) k (σ', (if n = 0 then vp_updL o 0 v.toInt64 else o))) 1 6 (va_A (wh_ q qo cI cZ cJ (σ, o)) sz) := by
  refine va_MetW (cc := nb_L_create) (maxL := 3) (ret := (some .int)) (hh := nh_L_create) (by decide) rfl ?_
  intro p e s m args below meth c s₁ B hml hv
  obtain ⟨rfl, ⟨⟨hsz, hP, hK, hD0, hN⟩, hT, hZ⟩, hC⟩ := hv
  have hx := B.exec
  have hb := B.bytes
  have hr := B.returns
  have hts := atoms_spec (ws := nw_L_create) B.pre
  have hB : ∀ w ∈ BG, w.before ([.ref (q 0), .ref qo] : List Value).toArray s = true := fun w h => hts w (List.mem_cons_of_mem _ h)
  have hown : s.vm.findClass "MovedFramesLaw" = some m.cls := findClass_of_methodNamed B.named
  have hlocks := B.notSynchronized
  have htab : c.exceptionTable.toList = tableOf nh_L_create := vx_table (x := ny_L_create) B (hts _ List.mem_cons_self)
  subst hsz
  have hD := hD0.self (sz := s.heap.size)
  generalize hAe : va_A (wh_ q qo cI cZ cJ (σ, o)) s.heap.size = A at hD hZ ⊢
  have hA : ∀ q : Nat, s.heap.size ≤ q → A q := fun q h => by rw [← hAe]; exact Or.inr h
  have hS : va_S A s.heap s.heap [] := va_S.rf
  have hl := lv_entry ([.ref (q 0), .ref qo]) (n := 3) (Nat.le_of_ble_eq_true rfl)
  rw [lg_entry_eq]
  generalize (lg_sl ([.ref (q 0), .ref qo]) ++ List.replicate (3 - (lg_sl ([.ref (q 0), .ref qo])).length) Slot.unset).toArray = ls at hl ⊢
  have hl : lv_has ls 3 [(0, .ref (q 0)), (1, .ref qo)] := hl
  refine lv_aload_n hx hb nd_L_create_0 rfl (lv_at hl 1 rfl) ?_
  refine lv_iconst (v := 0) hx hb nd_L_create_1 (by decide) ?_
  refine lv_aload_n hx hb nd_L_create_2 rfl (lv_at hl 0 rfl) ?_
  have hPc : va_P (dC, dI) vwCl (wd_C q cI cZ σ) s.heap := hP.sub [0, 1, 2, 3, 4, 5, 6, 7, 8, 9, 10, 11, 12, 13, 14, 15] rfl
  have hDc : va_D A (wd_C q cI cZ σ) := hD.sub [0, 1, 2, 3, 4, 5, 6, 7, 8, 9, 10, 11, 12, 13, 14, 15] (by decide) rfl
  have hKc : va_K (dC, dI) vwCl [(cI, .int), (cZ, .boolean)] s := hK.sub [0, 1] rfl
  have hFc := va_free (wc := (wd_C q cI cZ σ)) hD hS hA [0, 1, 2, 3, 4, 5, 6, 7, 8, 9, 10, 11, 12, 13, 14, 15] rfl
  rcases hk with ⟨rfl, rfl⟩ | ⟨rfl, rfl⟩
  · refine va_calli (va_runV (C := "MovedFrames") (As := []) (rest := [.int 0, .ref qo]) ⟨hx, hb, hml, hown, hB⟩ (kw_F_create l dC dI q cI cZ _ σ v σ' hf) ⟨callB_of 0 hB (gi_ lk_413) rfl rfl rfl (hB _ lk_1) (hB _ lk_410) (by decide +kernel) ⟨(Nat.le_of_ble_eq_true rfl), (Nat.le_of_ble_eq_true rfl)⟩, hB _ lk_411, hB _ lk_412⟩ ⟨bl_, va_recv (ci := 5) (q0 := 0) hKc hPc rfl rfl, pre_ hPc hKc hDc hN⟩ rfl rfl hl.1 rfl (lv_room (Nat.le_of_ble_eq_true rfl)) nd_L_create_3 ⟨Nat.zero_le _, Nat.zero_le _⟩) hS (fun q _ h => hFc q h) hFc (fun r9 u t H1 locs ht hvm hw hB1 hz1 hk1 hS => ?_)
    obtain ⟨hr9, hu⟩ := hw
    have hr9 := hr9.symm
    subst hr9
    obtain ⟨hP1, hK1, hD1⟩ := hB1
    rw [ht] at hP1
    rw [hu] at hP1 hD1
    obtain ⟨hP, hD⟩ := va_join (wc := (wd_C q cI cZ σ)) (wr := [wo_ qo cJ o]) (w1 := wd_C q cI cZ σ') hP hD [0, 1, 2, 3, 4, 5, 6, 7, 8, 9, 10, 11, 12, 13, 14, 15] [16] rfl rfl (by decide) (by decide) hk1 hFc hP1 hD1
    have hP : va_P (dC, dI) vwCl (wh_ q qo cI cZ cJ (σ', o)) H1 := hP.sub [1, 2, 3, 4, 5, 6, 7, 8, 9, 10, 11, 12, 13, 14, 15, 16, 0] rfl
    have hD : va_D A (wh_ q qo cI cZ cJ (σ', o)) := hD.sub [1, 2, 3, 4, 5, 6, 7, 8, 9, 10, 11, 12, 13, 14, 15, 16, 0] (by decide) rfl
    refine lv_i2l (v := v.toInt64) hx hb nd_L_create_6 rfl ?_
    refine va_last hx hb hK hP hD hS 16 2 rfl rfl (by unfold vp_in; decide) nd_L_create_7 (fun H locs hP hD hS => ?_)
    have hP : va_P (dC, dI) vwCl (wh_ q qo cI cZ cJ (σ', vp_updL o 0 v.toInt64)) H := hP
    have hD : va_D A (wh_ q qo cI cZ cJ (σ', vp_updL o 0 v.toInt64)) := hD
    refine lv_goto (tgt := 14) hx hb nd_L_create_8 (by decide) ?_
    refine lv_iconst (v := 0) hx hb nd_L_create_14 (by decide) ?_
    refine W.widen (k := 1) (n := 6) (Nat.le_of_ble_eq_true rfl) (Nat.le_of_ble_eq_true rfl) ?_
    exact re_i hx hb hr hlocks rfl rfl hP hK hD hS nd_L_create_15
  · refine vx_calli (vx_runV (C := "MovedFrames") (As := []) (rest := [.int 0, .ref qo]) ⟨hx, hb, hml, hown, hB⟩ (kt_F_create l dC dI q cI cZ _ σ v 3 σ' htr (by decide) hf) ⟨callB_of 0 hB (gi_ lk_413) rfl rfl rfl (hB _ lk_1) (hB _ lk_410) (by decide +kernel) ⟨(Nat.le_of_ble_eq_true rfl), (Nat.le_of_ble_eq_true rfl)⟩, hB _ lk_411, hB _ lk_412⟩ ⟨blx_, va_recv (ci := 5) (q0 := 0) hKc hPc rfl rfl, prex_ hPc hKc hDc hN hT hZ hS hA⟩ rfl rfl hl.1 rfl (lv_room (Nat.le_of_ble_eq_true rfl)) nd_L_create_3 ⟨(Nat.le_of_ble_eq_true rfl), (Nat.le_of_ble_eq_true rfl)⟩) hS (fun q _ h => hFc q h) hFc (fun q _ h => hFc q h) (fun E ce q9 u t H1 locs ht hvm hpx hB1 hz1 hk1 hS hce hcv hcl => ?_) (fun r u t H1 locs1 ht hvm hp => hp.elim)
    obtain ⟨-, hu⟩ := hpx
    obtain ⟨hE, hP1, hK1, hD1⟩ := hB1
    subst hE
    rw [ht] at hP1
    rw [hu] at hP1 hD1
    obtain ⟨hP, hD⟩ := va_join (wc := (wd_C q cI cZ σ)) (wr := [wo_ qo cJ o]) (w1 := wd_C q cI cZ σ') hP hD [0, 1, 2, 3, 4, 5, 6, 7, 8, 9, 10, 11, 12, 13, 14, 15] [16] rfl rfl (by decide) (by decide) hk1 hFc hP1 hD1
    have hP : va_P (dC, dI) vwCl (wh_ q qo cI cZ cJ (σ', o)) H1 := hP.sub [1, 2, 3, 4, 5, 6, 7, 8, 9, 10, 11, 12, 13, 14, 15, 16, 0] rfl
    have hD : va_D A (wh_ q qo cI cZ cJ (σ', o)) := hD.sub [1, 2, 3, 4, 5, 6, 7, 8, 9, 10, 11, 12, 13, 14, 15, 16, 0] (by decide) rfl
    refine vx_catch (own := "MovedFramesLaw") (name := "java/lang/IllegalStateException") (E := "java/lang/IllegalStateException") hown [] ⟨0, 8, 11, 15⟩ [] (htab.trans rfl) (fun z hz => by cases hz) (by decide) (by decide) (hB _ lk_219) (va_Nw.use (nx_tab _ (by decide +kernel)) (hT.1 (Cond.castable "java/lang/IllegalStateException" "java/lang/IllegalStateException") (by decide +kernel))) hce hcv hcl ?_
    refine lv_astore_n (lv' := [(2, .ref q9), (0, .ref (q 0)), (1, .ref qo)]) hx hb nd_L_create_11 rfl hl (by decide) rfl (fun ls hl => ?_)
    refine lv_iconst (v := 1) hx hb nd_L_create_12 (by decide) ?_
    refine W.widen (k := 1) (n := 6) (Nat.le_of_ble_eq_true rfl) (Nat.le_of_ble_eq_true rfl) ?_
    exact re_i hx hb hr hlocks rfl rfl hP hK hD hS nd_L_create_13
def kc_L_destroy (n : Nat) (k : Int32) : Prop := (n = 0 ∧ k = 0) ∨ (n = 1 ∧ k = 1)
abbrev rh_L_destroy : Room := { frames := 8, cells := 1, slots := 6, locals := 133 }
set_option maxHeartbeats 4000000 in
set_option maxRecDepth 100000 in
theorem kh_L_destroy (l : Launch) (dC : Nat → ClassId) (dI : Nat → Nat → Nat) (q : Nat → Nat) (qo : Nat) (cI cZ cJ : ClassId) (sz : Nat) (σ : CS) (o : Nat → Int64) (x1 : Int32) (v : Int32) (n : Nat) (σ' : CS) (k : Int32) (htr : l.stackTraces = false) (hk : kc_L_destroy n k) (hf : mc_destroy σ x1 = some (v, n, σ')) : Met l ny_L_destroy nw_L_destroy rh_L_destroy (va_Pc [.ref (q 0), .int x1, .ref qo] (prh_ (dC, dI) (wh_ q qo cI cZ cJ) [(cI, .int), (cZ, .boolean), (cJ, .long)] sz (σ, o))) (qi_ (dC, dI) (wh_ q qo cI cZ cJ) [(cI, .int), (cZ, .boolean), (cJ, .long)] (va_A (wh_ q qo cI cZ cJ (σ, o)) sz) k (σ', (if n = 0 then vp_updL o 0 v.toInt64 else o))) 1 6 (va_A (wh_ q qo cI cZ cJ (σ, o)) sz) := by
  refine va_MetW (cc := nb_L_destroy) (maxL := 4) (ret := (some .int)) (hh := nh_L_destroy) (by decide) rfl ?_
  intro p e s m args below meth c s₁ B hml hv
  obtain ⟨rfl, ⟨⟨hsz, hP, hK, hD0, hN⟩, hT, hZ⟩, hC⟩ := hv
  have hx := B.exec
  have hb := B.bytes
  have hr := B.returns
  have hts := atoms_spec (ws := nw_L_destroy) B.pre
  have hB : ∀ w ∈ BG, w.before ([.ref (q 0), .int x1, .ref qo] : List Value).toArray s = true := fun w h => hts w (List.mem_cons_of_mem _ h)
  have hown : s.vm.findClass "MovedFramesLaw" = some m.cls := findClass_of_methodNamed B.named
  have hlocks := B.notSynchronized
  have htab : c.exceptionTable.toList = tableOf nh_L_destroy := vx_table (x := ny_L_destroy) B (hts _ List.mem_cons_self)
  subst hsz
  have hD := hD0.self (sz := s.heap.size)
  generalize hAe : va_A (wh_ q qo cI cZ cJ (σ, o)) s.heap.size = A at hD hZ ⊢
  have hA : ∀ q : Nat, s.heap.size ≤ q → A q := fun q h => by rw [← hAe]; exact Or.inr h
  have hS : va_S A s.heap s.heap [] := va_S.rf
  have hl := lv_entry ([.ref (q 0), .int x1, .ref qo]) (n := 4) (Nat.le_of_ble_eq_true rfl)
  rw [lg_entry_eq]
  generalize (lg_sl ([.ref (q 0), .int x1, .ref qo]) ++ List.replicate (4 - (lg_sl ([.ref (q 0), .int x1, .ref qo])).length) Slot.unset).toArray = ls at hl ⊢
  have hl : lv_has ls 4 [(0, .ref (q 0)), (1, .int x1), (2, .ref qo)] := hl
  refine lv_aload_n hx hb nd_L_destroy_0 rfl (lv_at hl 2 rfl) ?_
  refine lv_iconst (v := 0) hx hb nd_L_destroy_1 (by decide) ?_
  refine lv_aload_n hx hb nd_L_destroy_2 rfl (lv_at hl 0 rfl) ?_
  refine lv_iload_n hx hb nd_L_destroy_3 rfl (lv_at hl 1 rfl) ?_
  have hPc : va_P (dC, dI) vwCl (wd_C q cI cZ σ) s.heap := hP.sub [0, 1, 2, 3, 4, 5, 6, 7, 8, 9, 10, 11, 12, 13, 14, 15] rfl
  have hDc : va_D A (wd_C q cI cZ σ) := hD.sub [0, 1, 2, 3, 4, 5, 6, 7, 8, 9, 10, 11, 12, 13, 14, 15] (by decide) rfl
  have hKc : va_K (dC, dI) vwCl [(cI, .int), (cZ, .boolean)] s := hK.sub [0, 1] rfl
  have hFc := va_free (wc := (wd_C q cI cZ σ)) hD hS hA [0, 1, 2, 3, 4, 5, 6, 7, 8, 9, 10, 11, 12, 13, 14, 15] rfl
  rcases hk with ⟨rfl, rfl⟩ | ⟨rfl, rfl⟩
  · refine va_calli (va_runV (C := "MovedFrames") (As := [.int x1]) (rest := [.int 0, .ref qo]) ⟨hx, hb, hml, hown, hB⟩ (kw_F_destroy l dC dI q cI cZ _ σ x1 v σ' hf) ⟨callB_of 1 hB (gi_ lk_425) rfl rfl rfl (hB _ lk_1) (hB _ lk_422) (by decide +kernel) ⟨(Nat.le_of_ble_eq_true rfl), (Nat.le_of_ble_eq_true rfl)⟩, hB _ lk_423, hB _ lk_424⟩ ⟨bl_, va_recv (ci := 5) (q0 := 0) hKc hPc rfl rfl, pre_ hPc hKc hDc hN⟩ rfl rfl hl.1 rfl (lv_room (Nat.le_of_ble_eq_true rfl)) nd_L_destroy_4 ⟨Nat.zero_le _, Nat.zero_le _⟩) hS (fun q _ h => hFc q h) hFc (fun r9 u t H1 locs ht hvm hw hB1 hz1 hk1 hS => ?_)
    obtain ⟨hr9, hu⟩ := hw
    have hr9 := hr9.symm
    subst hr9
    obtain ⟨hP1, hK1, hD1⟩ := hB1
    rw [ht] at hP1
    rw [hu] at hP1 hD1
    obtain ⟨hP, hD⟩ := va_join (wc := (wd_C q cI cZ σ)) (wr := [wo_ qo cJ o]) (w1 := wd_C q cI cZ σ') hP hD [0, 1, 2, 3, 4, 5, 6, 7, 8, 9, 10, 11, 12, 13, 14, 15] [16] rfl rfl (by decide) (by decide) hk1 hFc hP1 hD1
    have hP : va_P (dC, dI) vwCl (wh_ q qo cI cZ cJ (σ', o)) H1 := hP.sub [1, 2, 3, 4, 5, 6, 7, 8, 9, 10, 11, 12, 13, 14, 15, 16, 0] rfl
    have hD : va_D A (wh_ q qo cI cZ cJ (σ', o)) := hD.sub [1, 2, 3, 4, 5, 6, 7, 8, 9, 10, 11, 12, 13, 14, 15, 16, 0] (by decide) rfl
    refine lv_i2l (v := v.toInt64) hx hb nd_L_destroy_7 rfl ?_
    refine va_last hx hb hK hP hD hS 16 2 rfl rfl (by unfold vp_in; decide) nd_L_destroy_8 (fun H locs hP hD hS => ?_)
    have hP : va_P (dC, dI) vwCl (wh_ q qo cI cZ cJ (σ', vp_updL o 0 v.toInt64)) H := hP
    have hD : va_D A (wh_ q qo cI cZ cJ (σ', vp_updL o 0 v.toInt64)) := hD
    refine lv_goto (tgt := 15) hx hb nd_L_destroy_9 (by decide) ?_
    refine lv_iconst (v := 0) hx hb nd_L_destroy_15 (by decide) ?_
    refine W.widen (k := 1) (n := 6) (Nat.le_of_ble_eq_true rfl) (Nat.le_of_ble_eq_true rfl) ?_
    exact re_i hx hb hr hlocks rfl rfl hP hK hD hS nd_L_destroy_16
  · refine vx_calli (vx_runV (C := "MovedFrames") (As := [.int x1]) (rest := [.int 0, .ref qo]) ⟨hx, hb, hml, hown, hB⟩ (kt_F_destroy l dC dI q cI cZ _ σ x1 v 1 σ' htr (by decide) hf) ⟨callB_of 1 hB (gi_ lk_425) rfl rfl rfl (hB _ lk_1) (hB _ lk_422) (by decide +kernel) ⟨(Nat.le_of_ble_eq_true rfl), (Nat.le_of_ble_eq_true rfl)⟩, hB _ lk_423, hB _ lk_424⟩ ⟨blx_, va_recv (ci := 5) (q0 := 0) hKc hPc rfl rfl, prex_ hPc hKc hDc hN hT hZ hS hA⟩ rfl rfl hl.1 rfl (lv_room (Nat.le_of_ble_eq_true rfl)) nd_L_destroy_4 ⟨(Nat.le_of_ble_eq_true rfl), (Nat.le_of_ble_eq_true rfl)⟩) hS (fun q _ h => hFc q h) hFc (fun q _ h => hFc q h) (fun E ce q9 u t H1 locs ht hvm hpx hB1 hz1 hk1 hS hce hcv hcl => ?_) (fun r u t H1 locs1 ht hvm hp => hp.elim)
    obtain ⟨-, hu⟩ := hpx
    obtain ⟨hE, hP1, hK1, hD1⟩ := hB1
    subst hE
    rw [ht] at hP1
    rw [hu] at hP1 hD1
    obtain ⟨hP, hD⟩ := va_join (wc := (wd_C q cI cZ σ)) (wr := [wo_ qo cJ o]) (w1 := wd_C q cI cZ σ') hP hD [0, 1, 2, 3, 4, 5, 6, 7, 8, 9, 10, 11, 12, 13, 14, 15] [16] rfl rfl (by decide) (by decide) hk1 hFc hP1 hD1
    have hP : va_P (dC, dI) vwCl (wh_ q qo cI cZ cJ (σ', o)) H1 := hP.sub [1, 2, 3, 4, 5, 6, 7, 8, 9, 10, 11, 12, 13, 14, 15, 16, 0] rfl
    have hD : va_D A (wh_ q qo cI cZ cJ (σ', o)) := hD.sub [1, 2, 3, 4, 5, 6, 7, 8, 9, 10, 11, 12, 13, 14, 15, 16, 0] (by decide) rfl
    refine vx_catch (own := "MovedFramesLaw") (name := "java/lang/IllegalArgumentException") (E := "java/lang/IllegalArgumentException") hown [] ⟨0, 9, 12, 13⟩ [] (htab.trans rfl) (fun z hz => by cases hz) (by decide) (by decide) (hB _ lk_218) (va_Nw.use (nx_tab _ (by decide +kernel)) (hT.1 (Cond.castable "java/lang/IllegalArgumentException" "java/lang/IllegalArgumentException") (by decide +kernel))) hce hcv hcl ?_
    refine lv_astore_n (lv' := [(3, .ref q9), (0, .ref (q 0)), (1, .int x1), (2, .ref qo)]) hx hb nd_L_destroy_12 rfl hl (by decide) rfl (fun ls hl => ?_)
    refine lv_iconst (v := 1) hx hb nd_L_destroy_13 (by decide) ?_
    refine W.widen (k := 1) (n := 6) (Nat.le_of_ble_eq_true rfl) (Nat.le_of_ble_eq_true rfl) ?_
    exact re_i hx hb hr hlocks rfl rfl hP hK hD hS nd_L_destroy_14
def kc_L_mmap (n : Nat) (k : Int32) : Prop := (n = 0 ∧ k = 0) ∨ (n = 1 ∧ k = 1)
abbrev rh_L_mmap : Room := { frames := 9, cells := 1, slots := 6, locals := 157 }
set_option maxHeartbeats 4000000 in
set_option maxRecDepth 100000 in
theorem kh_L_mmap (l : Launch) (dC : Nat → ClassId) (dI : Nat → Nat → Nat) (q : Nat → Nat) (qo : Nat) (cI cZ cJ : ClassId) (sz : Nat) (σ : CS) (o : Nat → Int64) (x1 : Int32) (x2 : Int32) (x3 : Int32) (v : Int32) (n : Nat) (σ' : CS) (k : Int32) (htr : l.stackTraces = false) (hk : kc_L_mmap n k) (hf : mc_mmap σ x1 x2 x3 = some (v, n, σ')) : Met l ny_L_mmap nw_L_mmap rh_L_mmap (va_Pc [.ref (q 0), .int x1, .int x2, .int x3] (prh_ (dC, dI) (wh_ q qo cI cZ cJ) [(cI, .int), (cZ, .boolean), (cJ, .long)] sz (σ, o))) (qi_ (dC, dI) (wh_ q qo cI cZ cJ) [(cI, .int), (cZ, .boolean), (cJ, .long)] (va_A (wh_ q qo cI cZ cJ (σ, o)) sz) k (σ', o)) 1 6 (va_A (wh_ q qo cI cZ cJ (σ, o)) sz) := by
  refine va_MetW (cc := nb_L_mmap) (maxL := 5) (ret := (some .int)) (hh := nh_L_mmap) (by decide) rfl ?_
  intro p e s m args below meth c s₁ B hml hv
  obtain ⟨rfl, ⟨⟨hsz, hP, hK, hD0, hN⟩, hT, hZ⟩, hC⟩ := hv
  have hx := B.exec
  have hb := B.bytes
  have hr := B.returns
  have hts := atoms_spec (ws := nw_L_mmap) B.pre
  have hB : ∀ w ∈ BG, w.before ([.ref (q 0), .int x1, .int x2, .int x3] : List Value).toArray s = true := fun w h => hts w (List.mem_cons_of_mem _ h)
  have hown : s.vm.findClass "MovedFramesLaw" = some m.cls := findClass_of_methodNamed B.named
  have hlocks := B.notSynchronized
  have htab : c.exceptionTable.toList = tableOf nh_L_mmap := vx_table (x := ny_L_mmap) B (hts _ List.mem_cons_self)
  subst hsz
  have hD := hD0.self (sz := s.heap.size)
  generalize hAe : va_A (wh_ q qo cI cZ cJ (σ, o)) s.heap.size = A at hD hZ ⊢
  have hA : ∀ q : Nat, s.heap.size ≤ q → A q := fun q h => by rw [← hAe]; exact Or.inr h
  have hS : va_S A s.heap s.heap [] := va_S.rf
  have hl := lv_entry ([.ref (q 0), .int x1, .int x2, .int x3]) (n := 5) (Nat.le_of_ble_eq_true rfl)
  rw [lg_entry_eq]
  generalize (lg_sl ([.ref (q 0), .int x1, .int x2, .int x3]) ++ List.replicate (5 - (lg_sl ([.ref (q 0), .int x1, .int x2, .int x3])).length) Slot.unset).toArray = ls at hl ⊢
  have hl : lv_has ls 5 [(0, .ref (q 0)), (1, .int x1), (2, .int x2), (3, .int x3)] := hl
  refine lv_aload_n hx hb nd_L_mmap_0 rfl (lv_at hl 0 rfl) ?_
  refine lv_iload_n hx hb nd_L_mmap_1 rfl (lv_at hl 1 rfl) ?_
  refine lv_iload_n hx hb nd_L_mmap_2 rfl (lv_at hl 2 rfl) ?_
  refine lv_iload_n hx hb nd_L_mmap_3 rfl (lv_at hl 3 rfl) ?_
  have hPc : va_P (dC, dI) vwCl (wd_C q cI cZ σ) s.heap := hP.sub [0, 1, 2, 3, 4, 5, 6, 7, 8, 9, 10, 11, 12, 13, 14, 15] rfl
  have hDc : va_D A (wd_C q cI cZ σ) := hD.sub [0, 1, 2, 3, 4, 5, 6, 7, 8, 9, 10, 11, 12, 13, 14, 15] (by decide) rfl
  have hKc : va_K (dC, dI) vwCl [(cI, .int), (cZ, .boolean)] s := hK.sub [0, 1] rfl
  have hFc := va_free (wc := (wd_C q cI cZ σ)) hD hS hA [0, 1, 2, 3, 4, 5, 6, 7, 8, 9, 10, 11, 12, 13, 14, 15] rfl
  rcases hk with ⟨rfl, rfl⟩ | ⟨rfl, rfl⟩
  · refine va_callv (va_runV (C := "MovedFrames") (As := [.int x1, .int x2, .int x3]) (rest := []) ⟨hx, hb, hml, hown, hB⟩ (kw_F_mmap l dC dI q cI cZ _ σ x1 x2 x3 v σ' hf) ⟨callB_of 3 hB (gi_ lk_445) rfl rfl rfl (hB _ lk_1) (hB _ lk_442) (by decide +kernel) ⟨(Nat.le_of_ble_eq_true rfl), (Nat.le_of_ble_eq_true rfl)⟩, hB _ lk_443, hB _ lk_444⟩ ⟨bl_, va_recv (ci := 5) (q0 := 0) hKc hPc rfl rfl, pre_ hPc hKc hDc hN⟩ rfl rfl hl.1 rfl (lv_room (Nat.le_of_ble_eq_true rfl)) nd_L_mmap_4 ⟨Nat.zero_le _, Nat.zero_le _⟩) hS (fun q _ h => hFc q h) hFc (fun u t H1 locs ht hvm hw hB1 hz1 hk1 hS => ?_)
    have hu := hw
    obtain ⟨hP1, hK1, hD1⟩ := hB1
    rw [ht] at hP1
    rw [hu] at hP1 hD1
    obtain ⟨hP, hD⟩ := va_join (wc := (wd_C q cI cZ σ)) (wr := [wo_ qo cJ o]) (w1 := wd_C q cI cZ σ') hP hD [0, 1, 2, 3, 4, 5, 6, 7, 8, 9, 10, 11, 12, 13, 14, 15] [16] rfl rfl (by decide) (by decide) hk1 hFc hP1 hD1
    have hP : va_P (dC, dI) vwCl (wh_ q qo cI cZ cJ (σ', o)) H1 := hP.sub [1, 2, 3, 4, 5, 6, 7, 8, 9, 10, 11, 12, 13, 14, 15, 16, 0] rfl
    have hD : va_D A (wh_ q qo cI cZ cJ (σ', o)) := hD.sub [1, 2, 3, 4, 5, 6, 7, 8, 9, 10, 11, 12, 13, 14, 15, 16, 0] (by decide) rfl
    refine lv_goto (tgt := 14) hx hb nd_L_mmap_7 (by decide) ?_
    refine lv_iconst (v := 0) hx hb nd_L_mmap_14 (by decide) ?_
    refine W.widen (k := 1) (n := 6) (Nat.le_of_ble_eq_true rfl) (Nat.le_of_ble_eq_true rfl) ?_
    exact re_i hx hb hr hlocks rfl rfl hP hK hD hS nd_L_mmap_15
  · refine vx_callv (vx_runV (C := "MovedFrames") (As := [.int x1, .int x2, .int x3]) (rest := []) ⟨hx, hb, hml, hown, hB⟩ (kt_F_mmap l dC dI q cI cZ _ σ x1 x2 x3 v 1 σ' htr (by decide) hf) ⟨callB_of 3 hB (gi_ lk_445) rfl rfl rfl (hB _ lk_1) (hB _ lk_442) (by decide +kernel) ⟨(Nat.le_of_ble_eq_true rfl), (Nat.le_of_ble_eq_true rfl)⟩, hB _ lk_443, hB _ lk_444⟩ ⟨blx_, va_recv (ci := 5) (q0 := 0) hKc hPc rfl rfl, prex_ hPc hKc hDc hN hT hZ hS hA⟩ rfl rfl hl.1 rfl (lv_room (Nat.le_of_ble_eq_true rfl)) nd_L_mmap_4 ⟨(Nat.le_of_ble_eq_true rfl), (Nat.le_of_ble_eq_true rfl)⟩) hS (fun q _ h => hFc q h) hFc (fun q _ h => hFc q h) (fun E ce q9 u t H1 locs ht hvm hpx hB1 hz1 hk1 hS hce hcv hcl => ?_) (fun u t H1 locs1 ht hvm hp => hp.elim)
    obtain ⟨-, hu⟩ := hpx
    obtain ⟨hE, hP1, hK1, hD1⟩ := hB1
    subst hE
    rw [ht] at hP1
    rw [hu] at hP1 hD1
    obtain ⟨hP, hD⟩ := va_join (wc := (wd_C q cI cZ σ)) (wr := [wo_ qo cJ o]) (w1 := wd_C q cI cZ σ') hP hD [0, 1, 2, 3, 4, 5, 6, 7, 8, 9, 10, 11, 12, 13, 14, 15] [16] rfl rfl (by decide) (by decide) hk1 hFc hP1 hD1
    have hP : va_P (dC, dI) vwCl (wh_ q qo cI cZ cJ (σ', o)) H1 := hP.sub [1, 2, 3, 4, 5, 6, 7, 8, 9, 10, 11, 12, 13, 14, 15, 16, 0] rfl
    have hD : va_D A (wh_ q qo cI cZ cJ (σ', o)) := hD.sub [1, 2, 3, 4, 5, 6, 7, 8, 9, 10, 11, 12, 13, 14, 15, 16, 0] (by decide) rfl
    refine vx_catch (own := "MovedFramesLaw") (name := "java/lang/IllegalArgumentException") (E := "java/lang/IllegalArgumentException") hown [] ⟨0, 7, 10, 13⟩ [] (htab.trans rfl) (fun z hz => by cases hz) (by decide) (by decide) (hB _ lk_218) (va_Nw.use (nx_tab _ (by decide +kernel)) (hT.1 (Cond.castable "java/lang/IllegalArgumentException" "java/lang/IllegalArgumentException") (by decide +kernel))) hce hcv hcl ?_
    refine lv_astore (lv' := [(4, .ref q9), (0, .ref (q 0)), (1, .int x1), (2, .int x2), (3, .int x3)]) hx hb nd_L_mmap_10 hl (by decide) rfl (fun ls hl => ?_)
    refine lv_iconst (v := 1) hx hb nd_L_mmap_12 (by decide) ?_
    refine W.widen (k := 1) (n := 6) (Nat.le_of_ble_eq_true rfl) (Nat.le_of_ble_eq_true rfl) ?_
    exact re_i hx hb hr hlocks rfl rfl hP hK hD hS nd_L_mmap_13
def kc_L_munmap (n : Nat) (k : Int32) : Prop := (n = 0 ∧ k = 0) ∨ (n = 1 ∧ k = 1)
abbrev rh_L_munmap : Room := { frames := 9, cells := 1, slots := 6, locals := 157 }
set_option maxHeartbeats 4000000 in
set_option maxRecDepth 100000 in
theorem kh_L_munmap (l : Launch) (dC : Nat → ClassId) (dI : Nat → Nat → Nat) (q : Nat → Nat) (qo : Nat) (cI cZ cJ : ClassId) (sz : Nat) (σ : CS) (o : Nat → Int64) (x1 : Int32) (x2 : Int32) (x3 : Int32) (v : Int32) (n : Nat) (σ' : CS) (k : Int32) (htr : l.stackTraces = false) (hk : kc_L_munmap n k) (hf : mc_munmap σ x1 x2 x3 = some (v, n, σ')) : Met l ny_L_munmap nw_L_munmap rh_L_munmap (va_Pc [.ref (q 0), .int x1, .int x2, .int x3, .ref qo] (prh_ (dC, dI) (wh_ q qo cI cZ cJ) [(cI, .int), (cZ, .boolean), (cJ, .long)] sz (σ, o))) (qi_ (dC, dI) (wh_ q qo cI cZ cJ) [(cI, .int), (cZ, .boolean), (cJ, .long)] (va_A (wh_ q qo cI cZ cJ (σ, o)) sz) k (σ', (if n = 0 then vp_updL o 0 v.toInt64 else o))) 1 6 (va_A (wh_ q qo cI cZ cJ (σ, o)) sz) := by
  refine va_MetW (cc := nb_L_munmap) (maxL := 6) (ret := (some .int)) (hh := nh_L_munmap) (by decide) rfl ?_
  intro p e s m args below meth c s₁ B hml hv
  obtain ⟨rfl, ⟨⟨hsz, hP, hK, hD0, hN⟩, hT, hZ⟩, hC⟩ := hv
  have hx := B.exec
  have hb := B.bytes
  have hr := B.returns
  have hts := atoms_spec (ws := nw_L_munmap) B.pre
  have hB : ∀ w ∈ BG, w.before ([.ref (q 0), .int x1, .int x2, .int x3, .ref qo] : List Value).toArray s = true := fun w h => hts w (List.mem_cons_of_mem _ h)
  have hown : s.vm.findClass "MovedFramesLaw" = some m.cls := findClass_of_methodNamed B.named
  have hlocks := B.notSynchronized
  have htab : c.exceptionTable.toList = tableOf nh_L_munmap := vx_table (x := ny_L_munmap) B (hts _ List.mem_cons_self)
  subst hsz
  have hD := hD0.self (sz := s.heap.size)
  generalize hAe : va_A (wh_ q qo cI cZ cJ (σ, o)) s.heap.size = A at hD hZ ⊢
  have hA : ∀ q : Nat, s.heap.size ≤ q → A q := fun q h => by rw [← hAe]; exact Or.inr h
  have hS : va_S A s.heap s.heap [] := va_S.rf
  have hl := lv_entry ([.ref (q 0), .int x1, .int x2, .int x3, .ref qo]) (n := 6) (Nat.le_of_ble_eq_true rfl)
  rw [lg_entry_eq]
  generalize (lg_sl ([.ref (q 0), .int x1, .int x2, .int x3, .ref qo]) ++ List.replicate (6 - (lg_sl ([.ref (q 0), .int x1, .int x2, .int x3, .ref qo])).length) Slot.unset).toArray = ls at hl ⊢
  have hl : lv_has ls 6 [(0, .ref (q 0)), (1, .int x1), (2, .int x2), (3, .int x3), (4, .ref qo)] := hl
  refine lv_aload hx hb nd_L_munmap_0 (lv_at hl 4 rfl) ?_
  refine lv_iconst (v := 0) hx hb nd_L_munmap_2 (by decide) ?_
  refine lv_aload_n hx hb nd_L_munmap_3 rfl (lv_at hl 0 rfl) ?_
  refine lv_iload_n hx hb nd_L_munmap_4 rfl (lv_at hl 1 rfl) ?_
  refine lv_iload_n hx hb nd_L_munmap_5 rfl (lv_at hl 2 rfl) ?_
  refine lv_iload_n hx hb nd_L_munmap_6 rfl (lv_at hl 3 rfl) ?_
  have hPc : va_P (dC, dI) vwCl (wd_C q cI cZ σ) s.heap := hP.sub [0, 1, 2, 3, 4, 5, 6, 7, 8, 9, 10, 11, 12, 13, 14, 15] rfl
  have hDc : va_D A (wd_C q cI cZ σ) := hD.sub [0, 1, 2, 3, 4, 5, 6, 7, 8, 9, 10, 11, 12, 13, 14, 15] (by decide) rfl
  have hKc : va_K (dC, dI) vwCl [(cI, .int), (cZ, .boolean)] s := hK.sub [0, 1] rfl
  have hFc := va_free (wc := (wd_C q cI cZ σ)) hD hS hA [0, 1, 2, 3, 4, 5, 6, 7, 8, 9, 10, 11, 12, 13, 14, 15] rfl
  rcases hk with ⟨rfl, rfl⟩ | ⟨rfl, rfl⟩
  · refine va_calli (va_runV (C := "MovedFrames") (As := [.int x1, .int x2, .int x3]) (rest := [.int 0, .ref qo]) ⟨hx, hb, hml, hown, hB⟩ (kw_F_munmap l dC dI q cI cZ _ σ x1 x2 x3 v σ' hf) ⟨callB_of 3 hB (gi_ lk_480) rfl rfl rfl (hB _ lk_1) (hB _ lk_477) (by decide +kernel) ⟨(Nat.le_of_ble_eq_true rfl), (Nat.le_of_ble_eq_true rfl)⟩, hB _ lk_478, hB _ lk_479⟩ ⟨bl_, va_recv (ci := 5) (q0 := 0) hKc hPc rfl rfl, pre_ hPc hKc hDc hN⟩ rfl rfl hl.1 rfl (lv_room (Nat.le_of_ble_eq_true rfl)) nd_L_munmap_7 ⟨Nat.zero_le _, Nat.zero_le _⟩) hS (fun q _ h => hFc q h) hFc (fun r9 u t H1 locs ht hvm hw hB1 hz1 hk1 hS => ?_)
    obtain ⟨hr9, hu⟩ := hw
    have hr9 := hr9.symm
    subst hr9
    obtain ⟨hP1, hK1, hD1⟩ := hB1
    rw [ht] at hP1
    rw [hu] at hP1 hD1
    obtain ⟨hP, hD⟩ := va_join (wc := (wd_C q cI cZ σ)) (wr := [wo_ qo cJ o]) (w1 := wd_C q cI cZ σ') hP hD [0, 1, 2, 3, 4, 5, 6, 7, 8, 9, 10, 11, 12, 13, 14, 15] [16] rfl rfl (by decide) (by decide) hk1 hFc hP1 hD1
    have hP : va_P (dC, dI) vwCl (wh_ q qo cI cZ cJ (σ', o)) H1 := hP.sub [1, 2, 3, 4, 5, 6, 7, 8, 9, 10, 11, 12, 13, 14, 15, 16, 0] rfl
    have hD : va_D A (wh_ q qo cI cZ cJ (σ', o)) := hD.sub [1, 2, 3, 4, 5, 6, 7, 8, 9, 10, 11, 12, 13, 14, 15, 16, 0] (by decide) rfl
    refine lv_i2l (v := v.toInt64) hx hb nd_L_munmap_10 rfl ?_
    refine va_last hx hb hK hP hD hS 16 2 rfl rfl (by unfold vp_in; decide) nd_L_munmap_11 (fun H locs hP hD hS => ?_)
    have hP : va_P (dC, dI) vwCl (wh_ q qo cI cZ cJ (σ', vp_updL o 0 v.toInt64)) H := hP
    have hD : va_D A (wh_ q qo cI cZ cJ (σ', vp_updL o 0 v.toInt64)) := hD
    refine lv_goto (tgt := 19) hx hb nd_L_munmap_12 (by decide) ?_
    refine lv_iconst (v := 0) hx hb nd_L_munmap_19 (by decide) ?_
    refine W.widen (k := 1) (n := 6) (Nat.le_of_ble_eq_true rfl) (Nat.le_of_ble_eq_true rfl) ?_
    exact re_i hx hb hr hlocks rfl rfl hP hK hD hS nd_L_munmap_20
  · refine vx_calli (vx_runV (C := "MovedFrames") (As := [.int x1, .int x2, .int x3]) (rest := [.int 0, .ref qo]) ⟨hx, hb, hml, hown, hB⟩ (kt_F_munmap l dC dI q cI cZ _ σ x1 x2 x3 v 1 σ' htr (by decide) hf) ⟨callB_of 3 hB (gi_ lk_480) rfl rfl rfl (hB _ lk_1) (hB _ lk_477) (by decide +kernel) ⟨(Nat.le_of_ble_eq_true rfl), (Nat.le_of_ble_eq_true rfl)⟩, hB _ lk_478, hB _ lk_479⟩ ⟨blx_, va_recv (ci := 5) (q0 := 0) hKc hPc rfl rfl, prex_ hPc hKc hDc hN hT hZ hS hA⟩ rfl rfl hl.1 rfl (lv_room (Nat.le_of_ble_eq_true rfl)) nd_L_munmap_7 ⟨(Nat.le_of_ble_eq_true rfl), (Nat.le_of_ble_eq_true rfl)⟩) hS (fun q _ h => hFc q h) hFc (fun q _ h => hFc q h) (fun E ce q9 u t H1 locs ht hvm hpx hB1 hz1 hk1 hS hce hcv hcl => ?_) (fun r u t H1 locs1 ht hvm hp => hp.elim)
    obtain ⟨-, hu⟩ := hpx
    obtain ⟨hE, hP1, hK1, hD1⟩ := hB1
    subst hE
    rw [ht] at hP1
    rw [hu] at hP1 hD1
    obtain ⟨hP, hD⟩ := va_join (wc := (wd_C q cI cZ σ)) (wr := [wo_ qo cJ o]) (w1 := wd_C q cI cZ σ') hP hD [0, 1, 2, 3, 4, 5, 6, 7, 8, 9, 10, 11, 12, 13, 14, 15] [16] rfl rfl (by decide) (by decide) hk1 hFc hP1 hD1
    have hP : va_P (dC, dI) vwCl (wh_ q qo cI cZ cJ (σ', o)) H1 := hP.sub [1, 2, 3, 4, 5, 6, 7, 8, 9, 10, 11, 12, 13, 14, 15, 16, 0] rfl
    have hD : va_D A (wh_ q qo cI cZ cJ (σ', o)) := hD.sub [1, 2, 3, 4, 5, 6, 7, 8, 9, 10, 11, 12, 13, 14, 15, 16, 0] (by decide) rfl
    refine vx_catch (own := "MovedFramesLaw") (name := "java/lang/IllegalArgumentException") (E := "java/lang/IllegalArgumentException") hown [] ⟨0, 12, 15, 13⟩ [] (htab.trans rfl) (fun z hz => by cases hz) (by decide) (by decide) (hB _ lk_218) (va_Nw.use (nx_tab _ (by decide +kernel)) (hT.1 (Cond.castable "java/lang/IllegalArgumentException" "java/lang/IllegalArgumentException") (by decide +kernel))) hce hcv hcl ?_
    refine lv_astore (lv' := [(5, .ref q9), (0, .ref (q 0)), (1, .int x1), (2, .int x2), (3, .int x3), (4, .ref qo)]) hx hb nd_L_munmap_15 hl (by decide) rfl (fun ls hl => ?_)
    refine lv_iconst (v := 1) hx hb nd_L_munmap_17 (by decide) ?_
    refine W.widen (k := 1) (n := 6) (Nat.le_of_ble_eq_true rfl) (Nat.le_of_ble_eq_true rfl) ?_
    exact re_i hx hb hr hlocks rfl rfl hP hK hD hS nd_L_munmap_18
def kc_L_load (n : Nat) (k : Int32) : Prop := (n = 0 ∧ k = 0) ∨ (n = 1 ∧ k = 1) ∨ (n = 2 ∧ k = 2) ∨ (n = 3 ∧ k = 3)
abbrev rh_L_load : Room := { frames := 10, cells := 1, slots := 6, locals := 177 }
set_option maxHeartbeats 4000000 in
set_option maxRecDepth 100000 in
theorem kh_L_load (l : Launch) (dC : Nat → ClassId) (dI : Nat → Nat → Nat) (q : Nat → Nat) (qo : Nat) (cI cZ cJ : ClassId) (sz : Nat) (σ : CS) (o : Nat → Int64) (x1 : Int32) (x2 : Int32) (v : Int32) (n : Nat) (σ' : CS) (k : Int32) (htr : l.stackTraces = false) (hk : kc_L_load n k) (hf : mc_load σ x1 x2 = some (v, n, σ')) : Met l ny_L_load nw_L_load rh_L_load (va_Pc [.ref (q 0), .int x1, .int x2, .ref qo] (prh_ (dC, dI) (wh_ q qo cI cZ cJ) [(cI, .int), (cZ, .boolean), (cJ, .long)] sz (σ, o))) (qi_ (dC, dI) (wh_ q qo cI cZ cJ) [(cI, .int), (cZ, .boolean), (cJ, .long)] (va_A (wh_ q qo cI cZ cJ (σ, o)) sz) k (σ', (if n = 0 then vp_updL o 0 v.toInt64 else o))) 1 6 (va_A (wh_ q qo cI cZ cJ (σ, o)) sz) := by
  refine va_MetW (cc := nb_L_load) (maxL := 5) (ret := (some .int)) (hh := nh_L_load) (by decide) rfl ?_
  intro p e s m args below meth c s₁ B hml hv
  obtain ⟨rfl, ⟨⟨hsz, hP, hK, hD0, hN⟩, hT, hZ⟩, hC⟩ := hv
  have hx := B.exec
  have hb := B.bytes
  have hr := B.returns
  have hts := atoms_spec (ws := nw_L_load) B.pre
  have hB : ∀ w ∈ BG, w.before ([.ref (q 0), .int x1, .int x2, .ref qo] : List Value).toArray s = true := fun w h => hts w (List.mem_cons_of_mem _ h)
  have hown : s.vm.findClass "MovedFramesLaw" = some m.cls := findClass_of_methodNamed B.named
  have hlocks := B.notSynchronized
  have htab : c.exceptionTable.toList = tableOf nh_L_load := vx_table (x := ny_L_load) B (hts _ List.mem_cons_self)
  subst hsz
  have hD := hD0.self (sz := s.heap.size)
  generalize hAe : va_A (wh_ q qo cI cZ cJ (σ, o)) s.heap.size = A at hD hZ ⊢
  have hA : ∀ q : Nat, s.heap.size ≤ q → A q := fun q h => by rw [← hAe]; exact Or.inr h
  have hS : va_S A s.heap s.heap [] := va_S.rf
  have hl := lv_entry ([.ref (q 0), .int x1, .int x2, .ref qo]) (n := 5) (Nat.le_of_ble_eq_true rfl)
  rw [lg_entry_eq]
  generalize (lg_sl ([.ref (q 0), .int x1, .int x2, .ref qo]) ++ List.replicate (5 - (lg_sl ([.ref (q 0), .int x1, .int x2, .ref qo])).length) Slot.unset).toArray = ls at hl ⊢
  have hl : lv_has ls 5 [(0, .ref (q 0)), (1, .int x1), (2, .int x2), (3, .ref qo)] := hl
  refine lv_aload_n hx hb nd_L_load_0 rfl (lv_at hl 3 rfl) ?_
  refine lv_iconst (v := 0) hx hb nd_L_load_1 (by decide) ?_
  refine lv_aload_n hx hb nd_L_load_2 rfl (lv_at hl 0 rfl) ?_
  refine lv_iload_n hx hb nd_L_load_3 rfl (lv_at hl 1 rfl) ?_
  refine lv_iload_n hx hb nd_L_load_4 rfl (lv_at hl 2 rfl) ?_
  have hPc : va_P (dC, dI) vwCl (wd_C q cI cZ σ) s.heap := hP.sub [0, 1, 2, 3, 4, 5, 6, 7, 8, 9, 10, 11, 12, 13, 14, 15] rfl
  have hDc : va_D A (wd_C q cI cZ σ) := hD.sub [0, 1, 2, 3, 4, 5, 6, 7, 8, 9, 10, 11, 12, 13, 14, 15] (by decide) rfl
  have hKc : va_K (dC, dI) vwCl [(cI, .int), (cZ, .boolean)] s := hK.sub [0, 1] rfl
  have hFc := va_free (wc := (wd_C q cI cZ σ)) hD hS hA [0, 1, 2, 3, 4, 5, 6, 7, 8, 9, 10, 11, 12, 13, 14, 15] rfl
  rcases hk with ⟨rfl, rfl⟩ | ⟨rfl, rfl⟩ | ⟨rfl, rfl⟩ | ⟨rfl, rfl⟩
  · refine va_calli (va_runV (C := "MovedFrames") (As := [.int x1, .int x2]) (rest := [.int 0, .ref qo]) ⟨hx, hb, hml, hown, hB⟩ (kw_F_load l dC dI q cI cZ _ σ x1 x2 v σ' hf) ⟨callB_of 2 hB (gi_ lk_502) rfl rfl rfl (hB _ lk_1) (hB _ lk_499) (by decide +kernel) ⟨(Nat.le_of_ble_eq_true rfl), (Nat.le_of_ble_eq_true rfl)⟩, hB _ lk_500, hB _ lk_501⟩ ⟨bl_, va_recv (ci := 5) (q0 := 0) hKc hPc rfl rfl, pre_ hPc hKc hDc hN⟩ rfl rfl hl.1 rfl (lv_room (Nat.le_of_ble_eq_true rfl)) nd_L_load_5 ⟨Nat.zero_le _, Nat.zero_le _⟩) hS (fun q _ h => hFc q h) hFc (fun r9 u t H1 locs ht hvm hw hB1 hz1 hk1 hS => ?_)
    obtain ⟨hr9, hu⟩ := hw
    have hr9 := hr9.symm
    subst hr9
    obtain ⟨hP1, hK1, hD1⟩ := hB1
    rw [ht] at hP1
    rw [hu] at hP1 hD1
    obtain ⟨hP, hD⟩ := va_join (wc := (wd_C q cI cZ σ)) (wr := [wo_ qo cJ o]) (w1 := wd_C q cI cZ σ') hP hD [0, 1, 2, 3, 4, 5, 6, 7, 8, 9, 10, 11, 12, 13, 14, 15] [16] rfl rfl (by decide) (by decide) hk1 hFc hP1 hD1
    have hP : va_P (dC, dI) vwCl (wh_ q qo cI cZ cJ (σ', o)) H1 := hP.sub [1, 2, 3, 4, 5, 6, 7, 8, 9, 10, 11, 12, 13, 14, 15, 16, 0] rfl
    have hD : va_D A (wh_ q qo cI cZ cJ (σ', o)) := hD.sub [1, 2, 3, 4, 5, 6, 7, 8, 9, 10, 11, 12, 13, 14, 15, 16, 0] (by decide) rfl
    refine lv_i2l (v := v.toInt64) hx hb nd_L_load_8 rfl ?_
    refine va_last hx hb hK hP hD hS 16 2 rfl rfl (by unfold vp_in; decide) nd_L_load_9 (fun H locs hP hD hS => ?_)
    have hP : va_P (dC, dI) vwCl (wh_ q qo cI cZ cJ (σ', vp_updL o 0 v.toInt64)) H := hP
    have hD : va_D A (wh_ q qo cI cZ cJ (σ', vp_updL o 0 v.toInt64)) := hD
    refine lv_goto (tgt := 25) hx hb nd_L_load_10 (by decide) ?_
    refine lv_iconst (v := 0) hx hb nd_L_load_25 (by decide) ?_
    refine W.widen (k := 1) (n := 6) (Nat.le_of_ble_eq_true rfl) (Nat.le_of_ble_eq_true rfl) ?_
    exact re_i hx hb hr hlocks rfl rfl hP hK hD hS nd_L_load_26
  · refine vx_calli (vx_runV (C := "MovedFrames") (As := [.int x1, .int x2]) (rest := [.int 0, .ref qo]) ⟨hx, hb, hml, hown, hB⟩ (kt_F_load l dC dI q cI cZ _ σ x1 x2 v 1 σ' htr (by decide) hf) ⟨callB_of 2 hB (gi_ lk_502) rfl rfl rfl (hB _ lk_1) (hB _ lk_499) (by decide +kernel) ⟨(Nat.le_of_ble_eq_true rfl), (Nat.le_of_ble_eq_true rfl)⟩, hB _ lk_500, hB _ lk_501⟩ ⟨blx_, va_recv (ci := 5) (q0 := 0) hKc hPc rfl rfl, prex_ hPc hKc hDc hN hT hZ hS hA⟩ rfl rfl hl.1 rfl (lv_room (Nat.le_of_ble_eq_true rfl)) nd_L_load_5 ⟨(Nat.le_of_ble_eq_true rfl), (Nat.le_of_ble_eq_true rfl)⟩) hS (fun q _ h => hFc q h) hFc (fun q _ h => hFc q h) (fun E ce q9 u t H1 locs ht hvm hpx hB1 hz1 hk1 hS hce hcv hcl => ?_) (fun r u t H1 locs1 ht hvm hp => hp.elim)
    obtain ⟨-, hu⟩ := hpx
    obtain ⟨hE, hP1, hK1, hD1⟩ := hB1
    subst hE
    rw [ht] at hP1
    rw [hu] at hP1 hD1
    obtain ⟨hP, hD⟩ := va_join (wc := (wd_C q cI cZ σ)) (wr := [wo_ qo cJ o]) (w1 := wd_C q cI cZ σ') hP hD [0, 1, 2, 3, 4, 5, 6, 7, 8, 9, 10, 11, 12, 13, 14, 15] [16] rfl rfl (by decide) (by decide) hk1 hFc hP1 hD1
    have hP : va_P (dC, dI) vwCl (wh_ q qo cI cZ cJ (σ', o)) H1 := hP.sub [1, 2, 3, 4, 5, 6, 7, 8, 9, 10, 11, 12, 13, 14, 15, 16, 0] rfl
    have hD : va_D A (wh_ q qo cI cZ cJ (σ', o)) := hD.sub [1, 2, 3, 4, 5, 6, 7, 8, 9, 10, 11, 12, 13, 14, 15, 16, 0] (by decide) rfl
    refine vx_catch (own := "MovedFramesLaw") (name := "java/lang/IllegalArgumentException") (E := "java/lang/IllegalArgumentException") hown [] ⟨0, 10, 13, 13⟩ [⟨0, 10, 17, 46⟩, ⟨0, 10, 21, 15⟩] (htab.trans rfl) (fun z hz => by cases hz) (by decide) (by decide) (hB _ lk_218) (va_Nw.use (nx_tab _ (by decide +kernel)) (hT.1 (Cond.castable "java/lang/IllegalArgumentException" "java/lang/IllegalArgumentException") (by decide +kernel))) hce hcv hcl ?_
    refine lv_astore (lv' := [(4, .ref q9), (0, .ref (q 0)), (1, .int x1), (2, .int x2), (3, .ref qo)]) hx hb nd_L_load_13 hl (by decide) rfl (fun ls hl => ?_)
    refine lv_iconst (v := 1) hx hb nd_L_load_15 (by decide) ?_
    refine W.widen (k := 1) (n := 6) (Nat.le_of_ble_eq_true rfl) (Nat.le_of_ble_eq_true rfl) ?_
    exact re_i hx hb hr hlocks rfl rfl hP hK hD hS nd_L_load_16
  · refine vx_calli (vx_runV (C := "MovedFrames") (As := [.int x1, .int x2]) (rest := [.int 0, .ref qo]) ⟨hx, hb, hml, hown, hB⟩ (kt_F_load l dC dI q cI cZ _ σ x1 x2 v 2 σ' htr (by decide) hf) ⟨callB_of 2 hB (gi_ lk_502) rfl rfl rfl (hB _ lk_1) (hB _ lk_499) (by decide +kernel) ⟨(Nat.le_of_ble_eq_true rfl), (Nat.le_of_ble_eq_true rfl)⟩, hB _ lk_500, hB _ lk_501⟩ ⟨blx_, va_recv (ci := 5) (q0 := 0) hKc hPc rfl rfl, prex_ hPc hKc hDc hN hT hZ hS hA⟩ rfl rfl hl.1 rfl (lv_room (Nat.le_of_ble_eq_true rfl)) nd_L_load_5 ⟨(Nat.le_of_ble_eq_true rfl), (Nat.le_of_ble_eq_true rfl)⟩) hS (fun q _ h => hFc q h) hFc (fun q _ h => hFc q h) (fun E ce q9 u t H1 locs ht hvm hpx hB1 hz1 hk1 hS hce hcv hcl => ?_) (fun r u t H1 locs1 ht hvm hp => hp.elim)
    obtain ⟨-, hu⟩ := hpx
    obtain ⟨hE, hP1, hK1, hD1⟩ := hB1
    subst hE
    rw [ht] at hP1
    rw [hu] at hP1 hD1
    obtain ⟨hP, hD⟩ := va_join (wc := (wd_C q cI cZ σ)) (wr := [wo_ qo cJ o]) (w1 := wd_C q cI cZ σ') hP hD [0, 1, 2, 3, 4, 5, 6, 7, 8, 9, 10, 11, 12, 13, 14, 15] [16] rfl rfl (by decide) (by decide) hk1 hFc hP1 hD1
    have hP : va_P (dC, dI) vwCl (wh_ q qo cI cZ cJ (σ', o)) H1 := hP.sub [1, 2, 3, 4, 5, 6, 7, 8, 9, 10, 11, 12, 13, 14, 15, 16, 0] rfl
    have hD : va_D A (wh_ q qo cI cZ cJ (σ', o)) := hD.sub [1, 2, 3, 4, 5, 6, 7, 8, 9, 10, 11, 12, 13, 14, 15, 16, 0] (by decide) rfl
    refine vx_catch (own := "MovedFramesLaw") (name := "java/lang/IndexOutOfBoundsException") (E := "java/lang/IndexOutOfBoundsException") hown [⟨0, 10, 13, 13⟩] ⟨0, 10, 17, 46⟩ [⟨0, 10, 21, 15⟩] (htab.trans rfl) (List.forall_mem_cons.mpr ⟨Or.inr ⟨by decide, "java/lang/IllegalArgumentException", hB _ lk_218, hC.2.1⟩, fun z hz => by cases hz⟩) (by decide) (by decide) (hB _ lk_498) (va_Nw.use (nx_tab _ (by decide +kernel)) (hT.1 (Cond.castable "java/lang/IndexOutOfBoundsException" "java/lang/IndexOutOfBoundsException") (by decide +kernel))) hce hcv hcl ?_
    refine lv_astore (lv' := [(4, .ref q9), (0, .ref (q 0)), (1, .int x1), (2, .int x2), (3, .ref qo)]) hx hb nd_L_load_17 hl (by decide) rfl (fun ls hl => ?_)
    refine lv_iconst (v := 2) hx hb nd_L_load_19 (by decide) ?_
    refine W.widen (k := 1) (n := 6) (Nat.le_of_ble_eq_true rfl) (Nat.le_of_ble_eq_true rfl) ?_
    exact re_i hx hb hr hlocks rfl rfl hP hK hD hS nd_L_load_20
  · refine vx_calli (vx_runV (C := "MovedFrames") (As := [.int x1, .int x2]) (rest := [.int 0, .ref qo]) ⟨hx, hb, hml, hown, hB⟩ (kt_F_load l dC dI q cI cZ _ σ x1 x2 v 3 σ' htr (by decide) hf) ⟨callB_of 2 hB (gi_ lk_502) rfl rfl rfl (hB _ lk_1) (hB _ lk_499) (by decide +kernel) ⟨(Nat.le_of_ble_eq_true rfl), (Nat.le_of_ble_eq_true rfl)⟩, hB _ lk_500, hB _ lk_501⟩ ⟨blx_, va_recv (ci := 5) (q0 := 0) hKc hPc rfl rfl, prex_ hPc hKc hDc hN hT hZ hS hA⟩ rfl rfl hl.1 rfl (lv_room (Nat.le_of_ble_eq_true rfl)) nd_L_load_5 ⟨(Nat.le_of_ble_eq_true rfl), (Nat.le_of_ble_eq_true rfl)⟩) hS (fun q _ h => hFc q h) hFc (fun q _ h => hFc q h) (fun E ce q9 u t H1 locs ht hvm hpx hB1 hz1 hk1 hS hce hcv hcl => ?_) (fun r u t H1 locs1 ht hvm hp => hp.elim)
    obtain ⟨-, hu⟩ := hpx
    obtain ⟨hE, hP1, hK1, hD1⟩ := hB1
    subst hE
    rw [ht] at hP1
    rw [hu] at hP1 hD1
    obtain ⟨hP, hD⟩ := va_join (wc := (wd_C q cI cZ σ)) (wr := [wo_ qo cJ o]) (w1 := wd_C q cI cZ σ') hP hD [0, 1, 2, 3, 4, 5, 6, 7, 8, 9, 10, 11, 12, 13, 14, 15] [16] rfl rfl (by decide) (by decide) hk1 hFc hP1 hD1
    have hP : va_P (dC, dI) vwCl (wh_ q qo cI cZ cJ (σ', o)) H1 := hP.sub [1, 2, 3, 4, 5, 6, 7, 8, 9, 10, 11, 12, 13, 14, 15, 16, 0] rfl
    have hD : va_D A (wh_ q qo cI cZ cJ (σ', o)) := hD.sub [1, 2, 3, 4, 5, 6, 7, 8, 9, 10, 11, 12, 13, 14, 15, 16, 0] (by decide) rfl
    refine vx_catch (own := "MovedFramesLaw") (name := "java/lang/IllegalStateException") (E := "java/lang/IllegalStateException") hown [⟨0, 10, 13, 13⟩, ⟨0, 10, 17, 46⟩] ⟨0, 10, 21, 15⟩ [] (htab.trans rfl) (List.forall_mem_cons.mpr ⟨Or.inr ⟨by decide, "java/lang/IllegalArgumentException", hB _ lk_218, hC.1⟩, List.forall_mem_cons.mpr ⟨Or.inr ⟨by decide, "java/lang/IndexOutOfBoundsException", hB _ lk_498, hC.2.2⟩, fun z hz => by cases hz⟩⟩) (by decide) (by decide) (hB _ lk_219) (va_Nw.use (nx_tab _ (by decide +kernel)) (hT.1 (Cond.castable "java/lang/IllegalStateException" "java/lang/IllegalStateException") (by decide +kernel))) hce hcv hcl ?_
    refine lv_astore (lv' := [(4, .ref q9), (0, .ref (q 0)), (1, .int x1), (2, .int x2), (3, .ref qo)]) hx hb nd_L_load_21 hl (by decide) rfl (fun ls hl => ?_)
    refine lv_iconst (v := 3) hx hb nd_L_load_23 (by decide) ?_
    refine W.widen (k := 1) (n := 6) (Nat.le_of_ble_eq_true rfl) (Nat.le_of_ble_eq_true rfl) ?_
    exact re_i hx hb hr hlocks rfl rfl hP hK hD hS nd_L_load_24
def kc_L_store (n : Nat) (k : Int32) : Prop := (n = 0 ∧ k = 0) ∨ (n = 1 ∧ k = 1) ∨ (n = 2 ∧ k = 2) ∨ (n = 3 ∧ k = 3)
abbrev rh_L_store : Room := { frames := 10, cells := 1, slots := 6, locals := 178 }
set_option maxHeartbeats 4000000 in
set_option maxRecDepth 100000 in
theorem kh_L_store (l : Launch) (dC : Nat → ClassId) (dI : Nat → Nat → Nat) (q : Nat → Nat) (qo : Nat) (cI cZ cJ : ClassId) (sz : Nat) (σ : CS) (o : Nat → Int64) (x1 : Int32) (x2 : Int32) (x3 : Int32) (v : Int32) (n : Nat) (σ' : CS) (k : Int32) (htr : l.stackTraces = false) (hk : kc_L_store n k) (hf : mc_store σ x1 x2 x3 = some (v, n, σ')) : Met l ny_L_store nw_L_store rh_L_store (va_Pc [.ref (q 0), .int x1, .int x2, .int x3] (prh_ (dC, dI) (wh_ q qo cI cZ cJ) [(cI, .int), (cZ, .boolean), (cJ, .long)] sz (σ, o))) (qi_ (dC, dI) (wh_ q qo cI cZ cJ) [(cI, .int), (cZ, .boolean), (cJ, .long)] (va_A (wh_ q qo cI cZ cJ (σ, o)) sz) k (σ', o)) 1 6 (va_A (wh_ q qo cI cZ cJ (σ, o)) sz) := by
  refine va_MetW (cc := nb_L_store) (maxL := 5) (ret := (some .int)) (hh := nh_L_store) (by decide) rfl ?_
  intro p e s m args below meth c s₁ B hml hv
  obtain ⟨rfl, ⟨⟨hsz, hP, hK, hD0, hN⟩, hT, hZ⟩, hC⟩ := hv
  have hx := B.exec
  have hb := B.bytes
  have hr := B.returns
  have hts := atoms_spec (ws := nw_L_store) B.pre
  have hB : ∀ w ∈ BG, w.before ([.ref (q 0), .int x1, .int x2, .int x3] : List Value).toArray s = true := fun w h => hts w (List.mem_cons_of_mem _ h)
  have hown : s.vm.findClass "MovedFramesLaw" = some m.cls := findClass_of_methodNamed B.named
  have hlocks := B.notSynchronized
  have htab : c.exceptionTable.toList = tableOf nh_L_store := vx_table (x := ny_L_store) B (hts _ List.mem_cons_self)
  subst hsz
  have hD := hD0.self (sz := s.heap.size)
  generalize hAe : va_A (wh_ q qo cI cZ cJ (σ, o)) s.heap.size = A at hD hZ ⊢
  have hA : ∀ q : Nat, s.heap.size ≤ q → A q := fun q h => by rw [← hAe]; exact Or.inr h
  have hS : va_S A s.heap s.heap [] := va_S.rf
  have hl := lv_entry ([.ref (q 0), .int x1, .int x2, .int x3]) (n := 5) (Nat.le_of_ble_eq_true rfl)
  rw [lg_entry_eq]
  generalize (lg_sl ([.ref (q 0), .int x1, .int x2, .int x3]) ++ List.replicate (5 - (lg_sl ([.ref (q 0), .int x1, .int x2, .int x3])).length) Slot.unset).toArray = ls at hl ⊢
  have hl : lv_has ls 5 [(0, .ref (q 0)), (1, .int x1), (2, .int x2), (3, .int x3)] := hl
  refine lv_aload_n hx hb nd_L_store_0 rfl (lv_at hl 0 rfl) ?_
  refine lv_iload_n hx hb nd_L_store_1 rfl (lv_at hl 1 rfl) ?_
  refine lv_iload_n hx hb nd_L_store_2 rfl (lv_at hl 2 rfl) ?_
  refine lv_iload_n hx hb nd_L_store_3 rfl (lv_at hl 3 rfl) ?_
  have hPc : va_P (dC, dI) vwCl (wd_C q cI cZ σ) s.heap := hP.sub [0, 1, 2, 3, 4, 5, 6, 7, 8, 9, 10, 11, 12, 13, 14, 15] rfl
  have hDc : va_D A (wd_C q cI cZ σ) := hD.sub [0, 1, 2, 3, 4, 5, 6, 7, 8, 9, 10, 11, 12, 13, 14, 15] (by decide) rfl
  have hKc : va_K (dC, dI) vwCl [(cI, .int), (cZ, .boolean)] s := hK.sub [0, 1] rfl
  have hFc := va_free (wc := (wd_C q cI cZ σ)) hD hS hA [0, 1, 2, 3, 4, 5, 6, 7, 8, 9, 10, 11, 12, 13, 14, 15] rfl
  rcases hk with ⟨rfl, rfl⟩ | ⟨rfl, rfl⟩ | ⟨rfl, rfl⟩ | ⟨rfl, rfl⟩
  · refine va_callv (va_runV (C := "MovedFrames") (As := [.int x1, .int x2, .int x3]) (rest := []) ⟨hx, hb, hml, hown, hB⟩ (kw_F_store l dC dI q cI cZ _ σ x1 x2 x3 v σ' hf) ⟨callB_of 3 hB (gi_ lk_562) rfl rfl rfl (hB _ lk_1) (hB _ lk_559) (by decide +kernel) ⟨(Nat.le_of_ble_eq_true rfl), (Nat.le_of_ble_eq_true rfl)⟩, hB _ lk_560, hB _ lk_561⟩ ⟨bl_, va_recv (ci := 5) (q0 := 0) hKc hPc rfl rfl, pre_ hPc hKc hDc hN⟩ rfl rfl hl.1 rfl (lv_room (Nat.le_of_ble_eq_true rfl)) nd_L_store_4 ⟨Nat.zero_le _, Nat.zero_le _⟩) hS (fun q _ h => hFc q h) hFc (fun u t H1 locs ht hvm hw hB1 hz1 hk1 hS => ?_)
    have hu := hw
    obtain ⟨hP1, hK1, hD1⟩ := hB1
    rw [ht] at hP1
    rw [hu] at hP1 hD1
    obtain ⟨hP, hD⟩ := va_join (wc := (wd_C q cI cZ σ)) (wr := [wo_ qo cJ o]) (w1 := wd_C q cI cZ σ') hP hD [0, 1, 2, 3, 4, 5, 6, 7, 8, 9, 10, 11, 12, 13, 14, 15] [16] rfl rfl (by decide) (by decide) hk1 hFc hP1 hD1
    have hP : va_P (dC, dI) vwCl (wh_ q qo cI cZ cJ (σ', o)) H1 := hP.sub [1, 2, 3, 4, 5, 6, 7, 8, 9, 10, 11, 12, 13, 14, 15, 16, 0] rfl
    have hD : va_D A (wh_ q qo cI cZ cJ (σ', o)) := hD.sub [1, 2, 3, 4, 5, 6, 7, 8, 9, 10, 11, 12, 13, 14, 15, 16, 0] (by decide) rfl
    refine lv_goto (tgt := 22) hx hb nd_L_store_7 (by decide) ?_
    refine lv_iconst (v := 0) hx hb nd_L_store_22 (by decide) ?_
    refine W.widen (k := 1) (n := 6) (Nat.le_of_ble_eq_true rfl) (Nat.le_of_ble_eq_true rfl) ?_
    exact re_i hx hb hr hlocks rfl rfl hP hK hD hS nd_L_store_23
  · refine vx_callv (vx_runV (C := "MovedFrames") (As := [.int x1, .int x2, .int x3]) (rest := []) ⟨hx, hb, hml, hown, hB⟩ (kt_F_store l dC dI q cI cZ _ σ x1 x2 x3 v 1 σ' htr (by decide) hf) ⟨callB_of 3 hB (gi_ lk_562) rfl rfl rfl (hB _ lk_1) (hB _ lk_559) (by decide +kernel) ⟨(Nat.le_of_ble_eq_true rfl), (Nat.le_of_ble_eq_true rfl)⟩, hB _ lk_560, hB _ lk_561⟩ ⟨blx_, va_recv (ci := 5) (q0 := 0) hKc hPc rfl rfl, prex_ hPc hKc hDc hN hT hZ hS hA⟩ rfl rfl hl.1 rfl (lv_room (Nat.le_of_ble_eq_true rfl)) nd_L_store_4 ⟨(Nat.le_of_ble_eq_true rfl), (Nat.le_of_ble_eq_true rfl)⟩) hS (fun q _ h => hFc q h) hFc (fun q _ h => hFc q h) (fun E ce q9 u t H1 locs ht hvm hpx hB1 hz1 hk1 hS hce hcv hcl => ?_) (fun u t H1 locs1 ht hvm hp => hp.elim)
    obtain ⟨-, hu⟩ := hpx
    obtain ⟨hE, hP1, hK1, hD1⟩ := hB1
    subst hE
    rw [ht] at hP1
    rw [hu] at hP1 hD1
    obtain ⟨hP, hD⟩ := va_join (wc := (wd_C q cI cZ σ)) (wr := [wo_ qo cJ o]) (w1 := wd_C q cI cZ σ') hP hD [0, 1, 2, 3, 4, 5, 6, 7, 8, 9, 10, 11, 12, 13, 14, 15] [16] rfl rfl (by decide) (by decide) hk1 hFc hP1 hD1
    have hP : va_P (dC, dI) vwCl (wh_ q qo cI cZ cJ (σ', o)) H1 := hP.sub [1, 2, 3, 4, 5, 6, 7, 8, 9, 10, 11, 12, 13, 14, 15, 16, 0] rfl
    have hD : va_D A (wh_ q qo cI cZ cJ (σ', o)) := hD.sub [1, 2, 3, 4, 5, 6, 7, 8, 9, 10, 11, 12, 13, 14, 15, 16, 0] (by decide) rfl
    refine vx_catch (own := "MovedFramesLaw") (name := "java/lang/IllegalArgumentException") (E := "java/lang/IllegalArgumentException") hown [] ⟨0, 7, 10, 13⟩ [⟨0, 7, 14, 46⟩, ⟨0, 7, 18, 15⟩] (htab.trans rfl) (fun z hz => by cases hz) (by decide) (by decide) (hB _ lk_218) (va_Nw.use (nx_tab _ (by decide +kernel)) (hT.1 (Cond.castable "java/lang/IllegalArgumentException" "java/lang/IllegalArgumentException") (by decide +kernel))) hce hcv hcl ?_
    refine lv_astore (lv' := [(4, .ref q9), (0, .ref (q 0)), (1, .int x1), (2, .int x2), (3, .int x3)]) hx hb nd_L_store_10 hl (by decide) rfl (fun ls hl => ?_)
    refine lv_iconst (v := 1) hx hb nd_L_store_12 (by decide) ?_
    refine W.widen (k := 1) (n := 6) (Nat.le_of_ble_eq_true rfl) (Nat.le_of_ble_eq_true rfl) ?_
    exact re_i hx hb hr hlocks rfl rfl hP hK hD hS nd_L_store_13
  · refine vx_callv (vx_runV (C := "MovedFrames") (As := [.int x1, .int x2, .int x3]) (rest := []) ⟨hx, hb, hml, hown, hB⟩ (kt_F_store l dC dI q cI cZ _ σ x1 x2 x3 v 2 σ' htr (by decide) hf) ⟨callB_of 3 hB (gi_ lk_562) rfl rfl rfl (hB _ lk_1) (hB _ lk_559) (by decide +kernel) ⟨(Nat.le_of_ble_eq_true rfl), (Nat.le_of_ble_eq_true rfl)⟩, hB _ lk_560, hB _ lk_561⟩ ⟨blx_, va_recv (ci := 5) (q0 := 0) hKc hPc rfl rfl, prex_ hPc hKc hDc hN hT hZ hS hA⟩ rfl rfl hl.1 rfl (lv_room (Nat.le_of_ble_eq_true rfl)) nd_L_store_4 ⟨(Nat.le_of_ble_eq_true rfl), (Nat.le_of_ble_eq_true rfl)⟩) hS (fun q _ h => hFc q h) hFc (fun q _ h => hFc q h) (fun E ce q9 u t H1 locs ht hvm hpx hB1 hz1 hk1 hS hce hcv hcl => ?_) (fun u t H1 locs1 ht hvm hp => hp.elim)
    obtain ⟨-, hu⟩ := hpx
    obtain ⟨hE, hP1, hK1, hD1⟩ := hB1
    subst hE
    rw [ht] at hP1
    rw [hu] at hP1 hD1
    obtain ⟨hP, hD⟩ := va_join (wc := (wd_C q cI cZ σ)) (wr := [wo_ qo cJ o]) (w1 := wd_C q cI cZ σ') hP hD [0, 1, 2, 3, 4, 5, 6, 7, 8, 9, 10, 11, 12, 13, 14, 15] [16] rfl rfl (by decide) (by decide) hk1 hFc hP1 hD1
    have hP : va_P (dC, dI) vwCl (wh_ q qo cI cZ cJ (σ', o)) H1 := hP.sub [1, 2, 3, 4, 5, 6, 7, 8, 9, 10, 11, 12, 13, 14, 15, 16, 0] rfl
    have hD : va_D A (wh_ q qo cI cZ cJ (σ', o)) := hD.sub [1, 2, 3, 4, 5, 6, 7, 8, 9, 10, 11, 12, 13, 14, 15, 16, 0] (by decide) rfl
    refine vx_catch (own := "MovedFramesLaw") (name := "java/lang/IndexOutOfBoundsException") (E := "java/lang/IndexOutOfBoundsException") hown [⟨0, 7, 10, 13⟩] ⟨0, 7, 14, 46⟩ [⟨0, 7, 18, 15⟩] (htab.trans rfl) (List.forall_mem_cons.mpr ⟨Or.inr ⟨by decide, "java/lang/IllegalArgumentException", hB _ lk_218, hC.2.1⟩, fun z hz => by cases hz⟩) (by decide) (by decide) (hB _ lk_498) (va_Nw.use (nx_tab _ (by decide +kernel)) (hT.1 (Cond.castable "java/lang/IndexOutOfBoundsException" "java/lang/IndexOutOfBoundsException") (by decide +kernel))) hce hcv hcl ?_
    refine lv_astore (lv' := [(4, .ref q9), (0, .ref (q 0)), (1, .int x1), (2, .int x2), (3, .int x3)]) hx hb nd_L_store_14 hl (by decide) rfl (fun ls hl => ?_)
    refine lv_iconst (v := 2) hx hb nd_L_store_16 (by decide) ?_
    refine W.widen (k := 1) (n := 6) (Nat.le_of_ble_eq_true rfl) (Nat.le_of_ble_eq_true rfl) ?_
    exact re_i hx hb hr hlocks rfl rfl hP hK hD hS nd_L_store_17
  · refine vx_callv (vx_runV (C := "MovedFrames") (As := [.int x1, .int x2, .int x3]) (rest := []) ⟨hx, hb, hml, hown, hB⟩ (kt_F_store l dC dI q cI cZ _ σ x1 x2 x3 v 3 σ' htr (by decide) hf) ⟨callB_of 3 hB (gi_ lk_562) rfl rfl rfl (hB _ lk_1) (hB _ lk_559) (by decide +kernel) ⟨(Nat.le_of_ble_eq_true rfl), (Nat.le_of_ble_eq_true rfl)⟩, hB _ lk_560, hB _ lk_561⟩ ⟨blx_, va_recv (ci := 5) (q0 := 0) hKc hPc rfl rfl, prex_ hPc hKc hDc hN hT hZ hS hA⟩ rfl rfl hl.1 rfl (lv_room (Nat.le_of_ble_eq_true rfl)) nd_L_store_4 ⟨(Nat.le_of_ble_eq_true rfl), (Nat.le_of_ble_eq_true rfl)⟩) hS (fun q _ h => hFc q h) hFc (fun q _ h => hFc q h) (fun E ce q9 u t H1 locs ht hvm hpx hB1 hz1 hk1 hS hce hcv hcl => ?_) (fun u t H1 locs1 ht hvm hp => hp.elim)
    obtain ⟨-, hu⟩ := hpx
    obtain ⟨hE, hP1, hK1, hD1⟩ := hB1
    subst hE
    rw [ht] at hP1
    rw [hu] at hP1 hD1
    obtain ⟨hP, hD⟩ := va_join (wc := (wd_C q cI cZ σ)) (wr := [wo_ qo cJ o]) (w1 := wd_C q cI cZ σ') hP hD [0, 1, 2, 3, 4, 5, 6, 7, 8, 9, 10, 11, 12, 13, 14, 15] [16] rfl rfl (by decide) (by decide) hk1 hFc hP1 hD1
    have hP : va_P (dC, dI) vwCl (wh_ q qo cI cZ cJ (σ', o)) H1 := hP.sub [1, 2, 3, 4, 5, 6, 7, 8, 9, 10, 11, 12, 13, 14, 15, 16, 0] rfl
    have hD : va_D A (wh_ q qo cI cZ cJ (σ', o)) := hD.sub [1, 2, 3, 4, 5, 6, 7, 8, 9, 10, 11, 12, 13, 14, 15, 16, 0] (by decide) rfl
    refine vx_catch (own := "MovedFramesLaw") (name := "java/lang/IllegalStateException") (E := "java/lang/IllegalStateException") hown [⟨0, 7, 10, 13⟩, ⟨0, 7, 14, 46⟩] ⟨0, 7, 18, 15⟩ [] (htab.trans rfl) (List.forall_mem_cons.mpr ⟨Or.inr ⟨by decide, "java/lang/IllegalArgumentException", hB _ lk_218, hC.1⟩, List.forall_mem_cons.mpr ⟨Or.inr ⟨by decide, "java/lang/IndexOutOfBoundsException", hB _ lk_498, hC.2.2⟩, fun z hz => by cases hz⟩⟩) (by decide) (by decide) (hB _ lk_219) (va_Nw.use (nx_tab _ (by decide +kernel)) (hT.1 (Cond.castable "java/lang/IllegalStateException" "java/lang/IllegalStateException") (by decide +kernel))) hce hcv hcl ?_
    refine lv_astore (lv' := [(4, .ref q9), (0, .ref (q 0)), (1, .int x1), (2, .int x2), (3, .int x3)]) hx hb nd_L_store_18 hl (by decide) rfl (fun ls hl => ?_)
    refine lv_iconst (v := 3) hx hb nd_L_store_20 (by decide) ?_
    refine W.widen (k := 1) (n := 6) (Nat.le_of_ble_eq_true rfl) (Nat.le_of_ble_eq_true rfl) ?_
    exact re_i hx hb hr hlocks rfl rfl hP hK hD hS nd_L_store_21
def kc_L_contig (n : Nat) (k : Int32) : Prop := (n = 0 ∧ k = 0) ∨ (n = 1 ∧ k = 1) ∨ (n = 3 ∧ k = 2)
abbrev rh_L_contig : Room := { frames := 8, cells := 1, slots := 6, locals := 157 }
set_option maxHeartbeats 4000000 in
set_option maxRecDepth 100000 in
theorem kh_L_contig (l : Launch) (dC : Nat → ClassId) (dI : Nat → Nat → Nat) (q : Nat → Nat) (qo : Nat) (cI cZ cJ : ClassId) (sz : Nat) (σ : CS) (o : Nat → Int64) (x1 : Int32) (v : Int32) (n : Nat) (σ' : CS) (k : Int32) (htr : l.stackTraces = false) (hk : kc_L_contig n k) (hf : mc_contig σ x1 = some (v, n, σ')) : Met l ny_L_contig nw_L_contig rh_L_contig (va_Pc [.ref (q 0), .int x1, .ref qo] (prh_ (dC, dI) (wh_ q qo cI cZ cJ) [(cI, .int), (cZ, .boolean), (cJ, .long)] sz (σ, o))) (qi_ (dC, dI) (wh_ q qo cI cZ cJ) [(cI, .int), (cZ, .boolean), (cJ, .long)] (va_A (wh_ q qo cI cZ cJ (σ, o)) sz) k (σ', (if n = 0 then vp_updL o 0 v.toInt64 else o))) 1 6 (va_A (wh_ q qo cI cZ cJ (σ, o)) sz) := by
  refine va_MetW (cc := nb_L_contig) (maxL := 4) (ret := (some .int)) (hh := nh_L_contig) (by decide) rfl ?_
  intro p e s m args below meth c s₁ B hml hv
  obtain ⟨rfl, ⟨⟨hsz, hP, hK, hD0, hN⟩, hT, hZ⟩, hC⟩ := hv
  have hx := B.exec
  have hb := B.bytes
  have hr := B.returns
  have hts := atoms_spec (ws := nw_L_contig) B.pre
  have hB : ∀ w ∈ BG, w.before ([.ref (q 0), .int x1, .ref qo] : List Value).toArray s = true := fun w h => hts w (List.mem_cons_of_mem _ h)
  have hown : s.vm.findClass "MovedFramesLaw" = some m.cls := findClass_of_methodNamed B.named
  have hlocks := B.notSynchronized
  have htab : c.exceptionTable.toList = tableOf nh_L_contig := vx_table (x := ny_L_contig) B (hts _ List.mem_cons_self)
  subst hsz
  have hD := hD0.self (sz := s.heap.size)
  generalize hAe : va_A (wh_ q qo cI cZ cJ (σ, o)) s.heap.size = A at hD hZ ⊢
  have hA : ∀ q : Nat, s.heap.size ≤ q → A q := fun q h => by rw [← hAe]; exact Or.inr h
  have hS : va_S A s.heap s.heap [] := va_S.rf
  have hl := lv_entry ([.ref (q 0), .int x1, .ref qo]) (n := 4) (Nat.le_of_ble_eq_true rfl)
  rw [lg_entry_eq]
  generalize (lg_sl ([.ref (q 0), .int x1, .ref qo]) ++ List.replicate (4 - (lg_sl ([.ref (q 0), .int x1, .ref qo])).length) Slot.unset).toArray = ls at hl ⊢
  have hl : lv_has ls 4 [(0, .ref (q 0)), (1, .int x1), (2, .ref qo)] := hl
  refine lv_aload_n hx hb nd_L_contig_0 rfl (lv_at hl 2 rfl) ?_
  refine lv_iconst (v := 0) hx hb nd_L_contig_1 (by decide) ?_
  refine lv_aload_n hx hb nd_L_contig_2 rfl (lv_at hl 0 rfl) ?_
  refine lv_iload_n hx hb nd_L_contig_3 rfl (lv_at hl 1 rfl) ?_
  have hPc : va_P (dC, dI) vwCl (wd_C q cI cZ σ) s.heap := hP.sub [0, 1, 2, 3, 4, 5, 6, 7, 8, 9, 10, 11, 12, 13, 14, 15] rfl
  have hDc : va_D A (wd_C q cI cZ σ) := hD.sub [0, 1, 2, 3, 4, 5, 6, 7, 8, 9, 10, 11, 12, 13, 14, 15] (by decide) rfl
  have hKc : va_K (dC, dI) vwCl [(cI, .int), (cZ, .boolean)] s := hK.sub [0, 1] rfl
  have hFc := va_free (wc := (wd_C q cI cZ σ)) hD hS hA [0, 1, 2, 3, 4, 5, 6, 7, 8, 9, 10, 11, 12, 13, 14, 15] rfl
  rcases hk with ⟨rfl, rfl⟩ | ⟨rfl, rfl⟩ | ⟨rfl, rfl⟩
  · refine va_calli (va_runV (C := "MovedFrames") (As := [.int x1]) (rest := [.int 0, .ref qo]) ⟨hx, hb, hml, hown, hB⟩ (kw_F_contig l dC dI q cI cZ _ σ x1 v σ' hf) ⟨callB_of 1 hB (gi_ lk_570) rfl rfl rfl (hB _ lk_1) (hB _ lk_567) (by decide +kernel) ⟨(Nat.le_of_ble_eq_true rfl), (Nat.le_of_ble_eq_true rfl)⟩, hB _ lk_568, hB _ lk_569⟩ ⟨bl_, va_recv (ci := 5) (q0 := 0) hKc hPc rfl rfl, pre_ hPc hKc hDc hN⟩ rfl rfl hl.1 rfl (lv_room (Nat.le_of_ble_eq_true rfl)) nd_L_contig_4 ⟨Nat.zero_le _, Nat.zero_le _⟩) hS (fun q _ h => hFc q h) hFc (fun r9 u t H1 locs ht hvm hw hB1 hz1 hk1 hS => ?_)
    obtain ⟨hr9, hu⟩ := hw
    have hr9 := hr9.symm
    subst hr9
    obtain ⟨hP1, hK1, hD1⟩ := hB1
    rw [ht] at hP1
    rw [hu] at hP1 hD1
    obtain ⟨hP, hD⟩ := va_join (wc := (wd_C q cI cZ σ)) (wr := [wo_ qo cJ o]) (w1 := wd_C q cI cZ σ') hP hD [0, 1, 2, 3, 4, 5, 6, 7, 8, 9, 10, 11, 12, 13, 14, 15] [16] rfl rfl (by decide) (by decide) hk1 hFc hP1 hD1
    have hP : va_P (dC, dI) vwCl (wh_ q qo cI cZ cJ (σ', o)) H1 := hP.sub [1, 2, 3, 4, 5, 6, 7, 8, 9, 10, 11, 12, 13, 14, 15, 16, 0] rfl
    have hD : va_D A (wh_ q qo cI cZ cJ (σ', o)) := hD.sub [1, 2, 3, 4, 5, 6, 7, 8, 9, 10, 11, 12, 13, 14, 15, 16, 0] (by decide) rfl
    refine lv_i2l (v := v.toInt64) hx hb nd_L_contig_7 rfl ?_
    refine va_last hx hb hK hP hD hS 16 2 rfl rfl (by unfold vp_in; decide) nd_L_contig_8 (fun H locs hP hD hS => ?_)
    have hP : va_P (dC, dI) vwCl (wh_ q qo cI cZ cJ (σ', vp_updL o 0 v.toInt64)) H := hP
    have hD : va_D A (wh_ q qo cI cZ cJ (σ', vp_updL o 0 v.toInt64)) := hD
    refine lv_goto (tgt := 18) hx hb nd_L_contig_9 (by decide) ?_
    refine lv_iconst (v := 0) hx hb nd_L_contig_18 (by decide) ?_
    refine W.widen (k := 1) (n := 6) (Nat.le_of_ble_eq_true rfl) (Nat.le_of_ble_eq_true rfl) ?_
    exact re_i hx hb hr hlocks rfl rfl hP hK hD hS nd_L_contig_19
  · refine vx_calli (vx_runV (C := "MovedFrames") (As := [.int x1]) (rest := [.int 0, .ref qo]) ⟨hx, hb, hml, hown, hB⟩ (kt_F_contig l dC dI q cI cZ _ σ x1 v 1 σ' htr (by decide) hf) ⟨callB_of 1 hB (gi_ lk_570) rfl rfl rfl (hB _ lk_1) (hB _ lk_567) (by decide +kernel) ⟨(Nat.le_of_ble_eq_true rfl), (Nat.le_of_ble_eq_true rfl)⟩, hB _ lk_568, hB _ lk_569⟩ ⟨blx_, va_recv (ci := 5) (q0 := 0) hKc hPc rfl rfl, prex_ hPc hKc hDc hN hT hZ hS hA⟩ rfl rfl hl.1 rfl (lv_room (Nat.le_of_ble_eq_true rfl)) nd_L_contig_4 ⟨(Nat.le_of_ble_eq_true rfl), (Nat.le_of_ble_eq_true rfl)⟩) hS (fun q _ h => hFc q h) hFc (fun q _ h => hFc q h) (fun E ce q9 u t H1 locs ht hvm hpx hB1 hz1 hk1 hS hce hcv hcl => ?_) (fun r u t H1 locs1 ht hvm hp => hp.elim)
    obtain ⟨-, hu⟩ := hpx
    obtain ⟨hE, hP1, hK1, hD1⟩ := hB1
    subst hE
    rw [ht] at hP1
    rw [hu] at hP1 hD1
    obtain ⟨hP, hD⟩ := va_join (wc := (wd_C q cI cZ σ)) (wr := [wo_ qo cJ o]) (w1 := wd_C q cI cZ σ') hP hD [0, 1, 2, 3, 4, 5, 6, 7, 8, 9, 10, 11, 12, 13, 14, 15] [16] rfl rfl (by decide) (by decide) hk1 hFc hP1 hD1
    have hP : va_P (dC, dI) vwCl (wh_ q qo cI cZ cJ (σ', o)) H1 := hP.sub [1, 2, 3, 4, 5, 6, 7, 8, 9, 10, 11, 12, 13, 14, 15, 16, 0] rfl
    have hD : va_D A (wh_ q qo cI cZ cJ (σ', o)) := hD.sub [1, 2, 3, 4, 5, 6, 7, 8, 9, 10, 11, 12, 13, 14, 15, 16, 0] (by decide) rfl
    refine vx_catch (own := "MovedFramesLaw") (name := "java/lang/IllegalArgumentException") (E := "java/lang/IllegalArgumentException") hown [] ⟨0, 9, 12, 13⟩ [⟨0, 9, 15, 15⟩] (htab.trans rfl) (fun z hz => by cases hz) (by decide) (by decide) (hB _ lk_218) (va_Nw.use (nx_tab _ (by decide +kernel)) (hT.1 (Cond.castable "java/lang/IllegalArgumentException" "java/lang/IllegalArgumentException") (by decide +kernel))) hce hcv hcl ?_
    refine lv_astore_n (lv' := [(3, .ref q9), (0, .ref (q 0)), (1, .int x1), (2, .ref qo)]) hx hb nd_L_contig_12 rfl hl (by decide) rfl (fun ls hl => ?_)
    refine lv_iconst (v := 1) hx hb nd_L_contig_13 (by decide) ?_
    refine W.widen (k := 1) (n := 6) (Nat.le_of_ble_eq_true rfl) (Nat.le_of_ble_eq_true rfl) ?_
    exact re_i hx hb hr hlocks rfl rfl hP hK hD hS nd_L_contig_14
  · refine vx_calli (vx_runV (C := "MovedFrames") (As := [.int x1]) (rest := [.int 0, .ref qo]) ⟨hx, hb, hml, hown, hB⟩ (kt_F_contig l dC dI q cI cZ _ σ x1 v 3 σ' htr (by decide) hf) ⟨callB_of 1 hB (gi_ lk_570) rfl rfl rfl (hB _ lk_1) (hB _ lk_567) (by decide +kernel) ⟨(Nat.le_of_ble_eq_true rfl), (Nat.le_of_ble_eq_true rfl)⟩, hB _ lk_568, hB _ lk_569⟩ ⟨blx_, va_recv (ci := 5) (q0 := 0) hKc hPc rfl rfl, prex_ hPc hKc hDc hN hT hZ hS hA⟩ rfl rfl hl.1 rfl (lv_room (Nat.le_of_ble_eq_true rfl)) nd_L_contig_4 ⟨(Nat.le_of_ble_eq_true rfl), (Nat.le_of_ble_eq_true rfl)⟩) hS (fun q _ h => hFc q h) hFc (fun q _ h => hFc q h) (fun E ce q9 u t H1 locs ht hvm hpx hB1 hz1 hk1 hS hce hcv hcl => ?_) (fun r u t H1 locs1 ht hvm hp => hp.elim)
    obtain ⟨-, hu⟩ := hpx
    obtain ⟨hE, hP1, hK1, hD1⟩ := hB1
    subst hE
    rw [ht] at hP1
    rw [hu] at hP1 hD1
    obtain ⟨hP, hD⟩ := va_join (wc := (wd_C q cI cZ σ)) (wr := [wo_ qo cJ o]) (w1 := wd_C q cI cZ σ') hP hD [0, 1, 2, 3, 4, 5, 6, 7, 8, 9, 10, 11, 12, 13, 14, 15] [16] rfl rfl (by decide) (by decide) hk1 hFc hP1 hD1
    have hP : va_P (dC, dI) vwCl (wh_ q qo cI cZ cJ (σ', o)) H1 := hP.sub [1, 2, 3, 4, 5, 6, 7, 8, 9, 10, 11, 12, 13, 14, 15, 16, 0] rfl
    have hD : va_D A (wh_ q qo cI cZ cJ (σ', o)) := hD.sub [1, 2, 3, 4, 5, 6, 7, 8, 9, 10, 11, 12, 13, 14, 15, 16, 0] (by decide) rfl
    refine vx_catch (own := "MovedFramesLaw") (name := "java/lang/IllegalStateException") (E := "java/lang/IllegalStateException") hown [⟨0, 9, 12, 13⟩] ⟨0, 9, 15, 15⟩ [] (htab.trans rfl) (List.forall_mem_cons.mpr ⟨Or.inr ⟨by decide, "java/lang/IllegalArgumentException", hB _ lk_218, hC.1⟩, fun z hz => by cases hz⟩) (by decide) (by decide) (hB _ lk_219) (va_Nw.use (nx_tab _ (by decide +kernel)) (hT.1 (Cond.castable "java/lang/IllegalStateException" "java/lang/IllegalStateException") (by decide +kernel))) hce hcv hcl ?_
    refine lv_astore_n (lv' := [(3, .ref q9), (0, .ref (q 0)), (1, .int x1), (2, .ref qo)]) hx hb nd_L_contig_15 rfl hl (by decide) rfl (fun ls hl => ?_)
    refine lv_iconst (v := 2) hx hb nd_L_contig_16 (by decide) ?_
    refine W.widen (k := 1) (n := 6) (Nat.le_of_ble_eq_true rfl) (Nat.le_of_ble_eq_true rfl) ?_
    exact re_i hx hb hr hlocks rfl rfl hP hK hD hS nd_L_contig_17
def kc_L_release (n : Nat) (k : Int32) : Prop := (n = 0 ∧ k = 0) ∨ (n = 1 ∧ k = 1)
abbrev rh_L_release : Room := { frames := 8, cells := 1, slots := 6, locals := 131 }
set_option maxHeartbeats 4000000 in
set_option maxRecDepth 100000 in
theorem kh_L_release (l : Launch) (dC : Nat → ClassId) (dI : Nat → Nat → Nat) (q : Nat → Nat) (qo : Nat) (cI cZ cJ : ClassId) (sz : Nat) (σ : CS) (o : Nat → Int64) (x1 : Int32) (v : Int32) (n : Nat) (σ' : CS) (k : Int32) (htr : l.stackTraces = false) (hk : kc_L_release n k) (hf : mc_release σ x1 = some (v, n, σ')) : Met l ny_L_release nw_L_release rh_L_release (va_Pc [.ref (q 0), .int x1, .ref qo] (prh_ (dC, dI) (wh_ q qo cI cZ cJ) [(cI, .int), (cZ, .boolean), (cJ, .long)] sz (σ, o))) (qi_ (dC, dI) (wh_ q qo cI cZ cJ) [(cI, .int), (cZ, .boolean), (cJ, .long)] (va_A (wh_ q qo cI cZ cJ (σ, o)) sz) k (σ', (if n = 0 then vp_updL o 0 v.toInt64 else o))) 1 6 (va_A (wh_ q qo cI cZ cJ (σ, o)) sz) := by
  refine va_MetW (cc := nb_L_release) (maxL := 4) (ret := (some .int)) (hh := nh_L_release) (by decide) rfl ?_
  intro p e s m args below meth c s₁ B hml hv
  obtain ⟨rfl, ⟨⟨hsz, hP, hK, hD0, hN⟩, hT, hZ⟩, hC⟩ := hv
  have hx := B.exec
  have hb := B.bytes
  have hr := B.returns
  have hts := atoms_spec (ws := nw_L_release) B.pre
  have hB : ∀ w ∈ BG, w.before ([.ref (q 0), .int x1, .ref qo] : List Value).toArray s = true := fun w h => hts w (List.mem_cons_of_mem _ h)
  have hown : s.vm.findClass "MovedFramesLaw" = some m.cls := findClass_of_methodNamed B.named
  have hlocks := B.notSynchronized
  have htab : c.exceptionTable.toList = tableOf nh_L_release := vx_table (x := ny_L_release) B (hts _ List.mem_cons_self)
  subst hsz
  have hD := hD0.self (sz := s.heap.size)
  generalize hAe : va_A (wh_ q qo cI cZ cJ (σ, o)) s.heap.size = A at hD hZ ⊢
  have hA : ∀ q : Nat, s.heap.size ≤ q → A q := fun q h => by rw [← hAe]; exact Or.inr h
  have hS : va_S A s.heap s.heap [] := va_S.rf
  have hl := lv_entry ([.ref (q 0), .int x1, .ref qo]) (n := 4) (Nat.le_of_ble_eq_true rfl)
  rw [lg_entry_eq]
  generalize (lg_sl ([.ref (q 0), .int x1, .ref qo]) ++ List.replicate (4 - (lg_sl ([.ref (q 0), .int x1, .ref qo])).length) Slot.unset).toArray = ls at hl ⊢
  have hl : lv_has ls 4 [(0, .ref (q 0)), (1, .int x1), (2, .ref qo)] := hl
  refine lv_aload_n hx hb nd_L_release_0 rfl (lv_at hl 2 rfl) ?_
  refine lv_iconst (v := 0) hx hb nd_L_release_1 (by decide) ?_
  refine lv_aload_n hx hb nd_L_release_2 rfl (lv_at hl 0 rfl) ?_
  refine lv_iload_n hx hb nd_L_release_3 rfl (lv_at hl 1 rfl) ?_
  have hPc : va_P (dC, dI) vwCl (wd_C q cI cZ σ) s.heap := hP.sub [0, 1, 2, 3, 4, 5, 6, 7, 8, 9, 10, 11, 12, 13, 14, 15] rfl
  have hDc : va_D A (wd_C q cI cZ σ) := hD.sub [0, 1, 2, 3, 4, 5, 6, 7, 8, 9, 10, 11, 12, 13, 14, 15] (by decide) rfl
  have hKc : va_K (dC, dI) vwCl [(cI, .int), (cZ, .boolean)] s := hK.sub [0, 1] rfl
  have hFc := va_free (wc := (wd_C q cI cZ σ)) hD hS hA [0, 1, 2, 3, 4, 5, 6, 7, 8, 9, 10, 11, 12, 13, 14, 15] rfl
  rcases hk with ⟨rfl, rfl⟩ | ⟨rfl, rfl⟩
  · refine va_calli (va_runV (C := "MovedFrames") (As := [.int x1]) (rest := [.int 0, .ref qo]) ⟨hx, hb, hml, hown, hB⟩ (kw_F_release l dC dI q cI cZ _ σ x1 v σ' hf) ⟨callB_of 1 hB (gi_ lk_616) rfl rfl rfl (hB _ lk_1) (hB _ lk_613) (by decide +kernel) ⟨(Nat.le_of_ble_eq_true rfl), (Nat.le_of_ble_eq_true rfl)⟩, hB _ lk_614, hB _ lk_615⟩ ⟨bl_, va_recv (ci := 5) (q0 := 0) hKc hPc rfl rfl, pre_ hPc hKc hDc hN⟩ rfl rfl hl.1 rfl (lv_room (Nat.le_of_ble_eq_true rfl)) nd_L_release_4 ⟨Nat.zero_le _, Nat.zero_le _⟩) hS (fun q _ h => hFc q h) hFc (fun r9 u t H1 locs ht hvm hw hB1 hz1 hk1 hS => ?_)
    obtain ⟨hr9, hu⟩ := hw
    have hr9 := hr9.symm
    subst hr9
    obtain ⟨hP1, hK1, hD1⟩ := hB1
    rw [ht] at hP1
    rw [hu] at hP1 hD1
    obtain ⟨hP, hD⟩ := va_join (wc := (wd_C q cI cZ σ)) (wr := [wo_ qo cJ o]) (w1 := wd_C q cI cZ σ') hP hD [0, 1, 2, 3, 4, 5, 6, 7, 8, 9, 10, 11, 12, 13, 14, 15] [16] rfl rfl (by decide) (by decide) hk1 hFc hP1 hD1
    have hP : va_P (dC, dI) vwCl (wh_ q qo cI cZ cJ (σ', o)) H1 := hP.sub [1, 2, 3, 4, 5, 6, 7, 8, 9, 10, 11, 12, 13, 14, 15, 16, 0] rfl
    have hD : va_D A (wh_ q qo cI cZ cJ (σ', o)) := hD.sub [1, 2, 3, 4, 5, 6, 7, 8, 9, 10, 11, 12, 13, 14, 15, 16, 0] (by decide) rfl
    refine lv_i2l (v := v.toInt64) hx hb nd_L_release_7 rfl ?_
    refine va_last hx hb hK hP hD hS 16 2 rfl rfl (by unfold vp_in; decide) nd_L_release_8 (fun H locs hP hD hS => ?_)
    have hP : va_P (dC, dI) vwCl (wh_ q qo cI cZ cJ (σ', vp_updL o 0 v.toInt64)) H := hP
    have hD : va_D A (wh_ q qo cI cZ cJ (σ', vp_updL o 0 v.toInt64)) := hD
    refine lv_goto (tgt := 15) hx hb nd_L_release_9 (by decide) ?_
    refine lv_iconst (v := 0) hx hb nd_L_release_15 (by decide) ?_
    refine W.widen (k := 1) (n := 6) (Nat.le_of_ble_eq_true rfl) (Nat.le_of_ble_eq_true rfl) ?_
    exact re_i hx hb hr hlocks rfl rfl hP hK hD hS nd_L_release_16
  · refine vx_calli (vx_runV (C := "MovedFrames") (As := [.int x1]) (rest := [.int 0, .ref qo]) ⟨hx, hb, hml, hown, hB⟩ (kt_F_release l dC dI q cI cZ _ σ x1 v 1 σ' htr (by decide) hf) ⟨callB_of 1 hB (gi_ lk_616) rfl rfl rfl (hB _ lk_1) (hB _ lk_613) (by decide +kernel) ⟨(Nat.le_of_ble_eq_true rfl), (Nat.le_of_ble_eq_true rfl)⟩, hB _ lk_614, hB _ lk_615⟩ ⟨blx_, va_recv (ci := 5) (q0 := 0) hKc hPc rfl rfl, prex_ hPc hKc hDc hN hT hZ hS hA⟩ rfl rfl hl.1 rfl (lv_room (Nat.le_of_ble_eq_true rfl)) nd_L_release_4 ⟨(Nat.le_of_ble_eq_true rfl), (Nat.le_of_ble_eq_true rfl)⟩) hS (fun q _ h => hFc q h) hFc (fun q _ h => hFc q h) (fun E ce q9 u t H1 locs ht hvm hpx hB1 hz1 hk1 hS hce hcv hcl => ?_) (fun r u t H1 locs1 ht hvm hp => hp.elim)
    obtain ⟨-, hu⟩ := hpx
    obtain ⟨hE, hP1, hK1, hD1⟩ := hB1
    subst hE
    rw [ht] at hP1
    rw [hu] at hP1 hD1
    obtain ⟨hP, hD⟩ := va_join (wc := (wd_C q cI cZ σ)) (wr := [wo_ qo cJ o]) (w1 := wd_C q cI cZ σ') hP hD [0, 1, 2, 3, 4, 5, 6, 7, 8, 9, 10, 11, 12, 13, 14, 15] [16] rfl rfl (by decide) (by decide) hk1 hFc hP1 hD1
    have hP : va_P (dC, dI) vwCl (wh_ q qo cI cZ cJ (σ', o)) H1 := hP.sub [1, 2, 3, 4, 5, 6, 7, 8, 9, 10, 11, 12, 13, 14, 15, 16, 0] rfl
    have hD : va_D A (wh_ q qo cI cZ cJ (σ', o)) := hD.sub [1, 2, 3, 4, 5, 6, 7, 8, 9, 10, 11, 12, 13, 14, 15, 16, 0] (by decide) rfl
    refine vx_catch (own := "MovedFramesLaw") (name := "java/lang/IllegalArgumentException") (E := "java/lang/IllegalArgumentException") hown [] ⟨0, 9, 12, 13⟩ [] (htab.trans rfl) (fun z hz => by cases hz) (by decide) (by decide) (hB _ lk_218) (va_Nw.use (nx_tab _ (by decide +kernel)) (hT.1 (Cond.castable "java/lang/IllegalArgumentException" "java/lang/IllegalArgumentException") (by decide +kernel))) hce hcv hcl ?_
    refine lv_astore_n (lv' := [(3, .ref q9), (0, .ref (q 0)), (1, .int x1), (2, .ref qo)]) hx hb nd_L_release_12 rfl hl (by decide) rfl (fun ls hl => ?_)
    refine lv_iconst (v := 1) hx hb nd_L_release_13 (by decide) ?_
    refine W.widen (k := 1) (n := 6) (Nat.le_of_ble_eq_true rfl) (Nat.le_of_ble_eq_true rfl) ?_
    exact re_i hx hb hr hlocks rfl rfl hP hK hD hS nd_L_release_14
