def st_0 (Inv : CS → MS → Prop) (σ : CS) (τ : MS) (x1 x2 x3 : Int32) : Prop := ∃ (v : Int32) (n : Nat) (k : Int32) (σ1 : CS) (b1 : Int32) (τ1 : MS), mc_kmalloc σ x1 = some (v, n, σ1) ∧ kc_L_kmalloc n k ∧ mm_kmalloc τ x1 = some (b1, τ1) ∧ (gm_th τ1 = k) ∧ (k = 0 → v = b1) ∧ Inv σ1 τ1
def st_1 (Inv : CS → MS → Prop) (σ : CS) (τ : MS) (x1 x2 x3 : Int32) : Prop := ∃ (v : Int32) (n : Nat) (k : Int32) (σ1 : CS) (τ1 : MS), mc_kfree σ x1 = some (v, n, σ1) ∧ kc_L_kfree n k ∧ mm_kfree τ x1 = some τ1 ∧ (gm_th τ1 = k) ∧ (True) ∧ Inv σ1 τ1
def st_2 (Inv : CS → MS → Prop) (σ : CS) (τ : MS) (x1 x2 x3 : Int32) : Prop := ∃ (v : Int32) (n : Nat) (k : Int32) (σ1 : CS) (b1 : Int32) (τ1 : MS), mc_vmalloc σ x1 = some (v, n, σ1) ∧ kc_L_vmalloc n k ∧ mm_vmalloc τ x1 = some (b1, τ1) ∧ (gm_th τ1 = k) ∧ (k = 0 → v = b1) ∧ Inv σ1 τ1
def st_3 (Inv : CS → MS → Prop) (σ : CS) (τ : MS) (x1 x2 x3 : Int32) : Prop := ∃ (v : Int32) (n : Nat) (k : Int32) (σ1 : CS) (b1 : Int32) (τ1 : MS), mc_vfree σ x1 = some (v, n, σ1) ∧ kc_L_vfree n k ∧ mm_vfree τ x1 = some (b1, τ1) ∧ (gm_th τ1 = k) ∧ (k = 0 → v = b1) ∧ Inv σ1 τ1
def st_4 (Inv : CS → MS → Prop) (σ : CS) (τ : MS) (x1 x2 x3 : Int32) : Prop := ∃ (v : Int32) (n : Nat) (k : Int32) (σ1 : CS) (b1 : Int32) (τ1 : MS), mc_create σ = some (v, n, σ1) ∧ kc_L_create n k ∧ mm_create τ = some (b1, τ1) ∧ (gm_th τ1 = k) ∧ (k = 0 → v = b1) ∧ Inv σ1 τ1
def st_5 (Inv : CS → MS → Prop) (σ : CS) (τ : MS) (x1 x2 x3 : Int32) : Prop := ∃ (v : Int32) (n : Nat) (k : Int32) (σ1 : CS) (b1 : Int32) (τ1 : MS), mc_destroy σ x1 = some (v, n, σ1) ∧ kc_L_destroy n k ∧ mm_destroy τ x1 = some (b1, τ1) ∧ (gm_th τ1 = k) ∧ (k = 0 → v = b1) ∧ Inv σ1 τ1
def st_6 (Inv : CS → MS → Prop) (σ : CS) (τ : MS) (x1 x2 x3 : Int32) : Prop := ∃ (v : Int32) (n : Nat) (k : Int32) (σ1 : CS) (τ1 : MS), mc_mmap σ x1 x2 x3 = some (v, n, σ1) ∧ kc_L_mmap n k ∧ mm_mmap τ x1 x2 x3 = some τ1 ∧ (gm_th τ1 = k) ∧ (True) ∧ Inv σ1 τ1
def st_7 (Inv : CS → MS → Prop) (σ : CS) (τ : MS) (x1 x2 x3 : Int32) : Prop := ∃ (v : Int32) (n : Nat) (k : Int32) (σ1 : CS) (b1 : Int32) (τ1 : MS), mc_munmap σ x1 x2 x3 = some (v, n, σ1) ∧ kc_L_munmap n k ∧ mm_munmap τ x1 x2 x3 = some (b1, τ1) ∧ (gm_th τ1 = k) ∧ (k = 0 → v = b1) ∧ Inv σ1 τ1
def st_8 (Inv : CS → MS → Prop) (σ : CS) (τ : MS) (x1 x2 x3 : Int32) : Prop := ∃ (v : Int32) (n : Nat) (k : Int32) (σ1 : CS) (b1 : Int32) (τ1 : MS), mc_load σ x1 x2 = some (v, n, σ1) ∧ kc_L_load n k ∧ mm_load τ x1 x2 = some (b1, τ1) ∧ (gm_th τ1 = k) ∧ (k = 0 → v = b1) ∧ Inv σ1 τ1
def st_9 (Inv : CS → MS → Prop) (σ : CS) (τ : MS) (x1 x2 x3 : Int32) : Prop := ∃ (v : Int32) (n : Nat) (k : Int32) (σ1 : CS) (τ1 : MS), mc_store σ x1 x2 x3 = some (v, n, σ1) ∧ kc_L_store n k ∧ mm_store τ x1 x2 x3 = some τ1 ∧ (gm_th τ1 = k) ∧ (True) ∧ Inv σ1 τ1
def st_10 (Inv : CS → MS → Prop) (σ : CS) (τ : MS) (x1 x2 x3 : Int32) : Prop := ∃ (v : Int32) (n : Nat) (k : Int32) (σ1 : CS) (b1 : Int32) (τ1 : MS), mc_contig σ x1 = some (v, n, σ1) ∧ kc_L_contig n k ∧ mm_contig τ x1 = some (b1, τ1) ∧ (gm_th τ1 = k) ∧ (k = 0 → v = b1) ∧ Inv σ1 τ1
def st_11 (Inv : CS → MS → Prop) (σ : CS) (τ : MS) (x1 x2 x3 : Int32) : Prop := ∃ (v : Int32) (n : Nat) (k : Int32) (σ1 : CS) (b1 : Int32) (τ1 : MS), mc_release σ x1 = some (v, n, σ1) ∧ kc_L_release n k ∧ mm_release τ x1 = some (b1, τ1) ∧ (gm_th τ1 = k) ∧ (k = 0 → v = b1) ∧ Inv σ1 τ1
def st_12 (Inv : CS → MS → Prop) (σ : CS) (τ : MS) (x1 x2 x3 : Int32) : Prop := ∃ (v : Int32) (b1 : Int32) (τ1 : MS), mc_owner σ x1 = some v ∧ mm_owner τ x1 = some (b1, τ1) ∧ (v = b1) ∧ Inv σ τ1
def st_13 (Inv : CS → MS → Prop) (σ : CS) (τ : MS) (x1 x2 x3 : Int32) : Prop := ∃ (v : Int32) (b1 : Int32) (τ1 : MS), mc_frame σ x1 x2 = some v ∧ mm_frame τ x1 x2 = some (b1, τ1) ∧ (v = b1) ∧ Inv σ τ1
def st_14 (Inv : CS → MS → Prop) (σ : CS) (τ : MS) (x1 x2 x3 : Int32) : Prop := ∃ (v : Int32) (b1 : Int32) (τ1 : MS), mc_word σ x1 x2 = some v ∧ mm_word τ x1 x2 = some (b1, τ1) ∧ (v = b1) ∧ Inv σ τ1
def st_15 (Inv : CS → MS → Prop) (σ : CS) (τ : MS) (x1 x2 x3 : Int32) : Prop := ∃ (v : Int32) (b1 : Int32) (τ1 : MS), mc_blocks σ x1 = some v ∧ mm_blocks τ x1 = some (b1, τ1) ∧ (v = b1) ∧ Inv σ τ1
def st_16 (Inv : CS → MS → Prop) (σ : CS) (τ : MS) (x1 x2 x3 : Int32) : Prop := ∃ (v : Int32) (b1 : Int32) (τ1 : MS), mc_free σ = some v ∧ mm_free τ = some (b1, τ1) ∧ (v = b1) ∧ Inv σ τ1
def st_17 (Inv : CS → MS → Prop) (σ : CS) (τ : MS) (x1 x2 x3 : Int32) : Prop := ∃ (v : Int32) (b1 : Int32) (τ1 : MS), mc_moved σ = some v ∧ mm_moved τ = some (b1, τ1) ∧ (v = b1) ∧ Inv σ τ1
section LAW
variable {p : Program} {l : Launch} {e : Env} {s : State} {m : MethodId} {below : List Frame} {meth : Method} {c : Code} {Q : State → Prop} {A : Nat → Prop} {dC : Nat → ClassId} {dI : Nat → Nat → Nat} {q r : Nat → Nat} {qo b L j cells slots : Nat} {xs : Nat → Int32} {cI cZ cJ : ClassId} {σ : CS} {τ : MS} {o : Nat → Int64}
set_option maxHeartbeats 4000000 in
set_option maxRecDepth 100000 in
theorem la_0 {Inv : CS → MS → Prop} (hX : lx_ p l s m meth c b L xs (dC, dI) cI cZ cJ A) (hj : 4 * j + 4 ≤ L) (hL : L ≤ 2048) (hc : cells + 1 ≤ room_1.cells) (hs : slots + 6 ≤ room_1.slots) (hst : st_0 Inv σ τ (xs (nI (4 * j) + nI 1).toNatClampNeg) (xs (nI (4 * j) + nI 2).toNatClampNeg) (xs (nI (4 * j) + nI 3).toNatClampNeg))
    (kinc : ∀ (σ1 : CS) (o1 : Nat → Int64) (τ1 : MS), Inv σ1 τ1 → bw_ p l e s m below meth c Q A (dC, dI) q r qo cI cZ cJ b (cells + 1) (slots + 6) 958 [(0, .ref b), (1, .ref (q 0)), (2, .ref (r 0)), (3, .ref qo), (4, .int (nI (4 * j)))] [] (σ1, o1, τ1)) :
    bw_ p l e s m below meth c Q A (dC, dI) q r qo cI cZ cJ b cells slots 124 [(0, .ref b), (1, .ref (q 0)), (2, .ref (r 0)), (3, .ref qo), (4, .int (nI (4 * j)))] [] (σ, o, τ) := by
  obtain ⟨hx, hb, hr, hml, hown, hB, hXs, hbl, hbA, hlocks, hK, hN, hT, hZ, hC, hA, hAA, htr⟩ := hX
  have hKc : va_K (dC, dI) vwCl [(cI, .int), (cZ, .boolean)] s := hK.sub [0, 1] rfl
  obtain ⟨v, n, k, σ1, b1, τ1, h1, h2, h3, hth, hvb, hI⟩ := hst
  intro ls H locs hl hP hD hS
  have hn0 : k = 0 → n = 0 := fun hk0 => by
    rcases h2 with ⟨e0, _⟩ | ⟨_, e0⟩ | ⟨_, e0⟩
    · exact e0
    · exact absurd (hk0.symm.trans e0) (by decide)
    · exact absurd (hk0.symm.trans e0) (by decide)
  refine lv_aload_n hx hb nd_L_law_124 rfl (lv_at hl 1 rfl) ?_
  refine lv_aload_n hx hb nd_L_law_125 rfl (lv_at hl 0 rfl) ?_
  refine lv_iload hx hb nd_L_law_126 (lv_at hl 4 rfl) ?_
  refine lv_iconst (v := nI 1) hx hb nd_L_law_128 (by decide) ?_
  refine lv_iadd hx hb nd_L_law_129 ?_
  refine va_sld hx hb hXs hbl hbA hS (sc_in hj hL (by decide)) nd_L_law_130 ?_
  refine lv_aload_n hx hb nd_L_law_131 rfl (lv_at hl 3 rfl) ?_
  have hPh : va_P (dC, dI) vwCl (wh_ q qo cI cZ cJ (σ, o)) H := hP.sub [0, 1, 2, 3, 4, 5, 6, 7, 8, 9, 10, 11, 12, 13, 14, 15, 16] rfl
  have hDh : va_D A (wh_ q qo cI cZ cJ (σ, o)) := hD.sub [0, 1, 2, 3, 4, 5, 6, 7, 8, 9, 10, 11, 12, 13, 14, 15, 16] (by decide) rfl
  refine lc_h (vx_runSW (As := [.ref (q 0), .int (xs (nI (4 * j) + nI 1).toNatClampNeg), .ref qo]) (rest := []) ⟨hx, hb, hml, hown, hB⟩ (kh_L_kmalloc l dC dI q qo cI cZ cJ _ σ o (xs (nI (4 * j) + nI 1).toNatClampNeg) v n σ1 k htr h2 h1) (csw_ 3 hB (gi_ lk_217) rfl rfl rfl (hB _ lk_0) (hB _ lk_215) (hB _ lk_216) (by decide +kernel) ⟨(Nat.le_of_ble_eq_true rfl), (Nat.le_of_ble_eq_true rfl)⟩) ⟨blh_, preh_ hPh hK hDh hN hT hZ hC hS hA⟩ rfl rfl hl.1 rfl (lv_room (Nat.le_of_ble_eq_true rfl)) nd_L_law_132 ⟨hc, hs⟩) hP hD hS hA (fun H locs hP hD hS => ?_)
  generalize ho1 : (if n = 0 then vp_updL o 0 v.toInt64 else o) = o1 at hP hD
  refine lv_istore (lv' := [(5, .int k), (0, .ref b), (1, .ref (q 0)), (2, .ref (r 0)), (3, .ref qo), (4, .int (nI (4 * j)))]) hx hb nd_L_law_135 hl (by decide) rfl (fun ls hl => ?_)
  refine lv_aload_n hx hb nd_L_law_137 rfl (lv_at hl 3 rfl) ?_
  refine lv_aload_n hx hb nd_L_law_138 rfl (lv_at hl 1 rfl) ?_
  refine lv_iload hx hb nd_L_law_139 (lv_at hl 5 rfl) ?_
  refine lv_iconst (v := nI 1) hx hb nd_L_law_141 (by decide) ?_
  refine lv_iadd hx hb nd_L_law_142 ?_
  refine va_sld hx hb hXs hbl hbA hS (sc_in hj hL (by decide)) nd_L_law_143 ?_
  have hPm : va_P (dC, dI) vwCl (wd_M r cI cZ τ) H := hP.sub [17, 18, 19, 20, 21, 22, 23, 24, 25, 26] rfl
  have hDm : va_D A (wd_M r cI cZ τ) := hD.sub [17, 18, 19, 20, 21, 22, 23, 24, 25, 26] (by decide) rfl
  refine lc_m (va_runV (C := "MovedFramesModel") (As := [.int (xs (nI (4 * j) + nI 1).toNatClampNeg)]) (rest := []) ⟨hx, hb, hml, hown, hB⟩ (kw_M_kmalloc l dC dI r cI cZ _ τ (xs (nI (4 * j) + nI 1).toNatClampNeg) b1 τ1 h3) ⟨callB_of 1 hB (gi_ lk_670) rfl rfl rfl (hB _ lk_7) (hB _ lk_667) (by decide +kernel) ⟨(Nat.le_of_ble_eq_true rfl), (Nat.le_of_ble_eq_true rfl)⟩, hB _ lk_668, hB _ lk_669⟩ ⟨bl_, va_recv (ci := 6) (q0 := 0) hKc hPm rfl rfl, pre_ hPm hKc hDm hN⟩ rfl rfl hl.1 rfl (lv_room (Nat.le_of_ble_eq_true rfl)) nd_L_law_144 ⟨by omega, by omega⟩) hP hD hS hA (fun H locs hP hD hS => ?_)
  refine lv_istore (lv' := [(6, .int b1), (5, .int k), (0, .ref b), (1, .ref (q 0)), (2, .ref (r 0)), (3, .ref qo), (4, .int (nI (4 * j)))]) hx hb nd_L_law_147 hl (by decide) rfl (fun ls hl => ?_)
  refine lv_aload_n hx hb nd_L_law_149 rfl (lv_at hl 4 rfl) ?_
  have hPm : va_P (dC, dI) vwCl (wd_M r cI cZ τ1) H := hP.sub [17, 18, 19, 20, 21, 22, 23, 24, 25, 26] rfl
  have hDm : va_D A (wd_M r cI cZ τ1) := hD.sub [17, 18, 19, 20, 21, 22, 23, 24, 25, 26] (by decide) rfl
  refine lc_m (va_runV (C := "MovedFramesModel") (As := []) (rest := []) ⟨hx, hb, hml, hown, hB⟩ (kw_M_thrown l dC dI r cI cZ _ τ1 (gm_th τ1) rfl) ⟨callB_of 0 hB (gi_ lk_666) rfl rfl rfl (hB _ lk_7) (hB _ lk_663) (by decide +kernel) ⟨(Nat.le_of_ble_eq_true rfl), (Nat.le_of_ble_eq_true rfl)⟩, hB _ lk_664, hB _ lk_665⟩ ⟨bl_, va_recv (ci := 6) (q0 := 0) hKc hPm rfl rfl, pre_ hPm hKc hDm hN⟩ rfl rfl hl.1 rfl (lv_room (Nat.le_of_ble_eq_true rfl)) nd_L_law_150 ⟨by omega, by omega⟩) hP hD hS hA (fun H locs hP hD hS => ?_)
  refine lv_iload hx hb nd_L_law_153 (lv_at hl 1 rfl) ?_
  refine lv_icmp_eq (tgt := 160) hx hb nd_L_law_155 (by decide) (fun hc9 => ?_) (fun hc9 => absurd hth hc9)
  refine lv_iload hx hb nd_L_law_160 (lv_at hl 1 rfl) ?_
  refine lv_if_ne (tgt := 177) hx hb nd_L_law_162 (by decide) (fun hc9 => ?_) (fun hk0 => ?_)
  · refine lv_goto (tgt := 958) hx hb nd_L_law_177 (by decide) ?_
    refine W.widen (k := cells + 1) (n := slots + 6) (by omega) (by omega) ?_
    exact kinc _ _ _ hI _ _ _ (lv_sub hl [2, 3, 4, 5, 6] rfl) hP hD hS
  · refine lv_aload_n hx hb nd_L_law_165 rfl (lv_at hl 5 rfl) ?_
    refine lv_iconst (v := 0) hx hb nd_L_law_166 (by decide) ?_
    refine va_lald hx hb hK hP 16 2 rfl rfl (by unfold vp_in; decide) nd_L_law_167 ?_
    refine lv_iload hx hb nd_L_law_168 (lv_at hl 0 rfl) ?_
    refine lv_i2l (v := b1.toInt64) hx hb nd_L_law_170 rfl ?_
    refine W.lcmp hx hb nd_L_law_171 ?_
    have hob : o1 (0 : Int32).toNatClampNeg = b1.toInt64 := by rw [← ho1, if_pos (hn0 hk0), hvb hk0]; rfl
    refine lv_if_eq (tgt := 177) hx hb nd_L_law_172 (by decide) (fun hc9 => ?_) (fun hc9 => absurd ((lg_cmp_eq _ _).mpr hob) hc9)
    refine lv_goto (tgt := 958) hx hb nd_L_law_177 (by decide) ?_
    refine W.widen (k := cells + 1) (n := slots + 6) (by omega) (by omega) ?_
    exact kinc _ _ _ hI _ _ _ (lv_sub hl [2, 3, 4, 5, 6] rfl) hP hD hS
set_option maxHeartbeats 4000000 in
set_option maxRecDepth 100000 in
theorem la_1 {Inv : CS → MS → Prop} (hX : lx_ p l s m meth c b L xs (dC, dI) cI cZ cJ A) (hj : 4 * j + 4 ≤ L) (hL : L ≤ 2048) (hc : cells + 1 ≤ room_1.cells) (hs : slots + 6 ≤ room_1.slots) (hst : st_1 Inv σ τ (xs (nI (4 * j) + nI 1).toNatClampNeg) (xs (nI (4 * j) + nI 2).toNatClampNeg) (xs (nI (4 * j) + nI 3).toNatClampNeg))
    (kinc : ∀ (σ1 : CS) (o1 : Nat → Int64) (τ1 : MS), Inv σ1 τ1 → bw_ p l e s m below meth c Q A (dC, dI) q r qo cI cZ cJ b (cells + 1) (slots + 6) 958 [(0, .ref b), (1, .ref (q 0)), (2, .ref (r 0)), (3, .ref qo), (4, .int (nI (4 * j)))] [] (σ1, o1, τ1)) :
    bw_ p l e s m below meth c Q A (dC, dI) q r qo cI cZ cJ b cells slots 180 [(0, .ref b), (1, .ref (q 0)), (2, .ref (r 0)), (3, .ref qo), (4, .int (nI (4 * j)))] [] (σ, o, τ) := by
  obtain ⟨hx, hb, hr, hml, hown, hB, hXs, hbl, hbA, hlocks, hK, hN, hT, hZ, hC, hA, hAA, htr⟩ := hX
  have hKc : va_K (dC, dI) vwCl [(cI, .int), (cZ, .boolean)] s := hK.sub [0, 1] rfl
  obtain ⟨v, n, k, σ1, τ1, h1, h2, h3, hth, hvb, hI⟩ := hst
  intro ls H locs hl hP hD hS
  refine lv_aload_n hx hb nd_L_law_180 rfl (lv_at hl 1 rfl) ?_
  refine lv_aload_n hx hb nd_L_law_181 rfl (lv_at hl 0 rfl) ?_
  refine lv_iload hx hb nd_L_law_182 (lv_at hl 4 rfl) ?_
  refine lv_iconst (v := nI 1) hx hb nd_L_law_184 (by decide) ?_
  refine lv_iadd hx hb nd_L_law_185 ?_
  refine va_sld hx hb hXs hbl hbA hS (sc_in hj hL (by decide)) nd_L_law_186 ?_
  have hPh : va_P (dC, dI) vwCl (wh_ q qo cI cZ cJ (σ, o)) H := hP.sub [0, 1, 2, 3, 4, 5, 6, 7, 8, 9, 10, 11, 12, 13, 14, 15, 16] rfl
  have hDh : va_D A (wh_ q qo cI cZ cJ (σ, o)) := hD.sub [0, 1, 2, 3, 4, 5, 6, 7, 8, 9, 10, 11, 12, 13, 14, 15, 16] (by decide) rfl
  refine lc_h (vx_runSW (As := [.ref (q 0), .int (xs (nI (4 * j) + nI 1).toNatClampNeg)]) (rest := []) ⟨hx, hb, hml, hown, hB⟩ (kh_L_kfree l dC dI q qo cI cZ cJ _ σ o (xs (nI (4 * j) + nI 1).toNatClampNeg) v n σ1 k htr h2 h1) (csw_ 2 hB (gi_ lk_360) rfl rfl rfl (hB _ lk_0) (hB _ lk_358) (hB _ lk_359) (by decide +kernel) ⟨(Nat.le_of_ble_eq_true rfl), (Nat.le_of_ble_eq_true rfl)⟩) ⟨blh_, preh_ hPh hK hDh hN hT hZ hC hS hA⟩ rfl rfl hl.1 rfl (lv_room (Nat.le_of_ble_eq_true rfl)) nd_L_law_187 ⟨hc, hs⟩) hP hD hS hA (fun H locs hP hD hS => ?_)
  refine lv_istore (lv' := [(5, .int k), (0, .ref b), (1, .ref (q 0)), (2, .ref (r 0)), (3, .ref qo), (4, .int (nI (4 * j)))]) hx hb nd_L_law_190 hl (by decide) rfl (fun ls hl => ?_)
  refine lv_aload_n hx hb nd_L_law_192 rfl (lv_at hl 3 rfl) ?_
  refine lv_aload_n hx hb nd_L_law_193 rfl (lv_at hl 1 rfl) ?_
  refine lv_iload hx hb nd_L_law_194 (lv_at hl 5 rfl) ?_
  refine lv_iconst (v := nI 1) hx hb nd_L_law_196 (by decide) ?_
  refine lv_iadd hx hb nd_L_law_197 ?_
  refine va_sld hx hb hXs hbl hbA hS (sc_in hj hL (by decide)) nd_L_law_198 ?_
  have hPm : va_P (dC, dI) vwCl (wd_M r cI cZ τ) H := hP.sub [17, 18, 19, 20, 21, 22, 23, 24, 25, 26] rfl
  have hDm : va_D A (wd_M r cI cZ τ) := hD.sub [17, 18, 19, 20, 21, 22, 23, 24, 25, 26] (by decide) rfl
  refine lc_mv (va_runV (C := "MovedFramesModel") (As := [.int (xs (nI (4 * j) + nI 1).toNatClampNeg)]) (rest := []) ⟨hx, hb, hml, hown, hB⟩ (kw_M_kfree l dC dI r cI cZ _ τ (xs (nI (4 * j) + nI 1).toNatClampNeg) τ1 h3) ⟨callB_of 1 hB (gi_ lk_705) rfl rfl rfl (hB _ lk_7) (hB _ lk_702) (by decide +kernel) ⟨(Nat.le_of_ble_eq_true rfl), (Nat.le_of_ble_eq_true rfl)⟩, hB _ lk_703, hB _ lk_704⟩ ⟨bl_, va_recv (ci := 6) (q0 := 0) hKc hPm rfl rfl, pre_ hPm hKc hDm hN⟩ rfl rfl hl.1 rfl (lv_room (Nat.le_of_ble_eq_true rfl)) nd_L_law_199 ⟨by omega, by omega⟩) hP hD hS hA (fun H locs hP hD hS => ?_)
  refine lv_aload_n hx hb nd_L_law_202 rfl (lv_at hl 3 rfl) ?_
  have hPm : va_P (dC, dI) vwCl (wd_M r cI cZ τ1) H := hP.sub [17, 18, 19, 20, 21, 22, 23, 24, 25, 26] rfl
  have hDm : va_D A (wd_M r cI cZ τ1) := hD.sub [17, 18, 19, 20, 21, 22, 23, 24, 25, 26] (by decide) rfl
  refine lc_m (va_runV (C := "MovedFramesModel") (As := []) (rest := []) ⟨hx, hb, hml, hown, hB⟩ (kw_M_thrown l dC dI r cI cZ _ τ1 (gm_th τ1) rfl) ⟨callB_of 0 hB (gi_ lk_666) rfl rfl rfl (hB _ lk_7) (hB _ lk_663) (by decide +kernel) ⟨(Nat.le_of_ble_eq_true rfl), (Nat.le_of_ble_eq_true rfl)⟩, hB _ lk_664, hB _ lk_665⟩ ⟨bl_, va_recv (ci := 6) (q0 := 0) hKc hPm rfl rfl, pre_ hPm hKc hDm hN⟩ rfl rfl hl.1 rfl (lv_room (Nat.le_of_ble_eq_true rfl)) nd_L_law_203 ⟨by omega, by omega⟩) hP hD hS hA (fun H locs hP hD hS => ?_)
  refine lv_iload hx hb nd_L_law_206 (lv_at hl 0 rfl) ?_
  refine lv_icmp_eq (tgt := 213) hx hb nd_L_law_208 (by decide) (fun hc9 => ?_) (fun hc9 => absurd hth hc9)
  refine lv_goto (tgt := 958) hx hb nd_L_law_213 (by decide) ?_
  refine W.widen (k := cells + 1) (n := slots + 6) (by omega) (by omega) ?_
  exact kinc _ _ _ hI _ _ _ (lv_sub hl [1, 2, 3, 4, 5] rfl) hP hD hS
set_option maxHeartbeats 4000000 in
set_option maxRecDepth 100000 in
theorem la_2 {Inv : CS → MS → Prop} (hX : lx_ p l s m meth c b L xs (dC, dI) cI cZ cJ A) (hj : 4 * j + 4 ≤ L) (hL : L ≤ 2048) (hc : cells + 1 ≤ room_1.cells) (hs : slots + 6 ≤ room_1.slots) (hst : st_2 Inv σ τ (xs (nI (4 * j) + nI 1).toNatClampNeg) (xs (nI (4 * j) + nI 2).toNatClampNeg) (xs (nI (4 * j) + nI 3).toNatClampNeg))
    (kinc : ∀ (σ1 : CS) (o1 : Nat → Int64) (τ1 : MS), Inv σ1 τ1 → bw_ p l e s m below meth c Q A (dC, dI) q r qo cI cZ cJ b (cells + 1) (slots + 6) 958 [(0, .ref b), (1, .ref (q 0)), (2, .ref (r 0)), (3, .ref qo), (4, .int (nI (4 * j)))] [] (σ1, o1, τ1)) :
    bw_ p l e s m below meth c Q A (dC, dI) q r qo cI cZ cJ b cells slots 216 [(0, .ref b), (1, .ref (q 0)), (2, .ref (r 0)), (3, .ref qo), (4, .int (nI (4 * j)))] [] (σ, o, τ) := by
  obtain ⟨hx, hb, hr, hml, hown, hB, hXs, hbl, hbA, hlocks, hK, hN, hT, hZ, hC, hA, hAA, htr⟩ := hX
  have hKc : va_K (dC, dI) vwCl [(cI, .int), (cZ, .boolean)] s := hK.sub [0, 1] rfl
  obtain ⟨v, n, k, σ1, b1, τ1, h1, h2, h3, hth, hvb, hI⟩ := hst
  intro ls H locs hl hP hD hS
  have hn0 : k = 0 → n = 0 := fun hk0 => by
    rcases h2 with ⟨e0, _⟩ | ⟨_, e0⟩ | ⟨_, e0⟩
    · exact e0
    · exact absurd (hk0.symm.trans e0) (by decide)
    · exact absurd (hk0.symm.trans e0) (by decide)
  refine lv_aload_n hx hb nd_L_law_216 rfl (lv_at hl 1 rfl) ?_
  refine lv_aload_n hx hb nd_L_law_217 rfl (lv_at hl 0 rfl) ?_
  refine lv_iload hx hb nd_L_law_218 (lv_at hl 4 rfl) ?_
  refine lv_iconst (v := nI 1) hx hb nd_L_law_220 (by decide) ?_
  refine lv_iadd hx hb nd_L_law_221 ?_
  refine va_sld hx hb hXs hbl hbA hS (sc_in hj hL (by decide)) nd_L_law_222 ?_
  refine lv_aload_n hx hb nd_L_law_223 rfl (lv_at hl 3 rfl) ?_
  have hPh : va_P (dC, dI) vwCl (wh_ q qo cI cZ cJ (σ, o)) H := hP.sub [0, 1, 2, 3, 4, 5, 6, 7, 8, 9, 10, 11, 12, 13, 14, 15, 16] rfl
  have hDh : va_D A (wh_ q qo cI cZ cJ (σ, o)) := hD.sub [0, 1, 2, 3, 4, 5, 6, 7, 8, 9, 10, 11, 12, 13, 14, 15, 16] (by decide) rfl
  refine lc_h (vx_runSW (As := [.ref (q 0), .int (xs (nI (4 * j) + nI 1).toNatClampNeg), .ref qo]) (rest := []) ⟨hx, hb, hml, hown, hB⟩ (kh_L_vmalloc l dC dI q qo cI cZ cJ _ σ o (xs (nI (4 * j) + nI 1).toNatClampNeg) v n σ1 k htr h2 h1) (csw_ 3 hB (gi_ lk_379) rfl rfl rfl (hB _ lk_0) (hB _ lk_377) (hB _ lk_378) (by decide +kernel) ⟨(Nat.le_of_ble_eq_true rfl), (Nat.le_of_ble_eq_true rfl)⟩) ⟨blh_, preh_ hPh hK hDh hN hT hZ hC hS hA⟩ rfl rfl hl.1 rfl (lv_room (Nat.le_of_ble_eq_true rfl)) nd_L_law_224 ⟨hc, hs⟩) hP hD hS hA (fun H locs hP hD hS => ?_)
  generalize ho1 : (if n = 0 then vp_updL o 0 v.toInt64 else o) = o1 at hP hD
  refine lv_istore (lv' := [(5, .int k), (0, .ref b), (1, .ref (q 0)), (2, .ref (r 0)), (3, .ref qo), (4, .int (nI (4 * j)))]) hx hb nd_L_law_227 hl (by decide) rfl (fun ls hl => ?_)
  refine lv_aload_n hx hb nd_L_law_229 rfl (lv_at hl 3 rfl) ?_
  refine lv_aload_n hx hb nd_L_law_230 rfl (lv_at hl 1 rfl) ?_
  refine lv_iload hx hb nd_L_law_231 (lv_at hl 5 rfl) ?_
  refine lv_iconst (v := nI 1) hx hb nd_L_law_233 (by decide) ?_
  refine lv_iadd hx hb nd_L_law_234 ?_
  refine va_sld hx hb hXs hbl hbA hS (sc_in hj hL (by decide)) nd_L_law_235 ?_
  have hPm : va_P (dC, dI) vwCl (wd_M r cI cZ τ) H := hP.sub [17, 18, 19, 20, 21, 22, 23, 24, 25, 26] rfl
  have hDm : va_D A (wd_M r cI cZ τ) := hD.sub [17, 18, 19, 20, 21, 22, 23, 24, 25, 26] (by decide) rfl
  refine lc_m (va_runV (C := "MovedFramesModel") (As := [.int (xs (nI (4 * j) + nI 1).toNatClampNeg)]) (rest := []) ⟨hx, hb, hml, hown, hB⟩ (kw_M_vmalloc l dC dI r cI cZ _ τ (xs (nI (4 * j) + nI 1).toNatClampNeg) b1 τ1 h3) ⟨callB_of 1 hB (gi_ lk_713) rfl rfl rfl (hB _ lk_7) (hB _ lk_710) (by decide +kernel) ⟨(Nat.le_of_ble_eq_true rfl), (Nat.le_of_ble_eq_true rfl)⟩, hB _ lk_711, hB _ lk_712⟩ ⟨bl_, va_recv (ci := 6) (q0 := 0) hKc hPm rfl rfl, pre_ hPm hKc hDm hN⟩ rfl rfl hl.1 rfl (lv_room (Nat.le_of_ble_eq_true rfl)) nd_L_law_236 ⟨by omega, by omega⟩) hP hD hS hA (fun H locs hP hD hS => ?_)
  refine lv_istore (lv' := [(6, .int b1), (5, .int k), (0, .ref b), (1, .ref (q 0)), (2, .ref (r 0)), (3, .ref qo), (4, .int (nI (4 * j)))]) hx hb nd_L_law_239 hl (by decide) rfl (fun ls hl => ?_)
  refine lv_aload_n hx hb nd_L_law_241 rfl (lv_at hl 4 rfl) ?_
  have hPm : va_P (dC, dI) vwCl (wd_M r cI cZ τ1) H := hP.sub [17, 18, 19, 20, 21, 22, 23, 24, 25, 26] rfl
  have hDm : va_D A (wd_M r cI cZ τ1) := hD.sub [17, 18, 19, 20, 21, 22, 23, 24, 25, 26] (by decide) rfl
  refine lc_m (va_runV (C := "MovedFramesModel") (As := []) (rest := []) ⟨hx, hb, hml, hown, hB⟩ (kw_M_thrown l dC dI r cI cZ _ τ1 (gm_th τ1) rfl) ⟨callB_of 0 hB (gi_ lk_666) rfl rfl rfl (hB _ lk_7) (hB _ lk_663) (by decide +kernel) ⟨(Nat.le_of_ble_eq_true rfl), (Nat.le_of_ble_eq_true rfl)⟩, hB _ lk_664, hB _ lk_665⟩ ⟨bl_, va_recv (ci := 6) (q0 := 0) hKc hPm rfl rfl, pre_ hPm hKc hDm hN⟩ rfl rfl hl.1 rfl (lv_room (Nat.le_of_ble_eq_true rfl)) nd_L_law_242 ⟨by omega, by omega⟩) hP hD hS hA (fun H locs hP hD hS => ?_)
  refine lv_iload hx hb nd_L_law_245 (lv_at hl 1 rfl) ?_
  refine lv_icmp_eq (tgt := 252) hx hb nd_L_law_247 (by decide) (fun hc9 => ?_) (fun hc9 => absurd hth hc9)
  refine lv_iload hx hb nd_L_law_252 (lv_at hl 1 rfl) ?_
  refine lv_if_ne (tgt := 269) hx hb nd_L_law_254 (by decide) (fun hc9 => ?_) (fun hk0 => ?_)
  · refine lv_goto (tgt := 958) hx hb nd_L_law_269 (by decide) ?_
    refine W.widen (k := cells + 1) (n := slots + 6) (by omega) (by omega) ?_
    exact kinc _ _ _ hI _ _ _ (lv_sub hl [2, 3, 4, 5, 6] rfl) hP hD hS
  · refine lv_aload_n hx hb nd_L_law_257 rfl (lv_at hl 5 rfl) ?_
    refine lv_iconst (v := 0) hx hb nd_L_law_258 (by decide) ?_
    refine va_lald hx hb hK hP 16 2 rfl rfl (by unfold vp_in; decide) nd_L_law_259 ?_
    refine lv_iload hx hb nd_L_law_260 (lv_at hl 0 rfl) ?_
    refine lv_i2l (v := b1.toInt64) hx hb nd_L_law_262 rfl ?_
    refine W.lcmp hx hb nd_L_law_263 ?_
    have hob : o1 (0 : Int32).toNatClampNeg = b1.toInt64 := by rw [← ho1, if_pos (hn0 hk0), hvb hk0]; rfl
    refine lv_if_eq (tgt := 269) hx hb nd_L_law_264 (by decide) (fun hc9 => ?_) (fun hc9 => absurd ((lg_cmp_eq _ _).mpr hob) hc9)
    refine lv_goto (tgt := 958) hx hb nd_L_law_269 (by decide) ?_
    refine W.widen (k := cells + 1) (n := slots + 6) (by omega) (by omega) ?_
    exact kinc _ _ _ hI _ _ _ (lv_sub hl [2, 3, 4, 5, 6] rfl) hP hD hS
set_option maxHeartbeats 4000000 in
set_option maxRecDepth 100000 in
theorem la_3 {Inv : CS → MS → Prop} (hX : lx_ p l s m meth c b L xs (dC, dI) cI cZ cJ A) (hj : 4 * j + 4 ≤ L) (hL : L ≤ 2048) (hc : cells + 1 ≤ room_1.cells) (hs : slots + 6 ≤ room_1.slots) (hst : st_3 Inv σ τ (xs (nI (4 * j) + nI 1).toNatClampNeg) (xs (nI (4 * j) + nI 2).toNatClampNeg) (xs (nI (4 * j) + nI 3).toNatClampNeg))
    (kinc : ∀ (σ1 : CS) (o1 : Nat → Int64) (τ1 : MS), Inv σ1 τ1 → bw_ p l e s m below meth c Q A (dC, dI) q r qo cI cZ cJ b (cells + 1) (slots + 6) 958 [(0, .ref b), (1, .ref (q 0)), (2, .ref (r 0)), (3, .ref qo), (4, .int (nI (4 * j)))] [] (σ1, o1, τ1)) :
    bw_ p l e s m below meth c Q A (dC, dI) q r qo cI cZ cJ b cells slots 272 [(0, .ref b), (1, .ref (q 0)), (2, .ref (r 0)), (3, .ref qo), (4, .int (nI (4 * j)))] [] (σ, o, τ) := by
  obtain ⟨hx, hb, hr, hml, hown, hB, hXs, hbl, hbA, hlocks, hK, hN, hT, hZ, hC, hA, hAA, htr⟩ := hX
  have hKc : va_K (dC, dI) vwCl [(cI, .int), (cZ, .boolean)] s := hK.sub [0, 1] rfl
  obtain ⟨v, n, k, σ1, b1, τ1, h1, h2, h3, hth, hvb, hI⟩ := hst
  intro ls H locs hl hP hD hS
  have hn0 : k = 0 → n = 0 := fun hk0 => by
    rcases h2 with ⟨e0, _⟩ | ⟨_, e0⟩
    · exact e0
    · exact absurd (hk0.symm.trans e0) (by decide)
  refine lv_aload_n hx hb nd_L_law_272 rfl (lv_at hl 1 rfl) ?_
  refine lv_aload_n hx hb nd_L_law_273 rfl (lv_at hl 0 rfl) ?_
  refine lv_iload hx hb nd_L_law_274 (lv_at hl 4 rfl) ?_
  refine lv_iconst (v := nI 1) hx hb nd_L_law_276 (by decide) ?_
  refine lv_iadd hx hb nd_L_law_277 ?_
  refine va_sld hx hb hXs hbl hbA hS (sc_in hj hL (by decide)) nd_L_law_278 ?_
  refine lv_aload_n hx hb nd_L_law_279 rfl (lv_at hl 3 rfl) ?_
  have hPh : va_P (dC, dI) vwCl (wh_ q qo cI cZ cJ (σ, o)) H := hP.sub [0, 1, 2, 3, 4, 5, 6, 7, 8, 9, 10, 11, 12, 13, 14, 15, 16] rfl
  have hDh : va_D A (wh_ q qo cI cZ cJ (σ, o)) := hD.sub [0, 1, 2, 3, 4, 5, 6, 7, 8, 9, 10, 11, 12, 13, 14, 15, 16] (by decide) rfl
  refine lc_h (vx_runSW (As := [.ref (q 0), .int (xs (nI (4 * j) + nI 1).toNatClampNeg), .ref qo]) (rest := []) ⟨hx, hb, hml, hown, hB⟩ (kh_L_vfree l dC dI q qo cI cZ cJ _ σ o (xs (nI (4 * j) + nI 1).toNatClampNeg) v n σ1 k htr h2 h1) (csw_ 3 hB (gi_ lk_397) rfl rfl rfl (hB _ lk_0) (hB _ lk_395) (hB _ lk_396) (by decide +kernel) ⟨(Nat.le_of_ble_eq_true rfl), (Nat.le_of_ble_eq_true rfl)⟩) ⟨blh_, preh_ hPh hK hDh hN hT hZ hC hS hA⟩ rfl rfl hl.1 rfl (lv_room (Nat.le_of_ble_eq_true rfl)) nd_L_law_280 ⟨hc, hs⟩) hP hD hS hA (fun H locs hP hD hS => ?_)
  generalize ho1 : (if n = 0 then vp_updL o 0 v.toInt64 else o) = o1 at hP hD
  refine lv_istore (lv' := [(5, .int k), (0, .ref b), (1, .ref (q 0)), (2, .ref (r 0)), (3, .ref qo), (4, .int (nI (4 * j)))]) hx hb nd_L_law_283 hl (by decide) rfl (fun ls hl => ?_)
  refine lv_aload_n hx hb nd_L_law_285 rfl (lv_at hl 3 rfl) ?_
  refine lv_aload_n hx hb nd_L_law_286 rfl (lv_at hl 1 rfl) ?_
  refine lv_iload hx hb nd_L_law_287 (lv_at hl 5 rfl) ?_
  refine lv_iconst (v := nI 1) hx hb nd_L_law_289 (by decide) ?_
  refine lv_iadd hx hb nd_L_law_290 ?_
  refine va_sld hx hb hXs hbl hbA hS (sc_in hj hL (by decide)) nd_L_law_291 ?_
  have hPm : va_P (dC, dI) vwCl (wd_M r cI cZ τ) H := hP.sub [17, 18, 19, 20, 21, 22, 23, 24, 25, 26] rfl
  have hDm : va_D A (wd_M r cI cZ τ) := hD.sub [17, 18, 19, 20, 21, 22, 23, 24, 25, 26] (by decide) rfl
  refine lc_m (va_runV (C := "MovedFramesModel") (As := [.int (xs (nI (4 * j) + nI 1).toNatClampNeg)]) (rest := []) ⟨hx, hb, hml, hown, hB⟩ (kw_M_vfree l dC dI r cI cZ _ τ (xs (nI (4 * j) + nI 1).toNatClampNeg) b1 τ1 h3) ⟨callB_of 1 hB (gi_ lk_721) rfl rfl rfl (hB _ lk_7) (hB _ lk_718) (by decide +kernel) ⟨(Nat.le_of_ble_eq_true rfl), (Nat.le_of_ble_eq_true rfl)⟩, hB _ lk_719, hB _ lk_720⟩ ⟨bl_, va_recv (ci := 6) (q0 := 0) hKc hPm rfl rfl, pre_ hPm hKc hDm hN⟩ rfl rfl hl.1 rfl (lv_room (Nat.le_of_ble_eq_true rfl)) nd_L_law_292 ⟨by omega, by omega⟩) hP hD hS hA (fun H locs hP hD hS => ?_)
  refine lv_istore (lv' := [(6, .int b1), (5, .int k), (0, .ref b), (1, .ref (q 0)), (2, .ref (r 0)), (3, .ref qo), (4, .int (nI (4 * j)))]) hx hb nd_L_law_295 hl (by decide) rfl (fun ls hl => ?_)
  refine lv_aload_n hx hb nd_L_law_297 rfl (lv_at hl 4 rfl) ?_
  have hPm : va_P (dC, dI) vwCl (wd_M r cI cZ τ1) H := hP.sub [17, 18, 19, 20, 21, 22, 23, 24, 25, 26] rfl
  have hDm : va_D A (wd_M r cI cZ τ1) := hD.sub [17, 18, 19, 20, 21, 22, 23, 24, 25, 26] (by decide) rfl
  refine lc_m (va_runV (C := "MovedFramesModel") (As := []) (rest := []) ⟨hx, hb, hml, hown, hB⟩ (kw_M_thrown l dC dI r cI cZ _ τ1 (gm_th τ1) rfl) ⟨callB_of 0 hB (gi_ lk_666) rfl rfl rfl (hB _ lk_7) (hB _ lk_663) (by decide +kernel) ⟨(Nat.le_of_ble_eq_true rfl), (Nat.le_of_ble_eq_true rfl)⟩, hB _ lk_664, hB _ lk_665⟩ ⟨bl_, va_recv (ci := 6) (q0 := 0) hKc hPm rfl rfl, pre_ hPm hKc hDm hN⟩ rfl rfl hl.1 rfl (lv_room (Nat.le_of_ble_eq_true rfl)) nd_L_law_298 ⟨by omega, by omega⟩) hP hD hS hA (fun H locs hP hD hS => ?_)
  refine lv_iload hx hb nd_L_law_301 (lv_at hl 1 rfl) ?_
  refine lv_icmp_eq (tgt := 308) hx hb nd_L_law_303 (by decide) (fun hc9 => ?_) (fun hc9 => absurd hth hc9)
  refine lv_iload hx hb nd_L_law_308 (lv_at hl 1 rfl) ?_
  refine lv_if_ne (tgt := 325) hx hb nd_L_law_310 (by decide) (fun hc9 => ?_) (fun hk0 => ?_)
  · refine lv_goto (tgt := 958) hx hb nd_L_law_325 (by decide) ?_
    refine W.widen (k := cells + 1) (n := slots + 6) (by omega) (by omega) ?_
    exact kinc _ _ _ hI _ _ _ (lv_sub hl [2, 3, 4, 5, 6] rfl) hP hD hS
  · refine lv_aload_n hx hb nd_L_law_313 rfl (lv_at hl 5 rfl) ?_
    refine lv_iconst (v := 0) hx hb nd_L_law_314 (by decide) ?_
    refine va_lald hx hb hK hP 16 2 rfl rfl (by unfold vp_in; decide) nd_L_law_315 ?_
    refine lv_iload hx hb nd_L_law_316 (lv_at hl 0 rfl) ?_
    refine lv_i2l (v := b1.toInt64) hx hb nd_L_law_318 rfl ?_
    refine W.lcmp hx hb nd_L_law_319 ?_
    have hob : o1 (0 : Int32).toNatClampNeg = b1.toInt64 := by rw [← ho1, if_pos (hn0 hk0), hvb hk0]; rfl
    refine lv_if_eq (tgt := 325) hx hb nd_L_law_320 (by decide) (fun hc9 => ?_) (fun hc9 => absurd ((lg_cmp_eq _ _).mpr hob) hc9)
    refine lv_goto (tgt := 958) hx hb nd_L_law_325 (by decide) ?_
    refine W.widen (k := cells + 1) (n := slots + 6) (by omega) (by omega) ?_
    exact kinc _ _ _ hI _ _ _ (lv_sub hl [2, 3, 4, 5, 6] rfl) hP hD hS
set_option maxHeartbeats 4000000 in
set_option maxRecDepth 100000 in
theorem la_4 {Inv : CS → MS → Prop} (hX : lx_ p l s m meth c b L xs (dC, dI) cI cZ cJ A) (hj : 4 * j + 4 ≤ L) (hL : L ≤ 2048) (hc : cells + 1 ≤ room_1.cells) (hs : slots + 6 ≤ room_1.slots) (hst : st_4 Inv σ τ (xs (nI (4 * j) + nI 1).toNatClampNeg) (xs (nI (4 * j) + nI 2).toNatClampNeg) (xs (nI (4 * j) + nI 3).toNatClampNeg))
    (kinc : ∀ (σ1 : CS) (o1 : Nat → Int64) (τ1 : MS), Inv σ1 τ1 → bw_ p l e s m below meth c Q A (dC, dI) q r qo cI cZ cJ b (cells + 1) (slots + 6) 958 [(0, .ref b), (1, .ref (q 0)), (2, .ref (r 0)), (3, .ref qo), (4, .int (nI (4 * j)))] [] (σ1, o1, τ1)) :
    bw_ p l e s m below meth c Q A (dC, dI) q r qo cI cZ cJ b cells slots 328 [(0, .ref b), (1, .ref (q 0)), (2, .ref (r 0)), (3, .ref qo), (4, .int (nI (4 * j)))] [] (σ, o, τ) := by
  obtain ⟨hx, hb, hr, hml, hown, hB, hXs, hbl, hbA, hlocks, hK, hN, hT, hZ, hC, hA, hAA, htr⟩ := hX
  have hKc : va_K (dC, dI) vwCl [(cI, .int), (cZ, .boolean)] s := hK.sub [0, 1] rfl
  obtain ⟨v, n, k, σ1, b1, τ1, h1, h2, h3, hth, hvb, hI⟩ := hst
  intro ls H locs hl hP hD hS
  have hn0 : k = 0 → n = 0 := fun hk0 => by
    rcases h2 with ⟨e0, _⟩ | ⟨_, e0⟩
    · exact e0
    · exact absurd (hk0.symm.trans e0) (by decide)
  refine lv_aload_n hx hb nd_L_law_328 rfl (lv_at hl 1 rfl) ?_
  refine lv_aload_n hx hb nd_L_law_329 rfl (lv_at hl 3 rfl) ?_
  have hPh : va_P (dC, dI) vwCl (wh_ q qo cI cZ cJ (σ, o)) H := hP.sub [0, 1, 2, 3, 4, 5, 6, 7, 8, 9, 10, 11, 12, 13, 14, 15, 16] rfl
  have hDh : va_D A (wh_ q qo cI cZ cJ (σ, o)) := hD.sub [0, 1, 2, 3, 4, 5, 6, 7, 8, 9, 10, 11, 12, 13, 14, 15, 16] (by decide) rfl
  refine lc_h (vx_runSW (As := [.ref (q 0), .ref qo]) (rest := []) ⟨hx, hb, hml, hown, hB⟩ (kh_L_create l dC dI q qo cI cZ cJ _ σ o v n σ1 k htr h2 h1) (csw_ 2 hB (gi_ lk_409) rfl rfl rfl (hB _ lk_0) (hB _ lk_407) (hB _ lk_408) (by decide +kernel) ⟨(Nat.le_of_ble_eq_true rfl), (Nat.le_of_ble_eq_true rfl)⟩) ⟨blh_, preh_ hPh hK hDh hN hT hZ hC hS hA⟩ rfl rfl hl.1 rfl (lv_room (Nat.le_of_ble_eq_true rfl)) nd_L_law_330 ⟨hc, hs⟩) hP hD hS hA (fun H locs hP hD hS => ?_)
  generalize ho1 : (if n = 0 then vp_updL o 0 v.toInt64 else o) = o1 at hP hD
  refine lv_istore (lv' := [(5, .int k), (0, .ref b), (1, .ref (q 0)), (2, .ref (r 0)), (3, .ref qo), (4, .int (nI (4 * j)))]) hx hb nd_L_law_333 hl (by decide) rfl (fun ls hl => ?_)
  refine lv_aload_n hx hb nd_L_law_335 rfl (lv_at hl 3 rfl) ?_
  have hPm : va_P (dC, dI) vwCl (wd_M r cI cZ τ) H := hP.sub [17, 18, 19, 20, 21, 22, 23, 24, 25, 26] rfl
  have hDm : va_D A (wd_M r cI cZ τ) := hD.sub [17, 18, 19, 20, 21, 22, 23, 24, 25, 26] (by decide) rfl
  refine lc_m (va_runV (C := "MovedFramesModel") (As := []) (rest := []) ⟨hx, hb, hml, hown, hB⟩ (kw_M_create l dC dI r cI cZ _ τ b1 τ1 h3) ⟨callB_of 0 hB (gi_ lk_725) rfl rfl rfl (hB _ lk_7) (hB _ lk_722) (by decide +kernel) ⟨(Nat.le_of_ble_eq_true rfl), (Nat.le_of_ble_eq_true rfl)⟩, hB _ lk_723, hB _ lk_724⟩ ⟨bl_, va_recv (ci := 6) (q0 := 0) hKc hPm rfl rfl, pre_ hPm hKc hDm hN⟩ rfl rfl hl.1 rfl (lv_room (Nat.le_of_ble_eq_true rfl)) nd_L_law_336 ⟨by omega, by omega⟩) hP hD hS hA (fun H locs hP hD hS => ?_)
  refine lv_istore (lv' := [(6, .int b1), (5, .int k), (0, .ref b), (1, .ref (q 0)), (2, .ref (r 0)), (3, .ref qo), (4, .int (nI (4 * j)))]) hx hb nd_L_law_339 hl (by decide) rfl (fun ls hl => ?_)
  refine lv_aload_n hx hb nd_L_law_341 rfl (lv_at hl 4 rfl) ?_
  have hPm : va_P (dC, dI) vwCl (wd_M r cI cZ τ1) H := hP.sub [17, 18, 19, 20, 21, 22, 23, 24, 25, 26] rfl
  have hDm : va_D A (wd_M r cI cZ τ1) := hD.sub [17, 18, 19, 20, 21, 22, 23, 24, 25, 26] (by decide) rfl
  refine lc_m (va_runV (C := "MovedFramesModel") (As := []) (rest := []) ⟨hx, hb, hml, hown, hB⟩ (kw_M_thrown l dC dI r cI cZ _ τ1 (gm_th τ1) rfl) ⟨callB_of 0 hB (gi_ lk_666) rfl rfl rfl (hB _ lk_7) (hB _ lk_663) (by decide +kernel) ⟨(Nat.le_of_ble_eq_true rfl), (Nat.le_of_ble_eq_true rfl)⟩, hB _ lk_664, hB _ lk_665⟩ ⟨bl_, va_recv (ci := 6) (q0 := 0) hKc hPm rfl rfl, pre_ hPm hKc hDm hN⟩ rfl rfl hl.1 rfl (lv_room (Nat.le_of_ble_eq_true rfl)) nd_L_law_342 ⟨by omega, by omega⟩) hP hD hS hA (fun H locs hP hD hS => ?_)
  refine lv_iload hx hb nd_L_law_345 (lv_at hl 1 rfl) ?_
  refine lv_icmp_eq (tgt := 352) hx hb nd_L_law_347 (by decide) (fun hc9 => ?_) (fun hc9 => absurd hth hc9)
  refine lv_iload hx hb nd_L_law_352 (lv_at hl 1 rfl) ?_
  refine lv_if_ne (tgt := 369) hx hb nd_L_law_354 (by decide) (fun hc9 => ?_) (fun hk0 => ?_)
  · refine lv_goto (tgt := 958) hx hb nd_L_law_369 (by decide) ?_
    refine W.widen (k := cells + 1) (n := slots + 6) (by omega) (by omega) ?_
    exact kinc _ _ _ hI _ _ _ (lv_sub hl [2, 3, 4, 5, 6] rfl) hP hD hS
  · refine lv_aload_n hx hb nd_L_law_357 rfl (lv_at hl 5 rfl) ?_
    refine lv_iconst (v := 0) hx hb nd_L_law_358 (by decide) ?_
    refine va_lald hx hb hK hP 16 2 rfl rfl (by unfold vp_in; decide) nd_L_law_359 ?_
    refine lv_iload hx hb nd_L_law_360 (lv_at hl 0 rfl) ?_
    refine lv_i2l (v := b1.toInt64) hx hb nd_L_law_362 rfl ?_
    refine W.lcmp hx hb nd_L_law_363 ?_
    have hob : o1 (0 : Int32).toNatClampNeg = b1.toInt64 := by rw [← ho1, if_pos (hn0 hk0), hvb hk0]; rfl
    refine lv_if_eq (tgt := 369) hx hb nd_L_law_364 (by decide) (fun hc9 => ?_) (fun hc9 => absurd ((lg_cmp_eq _ _).mpr hob) hc9)
    refine lv_goto (tgt := 958) hx hb nd_L_law_369 (by decide) ?_
    refine W.widen (k := cells + 1) (n := slots + 6) (by omega) (by omega) ?_
    exact kinc _ _ _ hI _ _ _ (lv_sub hl [2, 3, 4, 5, 6] rfl) hP hD hS
set_option maxHeartbeats 4000000 in
set_option maxRecDepth 100000 in
theorem la_5 {Inv : CS → MS → Prop} (hX : lx_ p l s m meth c b L xs (dC, dI) cI cZ cJ A) (hj : 4 * j + 4 ≤ L) (hL : L ≤ 2048) (hc : cells + 1 ≤ room_1.cells) (hs : slots + 6 ≤ room_1.slots) (hst : st_5 Inv σ τ (xs (nI (4 * j) + nI 1).toNatClampNeg) (xs (nI (4 * j) + nI 2).toNatClampNeg) (xs (nI (4 * j) + nI 3).toNatClampNeg))
    (kinc : ∀ (σ1 : CS) (o1 : Nat → Int64) (τ1 : MS), Inv σ1 τ1 → bw_ p l e s m below meth c Q A (dC, dI) q r qo cI cZ cJ b (cells + 1) (slots + 6) 958 [(0, .ref b), (1, .ref (q 0)), (2, .ref (r 0)), (3, .ref qo), (4, .int (nI (4 * j)))] [] (σ1, o1, τ1)) :
    bw_ p l e s m below meth c Q A (dC, dI) q r qo cI cZ cJ b cells slots 372 [(0, .ref b), (1, .ref (q 0)), (2, .ref (r 0)), (3, .ref qo), (4, .int (nI (4 * j)))] [] (σ, o, τ) := by
  obtain ⟨hx, hb, hr, hml, hown, hB, hXs, hbl, hbA, hlocks, hK, hN, hT, hZ, hC, hA, hAA, htr⟩ := hX
  have hKc : va_K (dC, dI) vwCl [(cI, .int), (cZ, .boolean)] s := hK.sub [0, 1] rfl
  obtain ⟨v, n, k, σ1, b1, τ1, h1, h2, h3, hth, hvb, hI⟩ := hst
  intro ls H locs hl hP hD hS
  have hn0 : k = 0 → n = 0 := fun hk0 => by
    rcases h2 with ⟨e0, _⟩ | ⟨_, e0⟩
    · exact e0
    · exact absurd (hk0.symm.trans e0) (by decide)
  refine lv_aload_n hx hb nd_L_law_372 rfl (lv_at hl 1 rfl) ?_
  refine lv_aload_n hx hb nd_L_law_373 rfl (lv_at hl 0 rfl) ?_
  refine lv_iload hx hb nd_L_law_374 (lv_at hl 4 rfl) ?_
  refine lv_iconst (v := nI 1) hx hb nd_L_law_376 (by decide) ?_
  refine lv_iadd hx hb nd_L_law_377 ?_
  refine va_sld hx hb hXs hbl hbA hS (sc_in hj hL (by decide)) nd_L_law_378 ?_
  refine lv_aload_n hx hb nd_L_law_379 rfl (lv_at hl 3 rfl) ?_
  have hPh : va_P (dC, dI) vwCl (wh_ q qo cI cZ cJ (σ, o)) H := hP.sub [0, 1, 2, 3, 4, 5, 6, 7, 8, 9, 10, 11, 12, 13, 14, 15, 16] rfl
  have hDh : va_D A (wh_ q qo cI cZ cJ (σ, o)) := hD.sub [0, 1, 2, 3, 4, 5, 6, 7, 8, 9, 10, 11, 12, 13, 14, 15, 16] (by decide) rfl
  refine lc_h (vx_runSW (As := [.ref (q 0), .int (xs (nI (4 * j) + nI 1).toNatClampNeg), .ref qo]) (rest := []) ⟨hx, hb, hml, hown, hB⟩ (kh_L_destroy l dC dI q qo cI cZ cJ _ σ o (xs (nI (4 * j) + nI 1).toNatClampNeg) v n σ1 k htr h2 h1) (csw_ 3 hB (gi_ lk_421) rfl rfl rfl (hB _ lk_0) (hB _ lk_419) (hB _ lk_420) (by decide +kernel) ⟨(Nat.le_of_ble_eq_true rfl), (Nat.le_of_ble_eq_true rfl)⟩) ⟨blh_, preh_ hPh hK hDh hN hT hZ hC hS hA⟩ rfl rfl hl.1 rfl (lv_room (Nat.le_of_ble_eq_true rfl)) nd_L_law_380 ⟨hc, hs⟩) hP hD hS hA (fun H locs hP hD hS => ?_)
  generalize ho1 : (if n = 0 then vp_updL o 0 v.toInt64 else o) = o1 at hP hD
  refine lv_istore (lv' := [(5, .int k), (0, .ref b), (1, .ref (q 0)), (2, .ref (r 0)), (3, .ref qo), (4, .int (nI (4 * j)))]) hx hb nd_L_law_383 hl (by decide) rfl (fun ls hl => ?_)
  refine lv_aload_n hx hb nd_L_law_385 rfl (lv_at hl 3 rfl) ?_
  refine lv_aload_n hx hb nd_L_law_386 rfl (lv_at hl 1 rfl) ?_
  refine lv_iload hx hb nd_L_law_387 (lv_at hl 5 rfl) ?_
  refine lv_iconst (v := nI 1) hx hb nd_L_law_389 (by decide) ?_
  refine lv_iadd hx hb nd_L_law_390 ?_
  refine va_sld hx hb hXs hbl hbA hS (sc_in hj hL (by decide)) nd_L_law_391 ?_
  have hPm : va_P (dC, dI) vwCl (wd_M r cI cZ τ) H := hP.sub [17, 18, 19, 20, 21, 22, 23, 24, 25, 26] rfl
  have hDm : va_D A (wd_M r cI cZ τ) := hD.sub [17, 18, 19, 20, 21, 22, 23, 24, 25, 26] (by decide) rfl
  refine lc_m (va_runV (C := "MovedFramesModel") (As := [.int (xs (nI (4 * j) + nI 1).toNatClampNeg)]) (rest := []) ⟨hx, hb, hml, hown, hB⟩ (kw_M_destroy l dC dI r cI cZ _ τ (xs (nI (4 * j) + nI 1).toNatClampNeg) b1 τ1 h3) ⟨callB_of 1 hB (gi_ lk_729) rfl rfl rfl (hB _ lk_7) (hB _ lk_726) (by decide +kernel) ⟨(Nat.le_of_ble_eq_true rfl), (Nat.le_of_ble_eq_true rfl)⟩, hB _ lk_727, hB _ lk_728⟩ ⟨bl_, va_recv (ci := 6) (q0 := 0) hKc hPm rfl rfl, pre_ hPm hKc hDm hN⟩ rfl rfl hl.1 rfl (lv_room (Nat.le_of_ble_eq_true rfl)) nd_L_law_392 ⟨by omega, by omega⟩) hP hD hS hA (fun H locs hP hD hS => ?_)
  refine lv_istore (lv' := [(6, .int b1), (5, .int k), (0, .ref b), (1, .ref (q 0)), (2, .ref (r 0)), (3, .ref qo), (4, .int (nI (4 * j)))]) hx hb nd_L_law_395 hl (by decide) rfl (fun ls hl => ?_)
  refine lv_aload_n hx hb nd_L_law_397 rfl (lv_at hl 4 rfl) ?_
  have hPm : va_P (dC, dI) vwCl (wd_M r cI cZ τ1) H := hP.sub [17, 18, 19, 20, 21, 22, 23, 24, 25, 26] rfl
  have hDm : va_D A (wd_M r cI cZ τ1) := hD.sub [17, 18, 19, 20, 21, 22, 23, 24, 25, 26] (by decide) rfl
  refine lc_m (va_runV (C := "MovedFramesModel") (As := []) (rest := []) ⟨hx, hb, hml, hown, hB⟩ (kw_M_thrown l dC dI r cI cZ _ τ1 (gm_th τ1) rfl) ⟨callB_of 0 hB (gi_ lk_666) rfl rfl rfl (hB _ lk_7) (hB _ lk_663) (by decide +kernel) ⟨(Nat.le_of_ble_eq_true rfl), (Nat.le_of_ble_eq_true rfl)⟩, hB _ lk_664, hB _ lk_665⟩ ⟨bl_, va_recv (ci := 6) (q0 := 0) hKc hPm rfl rfl, pre_ hPm hKc hDm hN⟩ rfl rfl hl.1 rfl (lv_room (Nat.le_of_ble_eq_true rfl)) nd_L_law_398 ⟨by omega, by omega⟩) hP hD hS hA (fun H locs hP hD hS => ?_)
  refine lv_iload hx hb nd_L_law_401 (lv_at hl 1 rfl) ?_
  refine lv_icmp_eq (tgt := 408) hx hb nd_L_law_403 (by decide) (fun hc9 => ?_) (fun hc9 => absurd hth hc9)
  refine lv_iload hx hb nd_L_law_408 (lv_at hl 1 rfl) ?_
  refine lv_if_ne (tgt := 425) hx hb nd_L_law_410 (by decide) (fun hc9 => ?_) (fun hk0 => ?_)
  · refine lv_goto (tgt := 958) hx hb nd_L_law_425 (by decide) ?_
    refine W.widen (k := cells + 1) (n := slots + 6) (by omega) (by omega) ?_
    exact kinc _ _ _ hI _ _ _ (lv_sub hl [2, 3, 4, 5, 6] rfl) hP hD hS
  · refine lv_aload_n hx hb nd_L_law_413 rfl (lv_at hl 5 rfl) ?_
    refine lv_iconst (v := 0) hx hb nd_L_law_414 (by decide) ?_
    refine va_lald hx hb hK hP 16 2 rfl rfl (by unfold vp_in; decide) nd_L_law_415 ?_
    refine lv_iload hx hb nd_L_law_416 (lv_at hl 0 rfl) ?_
    refine lv_i2l (v := b1.toInt64) hx hb nd_L_law_418 rfl ?_
    refine W.lcmp hx hb nd_L_law_419 ?_
    have hob : o1 (0 : Int32).toNatClampNeg = b1.toInt64 := by rw [← ho1, if_pos (hn0 hk0), hvb hk0]; rfl
    refine lv_if_eq (tgt := 425) hx hb nd_L_law_420 (by decide) (fun hc9 => ?_) (fun hc9 => absurd ((lg_cmp_eq _ _).mpr hob) hc9)
    refine lv_goto (tgt := 958) hx hb nd_L_law_425 (by decide) ?_
    refine W.widen (k := cells + 1) (n := slots + 6) (by omega) (by omega) ?_
    exact kinc _ _ _ hI _ _ _ (lv_sub hl [2, 3, 4, 5, 6] rfl) hP hD hS
set_option maxHeartbeats 4000000 in
set_option maxRecDepth 100000 in
theorem la_6 {Inv : CS → MS → Prop} (hX : lx_ p l s m meth c b L xs (dC, dI) cI cZ cJ A) (hj : 4 * j + 4 ≤ L) (hL : L ≤ 2048) (hc : cells + 1 ≤ room_1.cells) (hs : slots + 6 ≤ room_1.slots) (hst : st_6 Inv σ τ (xs (nI (4 * j) + nI 1).toNatClampNeg) (xs (nI (4 * j) + nI 2).toNatClampNeg) (xs (nI (4 * j) + nI 3).toNatClampNeg))
    (kinc : ∀ (σ1 : CS) (o1 : Nat → Int64) (τ1 : MS), Inv σ1 τ1 → bw_ p l e s m below meth c Q A (dC, dI) q r qo cI cZ cJ b (cells + 1) (slots + 6) 958 [(0, .ref b), (1, .ref (q 0)), (2, .ref (r 0)), (3, .ref qo), (4, .int (nI (4 * j)))] [] (σ1, o1, τ1)) :
    bw_ p l e s m below meth c Q A (dC, dI) q r qo cI cZ cJ b cells slots 428 [(0, .ref b), (1, .ref (q 0)), (2, .ref (r 0)), (3, .ref qo), (4, .int (nI (4 * j)))] [] (σ, o, τ) := by
  obtain ⟨hx, hb, hr, hml, hown, hB, hXs, hbl, hbA, hlocks, hK, hN, hT, hZ, hC, hA, hAA, htr⟩ := hX
  have hKc : va_K (dC, dI) vwCl [(cI, .int), (cZ, .boolean)] s := hK.sub [0, 1] rfl
  obtain ⟨v, n, k, σ1, τ1, h1, h2, h3, hth, hvb, hI⟩ := hst
  intro ls H locs hl hP hD hS
  refine lv_aload_n hx hb nd_L_law_428 rfl (lv_at hl 1 rfl) ?_
  refine lv_aload_n hx hb nd_L_law_429 rfl (lv_at hl 0 rfl) ?_
  refine lv_iload hx hb nd_L_law_430 (lv_at hl 4 rfl) ?_
  refine lv_iconst (v := nI 1) hx hb nd_L_law_432 (by decide) ?_
  refine lv_iadd hx hb nd_L_law_433 ?_
  refine va_sld hx hb hXs hbl hbA hS (sc_in hj hL (by decide)) nd_L_law_434 ?_
  refine lv_aload_n hx hb nd_L_law_435 rfl (lv_at hl 0 rfl) ?_
  refine lv_iload hx hb nd_L_law_436 (lv_at hl 4 rfl) ?_
  refine lv_iconst (v := nI 2) hx hb nd_L_law_438 (by decide) ?_
  refine lv_iadd hx hb nd_L_law_439 ?_
  refine va_sld hx hb hXs hbl hbA hS (sc_in hj hL (by decide)) nd_L_law_440 ?_
  refine lv_aload_n hx hb nd_L_law_441 rfl (lv_at hl 0 rfl) ?_
  refine lv_iload hx hb nd_L_law_442 (lv_at hl 4 rfl) ?_
  refine lv_iconst (v := nI 3) hx hb nd_L_law_444 (by decide) ?_
  refine lv_iadd hx hb nd_L_law_445 ?_
  refine va_sld hx hb hXs hbl hbA hS (sc_in hj hL (by decide)) nd_L_law_446 ?_
  have hPh : va_P (dC, dI) vwCl (wh_ q qo cI cZ cJ (σ, o)) H := hP.sub [0, 1, 2, 3, 4, 5, 6, 7, 8, 9, 10, 11, 12, 13, 14, 15, 16] rfl
  have hDh : va_D A (wh_ q qo cI cZ cJ (σ, o)) := hD.sub [0, 1, 2, 3, 4, 5, 6, 7, 8, 9, 10, 11, 12, 13, 14, 15, 16] (by decide) rfl
  refine lc_h (vx_runSW (As := [.ref (q 0), .int (xs (nI (4 * j) + nI 1).toNatClampNeg), .int (xs (nI (4 * j) + nI 2).toNatClampNeg), .int (xs (nI (4 * j) + nI 3).toNatClampNeg)]) (rest := []) ⟨hx, hb, hml, hown, hB⟩ (kh_L_mmap l dC dI q qo cI cZ cJ _ σ o (xs (nI (4 * j) + nI 1).toNatClampNeg) (xs (nI (4 * j) + nI 2).toNatClampNeg) (xs (nI (4 * j) + nI 3).toNatClampNeg) v n σ1 k htr h2 h1) (csw_ 4 hB (gi_ lk_441) rfl rfl rfl (hB _ lk_0) (hB _ lk_439) (hB _ lk_440) (by decide +kernel) ⟨(Nat.le_of_ble_eq_true rfl), (Nat.le_of_ble_eq_true rfl)⟩) ⟨blh_, preh_ hPh hK hDh hN hT hZ hC hS hA⟩ rfl rfl hl.1 rfl (lv_room (Nat.le_of_ble_eq_true rfl)) nd_L_law_447 ⟨hc, hs⟩) hP hD hS hA (fun H locs hP hD hS => ?_)
  refine lv_istore (lv' := [(5, .int k), (0, .ref b), (1, .ref (q 0)), (2, .ref (r 0)), (3, .ref qo), (4, .int (nI (4 * j)))]) hx hb nd_L_law_450 hl (by decide) rfl (fun ls hl => ?_)
  refine lv_aload_n hx hb nd_L_law_452 rfl (lv_at hl 3 rfl) ?_
  refine lv_aload_n hx hb nd_L_law_453 rfl (lv_at hl 1 rfl) ?_
  refine lv_iload hx hb nd_L_law_454 (lv_at hl 5 rfl) ?_
  refine lv_iconst (v := nI 1) hx hb nd_L_law_456 (by decide) ?_
  refine lv_iadd hx hb nd_L_law_457 ?_
  refine va_sld hx hb hXs hbl hbA hS (sc_in hj hL (by decide)) nd_L_law_458 ?_
  refine lv_aload_n hx hb nd_L_law_459 rfl (lv_at hl 1 rfl) ?_
  refine lv_iload hx hb nd_L_law_460 (lv_at hl 5 rfl) ?_
  refine lv_iconst (v := nI 2) hx hb nd_L_law_462 (by decide) ?_
  refine lv_iadd hx hb nd_L_law_463 ?_
  refine va_sld hx hb hXs hbl hbA hS (sc_in hj hL (by decide)) nd_L_law_464 ?_
  refine lv_aload_n hx hb nd_L_law_465 rfl (lv_at hl 1 rfl) ?_
  refine lv_iload hx hb nd_L_law_466 (lv_at hl 5 rfl) ?_
  refine lv_iconst (v := nI 3) hx hb nd_L_law_468 (by decide) ?_
  refine lv_iadd hx hb nd_L_law_469 ?_
  refine va_sld hx hb hXs hbl hbA hS (sc_in hj hL (by decide)) nd_L_law_470 ?_
  have hPm : va_P (dC, dI) vwCl (wd_M r cI cZ τ) H := hP.sub [17, 18, 19, 20, 21, 22, 23, 24, 25, 26] rfl
  have hDm : va_D A (wd_M r cI cZ τ) := hD.sub [17, 18, 19, 20, 21, 22, 23, 24, 25, 26] (by decide) rfl
  refine lc_mv (va_runV (C := "MovedFramesModel") (As := [.int (xs (nI (4 * j) + nI 1).toNatClampNeg), .int (xs (nI (4 * j) + nI 2).toNatClampNeg), .int (xs (nI (4 * j) + nI 3).toNatClampNeg)]) (rest := []) ⟨hx, hb, hml, hown, hB⟩ (kw_M_mmap l dC dI r cI cZ _ τ (xs (nI (4 * j) + nI 1).toNatClampNeg) (xs (nI (4 * j) + nI 2).toNatClampNeg) (xs (nI (4 * j) + nI 3).toNatClampNeg) τ1 h3) ⟨callB_of 3 hB (gi_ lk_757) rfl rfl rfl (hB _ lk_7) (hB _ lk_754) (by decide +kernel) ⟨(Nat.le_of_ble_eq_true rfl), (Nat.le_of_ble_eq_true rfl)⟩, hB _ lk_755, hB _ lk_756⟩ ⟨bl_, va_recv (ci := 6) (q0 := 0) hKc hPm rfl rfl, pre_ hPm hKc hDm hN⟩ rfl rfl hl.1 rfl (lv_room (Nat.le_of_ble_eq_true rfl)) nd_L_law_471 ⟨by omega, by omega⟩) hP hD hS hA (fun H locs hP hD hS => ?_)
  refine lv_aload_n hx hb nd_L_law_474 rfl (lv_at hl 3 rfl) ?_
  have hPm : va_P (dC, dI) vwCl (wd_M r cI cZ τ1) H := hP.sub [17, 18, 19, 20, 21, 22, 23, 24, 25, 26] rfl
  have hDm : va_D A (wd_M r cI cZ τ1) := hD.sub [17, 18, 19, 20, 21, 22, 23, 24, 25, 26] (by decide) rfl
  refine lc_m (va_runV (C := "MovedFramesModel") (As := []) (rest := []) ⟨hx, hb, hml, hown, hB⟩ (kw_M_thrown l dC dI r cI cZ _ τ1 (gm_th τ1) rfl) ⟨callB_of 0 hB (gi_ lk_666) rfl rfl rfl (hB _ lk_7) (hB _ lk_663) (by decide +kernel) ⟨(Nat.le_of_ble_eq_true rfl), (Nat.le_of_ble_eq_true rfl)⟩, hB _ lk_664, hB _ lk_665⟩ ⟨bl_, va_recv (ci := 6) (q0 := 0) hKc hPm rfl rfl, pre_ hPm hKc hDm hN⟩ rfl rfl hl.1 rfl (lv_room (Nat.le_of_ble_eq_true rfl)) nd_L_law_475 ⟨by omega, by omega⟩) hP hD hS hA (fun H locs hP hD hS => ?_)
  refine lv_iload hx hb nd_L_law_478 (lv_at hl 0 rfl) ?_
  refine lv_icmp_eq (tgt := 485) hx hb nd_L_law_480 (by decide) (fun hc9 => ?_) (fun hc9 => absurd hth hc9)
  refine lv_goto (tgt := 958) hx hb nd_L_law_485 (by decide) ?_
  refine W.widen (k := cells + 1) (n := slots + 6) (by omega) (by omega) ?_
  exact kinc _ _ _ hI _ _ _ (lv_sub hl [1, 2, 3, 4, 5] rfl) hP hD hS
set_option maxHeartbeats 4000000 in
set_option maxRecDepth 100000 in
theorem la_7 {Inv : CS → MS → Prop} (hX : lx_ p l s m meth c b L xs (dC, dI) cI cZ cJ A) (hj : 4 * j + 4 ≤ L) (hL : L ≤ 2048) (hc : cells + 1 ≤ room_1.cells) (hs : slots + 6 ≤ room_1.slots) (hst : st_7 Inv σ τ (xs (nI (4 * j) + nI 1).toNatClampNeg) (xs (nI (4 * j) + nI 2).toNatClampNeg) (xs (nI (4 * j) + nI 3).toNatClampNeg))
    (kinc : ∀ (σ1 : CS) (o1 : Nat → Int64) (τ1 : MS), Inv σ1 τ1 → bw_ p l e s m below meth c Q A (dC, dI) q r qo cI cZ cJ b (cells + 1) (slots + 6) 958 [(0, .ref b), (1, .ref (q 0)), (2, .ref (r 0)), (3, .ref qo), (4, .int (nI (4 * j)))] [] (σ1, o1, τ1)) :
    bw_ p l e s m below meth c Q A (dC, dI) q r qo cI cZ cJ b cells slots 488 [(0, .ref b), (1, .ref (q 0)), (2, .ref (r 0)), (3, .ref qo), (4, .int (nI (4 * j)))] [] (σ, o, τ) := by
  obtain ⟨hx, hb, hr, hml, hown, hB, hXs, hbl, hbA, hlocks, hK, hN, hT, hZ, hC, hA, hAA, htr⟩ := hX
  have hKc : va_K (dC, dI) vwCl [(cI, .int), (cZ, .boolean)] s := hK.sub [0, 1] rfl
  obtain ⟨v, n, k, σ1, b1, τ1, h1, h2, h3, hth, hvb, hI⟩ := hst
  intro ls H locs hl hP hD hS
  have hn0 : k = 0 → n = 0 := fun hk0 => by
    rcases h2 with ⟨e0, _⟩ | ⟨_, e0⟩
    · exact e0
    · exact absurd (hk0.symm.trans e0) (by decide)
  refine lv_aload_n hx hb nd_L_law_488 rfl (lv_at hl 1 rfl) ?_
  refine lv_aload_n hx hb nd_L_law_489 rfl (lv_at hl 0 rfl) ?_
  refine lv_iload hx hb nd_L_law_490 (lv_at hl 4 rfl) ?_
  refine lv_iconst (v := nI 1) hx hb nd_L_law_492 (by decide) ?_
  refine lv_iadd hx hb nd_L_law_493 ?_
  refine va_sld hx hb hXs hbl hbA hS (sc_in hj hL (by decide)) nd_L_law_494 ?_
  refine lv_aload_n hx hb nd_L_law_495 rfl (lv_at hl 0 rfl) ?_
  refine lv_iload hx hb nd_L_law_496 (lv_at hl 4 rfl) ?_
  refine lv_iconst (v := nI 2) hx hb nd_L_law_498 (by decide) ?_
  refine lv_iadd hx hb nd_L_law_499 ?_
  refine va_sld hx hb hXs hbl hbA hS (sc_in hj hL (by decide)) nd_L_law_500 ?_
  refine lv_aload_n hx hb nd_L_law_501 rfl (lv_at hl 0 rfl) ?_
  refine lv_iload hx hb nd_L_law_502 (lv_at hl 4 rfl) ?_
  refine lv_iconst (v := nI 3) hx hb nd_L_law_504 (by decide) ?_
  refine lv_iadd hx hb nd_L_law_505 ?_
  refine va_sld hx hb hXs hbl hbA hS (sc_in hj hL (by decide)) nd_L_law_506 ?_
  refine lv_aload_n hx hb nd_L_law_507 rfl (lv_at hl 3 rfl) ?_
  have hPh : va_P (dC, dI) vwCl (wh_ q qo cI cZ cJ (σ, o)) H := hP.sub [0, 1, 2, 3, 4, 5, 6, 7, 8, 9, 10, 11, 12, 13, 14, 15, 16] rfl
  have hDh : va_D A (wh_ q qo cI cZ cJ (σ, o)) := hD.sub [0, 1, 2, 3, 4, 5, 6, 7, 8, 9, 10, 11, 12, 13, 14, 15, 16] (by decide) rfl
  refine lc_h (vx_runSW (As := [.ref (q 0), .int (xs (nI (4 * j) + nI 1).toNatClampNeg), .int (xs (nI (4 * j) + nI 2).toNatClampNeg), .int (xs (nI (4 * j) + nI 3).toNatClampNeg), .ref qo]) (rest := []) ⟨hx, hb, hml, hown, hB⟩ (kh_L_munmap l dC dI q qo cI cZ cJ _ σ o (xs (nI (4 * j) + nI 1).toNatClampNeg) (xs (nI (4 * j) + nI 2).toNatClampNeg) (xs (nI (4 * j) + nI 3).toNatClampNeg) v n σ1 k htr h2 h1) (csw_ 5 hB (gi_ lk_476) rfl rfl rfl (hB _ lk_0) (hB _ lk_474) (hB _ lk_475) (by decide +kernel) ⟨(Nat.le_of_ble_eq_true rfl), (Nat.le_of_ble_eq_true rfl)⟩) ⟨blh_, preh_ hPh hK hDh hN hT hZ hC hS hA⟩ rfl rfl hl.1 rfl (lv_room (Nat.le_of_ble_eq_true rfl)) nd_L_law_508 ⟨hc, hs⟩) hP hD hS hA (fun H locs hP hD hS => ?_)
  generalize ho1 : (if n = 0 then vp_updL o 0 v.toInt64 else o) = o1 at hP hD
  refine lv_istore (lv' := [(5, .int k), (0, .ref b), (1, .ref (q 0)), (2, .ref (r 0)), (3, .ref qo), (4, .int (nI (4 * j)))]) hx hb nd_L_law_511 hl (by decide) rfl (fun ls hl => ?_)
  refine lv_aload_n hx hb nd_L_law_513 rfl (lv_at hl 3 rfl) ?_
  refine lv_aload_n hx hb nd_L_law_514 rfl (lv_at hl 1 rfl) ?_
  refine lv_iload hx hb nd_L_law_515 (lv_at hl 5 rfl) ?_
  refine lv_iconst (v := nI 1) hx hb nd_L_law_517 (by decide) ?_
  refine lv_iadd hx hb nd_L_law_518 ?_
  refine va_sld hx hb hXs hbl hbA hS (sc_in hj hL (by decide)) nd_L_law_519 ?_
  refine lv_aload_n hx hb nd_L_law_520 rfl (lv_at hl 1 rfl) ?_
  refine lv_iload hx hb nd_L_law_521 (lv_at hl 5 rfl) ?_
  refine lv_iconst (v := nI 2) hx hb nd_L_law_523 (by decide) ?_
  refine lv_iadd hx hb nd_L_law_524 ?_
  refine va_sld hx hb hXs hbl hbA hS (sc_in hj hL (by decide)) nd_L_law_525 ?_
  refine lv_aload_n hx hb nd_L_law_526 rfl (lv_at hl 1 rfl) ?_
  refine lv_iload hx hb nd_L_law_527 (lv_at hl 5 rfl) ?_
  refine lv_iconst (v := nI 3) hx hb nd_L_law_529 (by decide) ?_
  refine lv_iadd hx hb nd_L_law_530 ?_
  refine va_sld hx hb hXs hbl hbA hS (sc_in hj hL (by decide)) nd_L_law_531 ?_
  have hPm : va_P (dC, dI) vwCl (wd_M r cI cZ τ) H := hP.sub [17, 18, 19, 20, 21, 22, 23, 24, 25, 26] rfl
  have hDm : va_D A (wd_M r cI cZ τ) := hD.sub [17, 18, 19, 20, 21, 22, 23, 24, 25, 26] (by decide) rfl
  refine lc_m (va_runV (C := "MovedFramesModel") (As := [.int (xs (nI (4 * j) + nI 1).toNatClampNeg), .int (xs (nI (4 * j) + nI 2).toNatClampNeg), .int (xs (nI (4 * j) + nI 3).toNatClampNeg)]) (rest := []) ⟨hx, hb, hml, hown, hB⟩ (kw_M_munmap l dC dI r cI cZ _ τ (xs (nI (4 * j) + nI 1).toNatClampNeg) (xs (nI (4 * j) + nI 2).toNatClampNeg) (xs (nI (4 * j) + nI 3).toNatClampNeg) b1 τ1 h3) ⟨callB_of 3 hB (gi_ lk_764) rfl rfl rfl (hB _ lk_7) (hB _ lk_761) (by decide +kernel) ⟨(Nat.le_of_ble_eq_true rfl), (Nat.le_of_ble_eq_true rfl)⟩, hB _ lk_762, hB _ lk_763⟩ ⟨bl_, va_recv (ci := 6) (q0 := 0) hKc hPm rfl rfl, pre_ hPm hKc hDm hN⟩ rfl rfl hl.1 rfl (lv_room (Nat.le_of_ble_eq_true rfl)) nd_L_law_532 ⟨by omega, by omega⟩) hP hD hS hA (fun H locs hP hD hS => ?_)
  refine lv_istore (lv' := [(6, .int b1), (5, .int k), (0, .ref b), (1, .ref (q 0)), (2, .ref (r 0)), (3, .ref qo), (4, .int (nI (4 * j)))]) hx hb nd_L_law_535 hl (by decide) rfl (fun ls hl => ?_)
  refine lv_aload_n hx hb nd_L_law_537 rfl (lv_at hl 4 rfl) ?_
  have hPm : va_P (dC, dI) vwCl (wd_M r cI cZ τ1) H := hP.sub [17, 18, 19, 20, 21, 22, 23, 24, 25, 26] rfl
  have hDm : va_D A (wd_M r cI cZ τ1) := hD.sub [17, 18, 19, 20, 21, 22, 23, 24, 25, 26] (by decide) rfl
  refine lc_m (va_runV (C := "MovedFramesModel") (As := []) (rest := []) ⟨hx, hb, hml, hown, hB⟩ (kw_M_thrown l dC dI r cI cZ _ τ1 (gm_th τ1) rfl) ⟨callB_of 0 hB (gi_ lk_666) rfl rfl rfl (hB _ lk_7) (hB _ lk_663) (by decide +kernel) ⟨(Nat.le_of_ble_eq_true rfl), (Nat.le_of_ble_eq_true rfl)⟩, hB _ lk_664, hB _ lk_665⟩ ⟨bl_, va_recv (ci := 6) (q0 := 0) hKc hPm rfl rfl, pre_ hPm hKc hDm hN⟩ rfl rfl hl.1 rfl (lv_room (Nat.le_of_ble_eq_true rfl)) nd_L_law_538 ⟨by omega, by omega⟩) hP hD hS hA (fun H locs hP hD hS => ?_)
  refine lv_iload hx hb nd_L_law_541 (lv_at hl 1 rfl) ?_
  refine lv_icmp_eq (tgt := 548) hx hb nd_L_law_543 (by decide) (fun hc9 => ?_) (fun hc9 => absurd hth hc9)
  refine lv_iload hx hb nd_L_law_548 (lv_at hl 1 rfl) ?_
  refine lv_if_ne (tgt := 565) hx hb nd_L_law_550 (by decide) (fun hc9 => ?_) (fun hk0 => ?_)
  · refine lv_goto (tgt := 958) hx hb nd_L_law_565 (by decide) ?_
    refine W.widen (k := cells + 1) (n := slots + 6) (by omega) (by omega) ?_
    exact kinc _ _ _ hI _ _ _ (lv_sub hl [2, 3, 4, 5, 6] rfl) hP hD hS
  · refine lv_aload_n hx hb nd_L_law_553 rfl (lv_at hl 5 rfl) ?_
    refine lv_iconst (v := 0) hx hb nd_L_law_554 (by decide) ?_
    refine va_lald hx hb hK hP 16 2 rfl rfl (by unfold vp_in; decide) nd_L_law_555 ?_
    refine lv_iload hx hb nd_L_law_556 (lv_at hl 0 rfl) ?_
    refine lv_i2l (v := b1.toInt64) hx hb nd_L_law_558 rfl ?_
    refine W.lcmp hx hb nd_L_law_559 ?_
    have hob : o1 (0 : Int32).toNatClampNeg = b1.toInt64 := by rw [← ho1, if_pos (hn0 hk0), hvb hk0]; rfl
    refine lv_if_eq (tgt := 565) hx hb nd_L_law_560 (by decide) (fun hc9 => ?_) (fun hc9 => absurd ((lg_cmp_eq _ _).mpr hob) hc9)
    refine lv_goto (tgt := 958) hx hb nd_L_law_565 (by decide) ?_
    refine W.widen (k := cells + 1) (n := slots + 6) (by omega) (by omega) ?_
    exact kinc _ _ _ hI _ _ _ (lv_sub hl [2, 3, 4, 5, 6] rfl) hP hD hS
set_option maxHeartbeats 4000000 in
set_option maxRecDepth 100000 in
theorem la_8 {Inv : CS → MS → Prop} (hX : lx_ p l s m meth c b L xs (dC, dI) cI cZ cJ A) (hj : 4 * j + 4 ≤ L) (hL : L ≤ 2048) (hc : cells + 1 ≤ room_1.cells) (hs : slots + 6 ≤ room_1.slots) (hst : st_8 Inv σ τ (xs (nI (4 * j) + nI 1).toNatClampNeg) (xs (nI (4 * j) + nI 2).toNatClampNeg) (xs (nI (4 * j) + nI 3).toNatClampNeg))
    (kinc : ∀ (σ1 : CS) (o1 : Nat → Int64) (τ1 : MS), Inv σ1 τ1 → bw_ p l e s m below meth c Q A (dC, dI) q r qo cI cZ cJ b (cells + 1) (slots + 6) 958 [(0, .ref b), (1, .ref (q 0)), (2, .ref (r 0)), (3, .ref qo), (4, .int (nI (4 * j)))] [] (σ1, o1, τ1)) :
    bw_ p l e s m below meth c Q A (dC, dI) q r qo cI cZ cJ b cells slots 568 [(0, .ref b), (1, .ref (q 0)), (2, .ref (r 0)), (3, .ref qo), (4, .int (nI (4 * j)))] [] (σ, o, τ) := by
  obtain ⟨hx, hb, hr, hml, hown, hB, hXs, hbl, hbA, hlocks, hK, hN, hT, hZ, hC, hA, hAA, htr⟩ := hX
  have hKc : va_K (dC, dI) vwCl [(cI, .int), (cZ, .boolean)] s := hK.sub [0, 1] rfl
  obtain ⟨v, n, k, σ1, b1, τ1, h1, h2, h3, hth, hvb, hI⟩ := hst
  intro ls H locs hl hP hD hS
  have hn0 : k = 0 → n = 0 := fun hk0 => by
    rcases h2 with ⟨e0, _⟩ | ⟨_, e0⟩ | ⟨_, e0⟩ | ⟨_, e0⟩
    · exact e0
    · exact absurd (hk0.symm.trans e0) (by decide)
    · exact absurd (hk0.symm.trans e0) (by decide)
    · exact absurd (hk0.symm.trans e0) (by decide)
  refine lv_aload_n hx hb nd_L_law_568 rfl (lv_at hl 1 rfl) ?_
  refine lv_aload_n hx hb nd_L_law_569 rfl (lv_at hl 0 rfl) ?_
  refine lv_iload hx hb nd_L_law_570 (lv_at hl 4 rfl) ?_
  refine lv_iconst (v := nI 1) hx hb nd_L_law_572 (by decide) ?_
  refine lv_iadd hx hb nd_L_law_573 ?_
  refine va_sld hx hb hXs hbl hbA hS (sc_in hj hL (by decide)) nd_L_law_574 ?_
  refine lv_aload_n hx hb nd_L_law_575 rfl (lv_at hl 0 rfl) ?_
  refine lv_iload hx hb nd_L_law_576 (lv_at hl 4 rfl) ?_
  refine lv_iconst (v := nI 2) hx hb nd_L_law_578 (by decide) ?_
  refine lv_iadd hx hb nd_L_law_579 ?_
  refine va_sld hx hb hXs hbl hbA hS (sc_in hj hL (by decide)) nd_L_law_580 ?_
  refine lv_aload_n hx hb nd_L_law_581 rfl (lv_at hl 3 rfl) ?_
  have hPh : va_P (dC, dI) vwCl (wh_ q qo cI cZ cJ (σ, o)) H := hP.sub [0, 1, 2, 3, 4, 5, 6, 7, 8, 9, 10, 11, 12, 13, 14, 15, 16] rfl
  have hDh : va_D A (wh_ q qo cI cZ cJ (σ, o)) := hD.sub [0, 1, 2, 3, 4, 5, 6, 7, 8, 9, 10, 11, 12, 13, 14, 15, 16] (by decide) rfl
  refine lc_h (vx_runSW (As := [.ref (q 0), .int (xs (nI (4 * j) + nI 1).toNatClampNeg), .int (xs (nI (4 * j) + nI 2).toNatClampNeg), .ref qo]) (rest := []) ⟨hx, hb, hml, hown, hB⟩ (kh_L_load l dC dI q qo cI cZ cJ _ σ o (xs (nI (4 * j) + nI 1).toNatClampNeg) (xs (nI (4 * j) + nI 2).toNatClampNeg) v n σ1 k htr h2 h1) (csw_ 4 hB (gi_ lk_497) rfl rfl rfl (hB _ lk_0) (hB _ lk_495) (hB _ lk_496) (by decide +kernel) ⟨(Nat.le_of_ble_eq_true rfl), (Nat.le_of_ble_eq_true rfl)⟩) ⟨blh_, preh_ hPh hK hDh hN hT hZ hC hS hA⟩ rfl rfl hl.1 rfl (lv_room (Nat.le_of_ble_eq_true rfl)) nd_L_law_582 ⟨hc, hs⟩) hP hD hS hA (fun H locs hP hD hS => ?_)
  generalize ho1 : (if n = 0 then vp_updL o 0 v.toInt64 else o) = o1 at hP hD
  refine lv_istore (lv' := [(5, .int k), (0, .ref b), (1, .ref (q 0)), (2, .ref (r 0)), (3, .ref qo), (4, .int (nI (4 * j)))]) hx hb nd_L_law_585 hl (by decide) rfl (fun ls hl => ?_)
  refine lv_aload_n hx hb nd_L_law_587 rfl (lv_at hl 3 rfl) ?_
  refine lv_aload_n hx hb nd_L_law_588 rfl (lv_at hl 1 rfl) ?_
  refine lv_iload hx hb nd_L_law_589 (lv_at hl 5 rfl) ?_
  refine lv_iconst (v := nI 1) hx hb nd_L_law_591 (by decide) ?_
  refine lv_iadd hx hb nd_L_law_592 ?_
  refine va_sld hx hb hXs hbl hbA hS (sc_in hj hL (by decide)) nd_L_law_593 ?_
  refine lv_aload_n hx hb nd_L_law_594 rfl (lv_at hl 1 rfl) ?_
  refine lv_iload hx hb nd_L_law_595 (lv_at hl 5 rfl) ?_
  refine lv_iconst (v := nI 2) hx hb nd_L_law_597 (by decide) ?_
  refine lv_iadd hx hb nd_L_law_598 ?_
  refine va_sld hx hb hXs hbl hbA hS (sc_in hj hL (by decide)) nd_L_law_599 ?_
  have hPm : va_P (dC, dI) vwCl (wd_M r cI cZ τ) H := hP.sub [17, 18, 19, 20, 21, 22, 23, 24, 25, 26] rfl
  have hDm : va_D A (wd_M r cI cZ τ) := hD.sub [17, 18, 19, 20, 21, 22, 23, 24, 25, 26] (by decide) rfl
  refine lc_m (va_runV (C := "MovedFramesModel") (As := [.int (xs (nI (4 * j) + nI 1).toNatClampNeg), .int (xs (nI (4 * j) + nI 2).toNatClampNeg)]) (rest := []) ⟨hx, hb, hml, hown, hB⟩ (kw_M_load l dC dI r cI cZ _ τ (xs (nI (4 * j) + nI 1).toNatClampNeg) (xs (nI (4 * j) + nI 2).toNatClampNeg) b1 τ1 h3) ⟨callB_of 2 hB (gi_ lk_768) rfl rfl rfl (hB _ lk_7) (hB _ lk_765) (by decide +kernel) ⟨(Nat.le_of_ble_eq_true rfl), (Nat.le_of_ble_eq_true rfl)⟩, hB _ lk_766, hB _ lk_767⟩ ⟨bl_, va_recv (ci := 6) (q0 := 0) hKc hPm rfl rfl, pre_ hPm hKc hDm hN⟩ rfl rfl hl.1 rfl (lv_room (Nat.le_of_ble_eq_true rfl)) nd_L_law_600 ⟨by omega, by omega⟩) hP hD hS hA (fun H locs hP hD hS => ?_)
  refine lv_istore (lv' := [(6, .int b1), (5, .int k), (0, .ref b), (1, .ref (q 0)), (2, .ref (r 0)), (3, .ref qo), (4, .int (nI (4 * j)))]) hx hb nd_L_law_603 hl (by decide) rfl (fun ls hl => ?_)
  refine lv_aload_n hx hb nd_L_law_605 rfl (lv_at hl 4 rfl) ?_
  have hPm : va_P (dC, dI) vwCl (wd_M r cI cZ τ1) H := hP.sub [17, 18, 19, 20, 21, 22, 23, 24, 25, 26] rfl
  have hDm : va_D A (wd_M r cI cZ τ1) := hD.sub [17, 18, 19, 20, 21, 22, 23, 24, 25, 26] (by decide) rfl
  refine lc_m (va_runV (C := "MovedFramesModel") (As := []) (rest := []) ⟨hx, hb, hml, hown, hB⟩ (kw_M_thrown l dC dI r cI cZ _ τ1 (gm_th τ1) rfl) ⟨callB_of 0 hB (gi_ lk_666) rfl rfl rfl (hB _ lk_7) (hB _ lk_663) (by decide +kernel) ⟨(Nat.le_of_ble_eq_true rfl), (Nat.le_of_ble_eq_true rfl)⟩, hB _ lk_664, hB _ lk_665⟩ ⟨bl_, va_recv (ci := 6) (q0 := 0) hKc hPm rfl rfl, pre_ hPm hKc hDm hN⟩ rfl rfl hl.1 rfl (lv_room (Nat.le_of_ble_eq_true rfl)) nd_L_law_606 ⟨by omega, by omega⟩) hP hD hS hA (fun H locs hP hD hS => ?_)
  refine lv_iload hx hb nd_L_law_609 (lv_at hl 1 rfl) ?_
  refine lv_icmp_eq (tgt := 616) hx hb nd_L_law_611 (by decide) (fun hc9 => ?_) (fun hc9 => absurd hth hc9)
  refine lv_iload hx hb nd_L_law_616 (lv_at hl 1 rfl) ?_
  refine lv_if_ne (tgt := 633) hx hb nd_L_law_618 (by decide) (fun hc9 => ?_) (fun hk0 => ?_)
  · refine lv_goto (tgt := 958) hx hb nd_L_law_633 (by decide) ?_
    refine W.widen (k := cells + 1) (n := slots + 6) (by omega) (by omega) ?_
    exact kinc _ _ _ hI _ _ _ (lv_sub hl [2, 3, 4, 5, 6] rfl) hP hD hS
  · refine lv_aload_n hx hb nd_L_law_621 rfl (lv_at hl 5 rfl) ?_
    refine lv_iconst (v := 0) hx hb nd_L_law_622 (by decide) ?_
    refine va_lald hx hb hK hP 16 2 rfl rfl (by unfold vp_in; decide) nd_L_law_623 ?_
    refine lv_iload hx hb nd_L_law_624 (lv_at hl 0 rfl) ?_
    refine lv_i2l (v := b1.toInt64) hx hb nd_L_law_626 rfl ?_
    refine W.lcmp hx hb nd_L_law_627 ?_
    have hob : o1 (0 : Int32).toNatClampNeg = b1.toInt64 := by rw [← ho1, if_pos (hn0 hk0), hvb hk0]; rfl
    refine lv_if_eq (tgt := 633) hx hb nd_L_law_628 (by decide) (fun hc9 => ?_) (fun hc9 => absurd ((lg_cmp_eq _ _).mpr hob) hc9)
    refine lv_goto (tgt := 958) hx hb nd_L_law_633 (by decide) ?_
    refine W.widen (k := cells + 1) (n := slots + 6) (by omega) (by omega) ?_
    exact kinc _ _ _ hI _ _ _ (lv_sub hl [2, 3, 4, 5, 6] rfl) hP hD hS
set_option maxHeartbeats 4000000 in
set_option maxRecDepth 100000 in
theorem la_9 {Inv : CS → MS → Prop} (hX : lx_ p l s m meth c b L xs (dC, dI) cI cZ cJ A) (hj : 4 * j + 4 ≤ L) (hL : L ≤ 2048) (hc : cells + 1 ≤ room_1.cells) (hs : slots + 6 ≤ room_1.slots) (hst : st_9 Inv σ τ (xs (nI (4 * j) + nI 1).toNatClampNeg) (xs (nI (4 * j) + nI 2).toNatClampNeg) (xs (nI (4 * j) + nI 3).toNatClampNeg))
    (kinc : ∀ (σ1 : CS) (o1 : Nat → Int64) (τ1 : MS), Inv σ1 τ1 → bw_ p l e s m below meth c Q A (dC, dI) q r qo cI cZ cJ b (cells + 1) (slots + 6) 958 [(0, .ref b), (1, .ref (q 0)), (2, .ref (r 0)), (3, .ref qo), (4, .int (nI (4 * j)))] [] (σ1, o1, τ1)) :
    bw_ p l e s m below meth c Q A (dC, dI) q r qo cI cZ cJ b cells slots 636 [(0, .ref b), (1, .ref (q 0)), (2, .ref (r 0)), (3, .ref qo), (4, .int (nI (4 * j)))] [] (σ, o, τ) := by
  obtain ⟨hx, hb, hr, hml, hown, hB, hXs, hbl, hbA, hlocks, hK, hN, hT, hZ, hC, hA, hAA, htr⟩ := hX
  have hKc : va_K (dC, dI) vwCl [(cI, .int), (cZ, .boolean)] s := hK.sub [0, 1] rfl
  obtain ⟨v, n, k, σ1, τ1, h1, h2, h3, hth, hvb, hI⟩ := hst
  intro ls H locs hl hP hD hS
  refine lv_aload_n hx hb nd_L_law_636 rfl (lv_at hl 1 rfl) ?_
  refine lv_aload_n hx hb nd_L_law_637 rfl (lv_at hl 0 rfl) ?_
  refine lv_iload hx hb nd_L_law_638 (lv_at hl 4 rfl) ?_
  refine lv_iconst (v := nI 1) hx hb nd_L_law_640 (by decide) ?_
  refine lv_iadd hx hb nd_L_law_641 ?_
  refine va_sld hx hb hXs hbl hbA hS (sc_in hj hL (by decide)) nd_L_law_642 ?_
  refine lv_aload_n hx hb nd_L_law_643 rfl (lv_at hl 0 rfl) ?_
  refine lv_iload hx hb nd_L_law_644 (lv_at hl 4 rfl) ?_
  refine lv_iconst (v := nI 2) hx hb nd_L_law_646 (by decide) ?_
  refine lv_iadd hx hb nd_L_law_647 ?_
  refine va_sld hx hb hXs hbl hbA hS (sc_in hj hL (by decide)) nd_L_law_648 ?_
  refine lv_aload_n hx hb nd_L_law_649 rfl (lv_at hl 0 rfl) ?_
  refine lv_iload hx hb nd_L_law_650 (lv_at hl 4 rfl) ?_
  refine lv_iconst (v := nI 3) hx hb nd_L_law_652 (by decide) ?_
  refine lv_iadd hx hb nd_L_law_653 ?_
  refine va_sld hx hb hXs hbl hbA hS (sc_in hj hL (by decide)) nd_L_law_654 ?_
  have hPh : va_P (dC, dI) vwCl (wh_ q qo cI cZ cJ (σ, o)) H := hP.sub [0, 1, 2, 3, 4, 5, 6, 7, 8, 9, 10, 11, 12, 13, 14, 15, 16] rfl
  have hDh : va_D A (wh_ q qo cI cZ cJ (σ, o)) := hD.sub [0, 1, 2, 3, 4, 5, 6, 7, 8, 9, 10, 11, 12, 13, 14, 15, 16] (by decide) rfl
  refine lc_h (vx_runSW (As := [.ref (q 0), .int (xs (nI (4 * j) + nI 1).toNatClampNeg), .int (xs (nI (4 * j) + nI 2).toNatClampNeg), .int (xs (nI (4 * j) + nI 3).toNatClampNeg)]) (rest := []) ⟨hx, hb, hml, hown, hB⟩ (kh_L_store l dC dI q qo cI cZ cJ _ σ o (xs (nI (4 * j) + nI 1).toNatClampNeg) (xs (nI (4 * j) + nI 2).toNatClampNeg) (xs (nI (4 * j) + nI 3).toNatClampNeg) v n σ1 k htr h2 h1) (csw_ 4 hB (gi_ lk_558) rfl rfl rfl (hB _ lk_0) (hB _ lk_556) (hB _ lk_557) (by decide +kernel) ⟨(Nat.le_of_ble_eq_true rfl), (Nat.le_of_ble_eq_true rfl)⟩) ⟨blh_, preh_ hPh hK hDh hN hT hZ hC hS hA⟩ rfl rfl hl.1 rfl (lv_room (Nat.le_of_ble_eq_true rfl)) nd_L_law_655 ⟨hc, hs⟩) hP hD hS hA (fun H locs hP hD hS => ?_)
  refine lv_istore (lv' := [(5, .int k), (0, .ref b), (1, .ref (q 0)), (2, .ref (r 0)), (3, .ref qo), (4, .int (nI (4 * j)))]) hx hb nd_L_law_658 hl (by decide) rfl (fun ls hl => ?_)
  refine lv_aload_n hx hb nd_L_law_660 rfl (lv_at hl 3 rfl) ?_
  refine lv_aload_n hx hb nd_L_law_661 rfl (lv_at hl 1 rfl) ?_
  refine lv_iload hx hb nd_L_law_662 (lv_at hl 5 rfl) ?_
  refine lv_iconst (v := nI 1) hx hb nd_L_law_664 (by decide) ?_
  refine lv_iadd hx hb nd_L_law_665 ?_
  refine va_sld hx hb hXs hbl hbA hS (sc_in hj hL (by decide)) nd_L_law_666 ?_
  refine lv_aload_n hx hb nd_L_law_667 rfl (lv_at hl 1 rfl) ?_
  refine lv_iload hx hb nd_L_law_668 (lv_at hl 5 rfl) ?_
  refine lv_iconst (v := nI 2) hx hb nd_L_law_670 (by decide) ?_
  refine lv_iadd hx hb nd_L_law_671 ?_
  refine va_sld hx hb hXs hbl hbA hS (sc_in hj hL (by decide)) nd_L_law_672 ?_
  refine lv_aload_n hx hb nd_L_law_673 rfl (lv_at hl 1 rfl) ?_
  refine lv_iload hx hb nd_L_law_674 (lv_at hl 5 rfl) ?_
  refine lv_iconst (v := nI 3) hx hb nd_L_law_676 (by decide) ?_
  refine lv_iadd hx hb nd_L_law_677 ?_
  refine va_sld hx hb hXs hbl hbA hS (sc_in hj hL (by decide)) nd_L_law_678 ?_
  have hPm : va_P (dC, dI) vwCl (wd_M r cI cZ τ) H := hP.sub [17, 18, 19, 20, 21, 22, 23, 24, 25, 26] rfl
  have hDm : va_D A (wd_M r cI cZ τ) := hD.sub [17, 18, 19, 20, 21, 22, 23, 24, 25, 26] (by decide) rfl
  refine lc_mv (va_runV (C := "MovedFramesModel") (As := [.int (xs (nI (4 * j) + nI 1).toNatClampNeg), .int (xs (nI (4 * j) + nI 2).toNatClampNeg), .int (xs (nI (4 * j) + nI 3).toNatClampNeg)]) (rest := []) ⟨hx, hb, hml, hown, hB⟩ (kw_M_store l dC dI r cI cZ _ τ (xs (nI (4 * j) + nI 1).toNatClampNeg) (xs (nI (4 * j) + nI 2).toNatClampNeg) (xs (nI (4 * j) + nI 3).toNatClampNeg) τ1 h3) ⟨callB_of 3 hB (gi_ lk_780) rfl rfl rfl (hB _ lk_7) (hB _ lk_777) (by decide +kernel) ⟨(Nat.le_of_ble_eq_true rfl), (Nat.le_of_ble_eq_true rfl)⟩, hB _ lk_778, hB _ lk_779⟩ ⟨bl_, va_recv (ci := 6) (q0 := 0) hKc hPm rfl rfl, pre_ hPm hKc hDm hN⟩ rfl rfl hl.1 rfl (lv_room (Nat.le_of_ble_eq_true rfl)) nd_L_law_679 ⟨by omega, by omega⟩) hP hD hS hA (fun H locs hP hD hS => ?_)
  refine lv_aload_n hx hb nd_L_law_682 rfl (lv_at hl 3 rfl) ?_
  have hPm : va_P (dC, dI) vwCl (wd_M r cI cZ τ1) H := hP.sub [17, 18, 19, 20, 21, 22, 23, 24, 25, 26] rfl
  have hDm : va_D A (wd_M r cI cZ τ1) := hD.sub [17, 18, 19, 20, 21, 22, 23, 24, 25, 26] (by decide) rfl
  refine lc_m (va_runV (C := "MovedFramesModel") (As := []) (rest := []) ⟨hx, hb, hml, hown, hB⟩ (kw_M_thrown l dC dI r cI cZ _ τ1 (gm_th τ1) rfl) ⟨callB_of 0 hB (gi_ lk_666) rfl rfl rfl (hB _ lk_7) (hB _ lk_663) (by decide +kernel) ⟨(Nat.le_of_ble_eq_true rfl), (Nat.le_of_ble_eq_true rfl)⟩, hB _ lk_664, hB _ lk_665⟩ ⟨bl_, va_recv (ci := 6) (q0 := 0) hKc hPm rfl rfl, pre_ hPm hKc hDm hN⟩ rfl rfl hl.1 rfl (lv_room (Nat.le_of_ble_eq_true rfl)) nd_L_law_683 ⟨by omega, by omega⟩) hP hD hS hA (fun H locs hP hD hS => ?_)
  refine lv_iload hx hb nd_L_law_686 (lv_at hl 0 rfl) ?_
  refine lv_icmp_eq (tgt := 693) hx hb nd_L_law_688 (by decide) (fun hc9 => ?_) (fun hc9 => absurd hth hc9)
  refine lv_goto (tgt := 958) hx hb nd_L_law_693 (by decide) ?_
  refine W.widen (k := cells + 1) (n := slots + 6) (by omega) (by omega) ?_
  exact kinc _ _ _ hI _ _ _ (lv_sub hl [1, 2, 3, 4, 5] rfl) hP hD hS
set_option maxHeartbeats 4000000 in
set_option maxRecDepth 100000 in
theorem la_10 {Inv : CS → MS → Prop} (hX : lx_ p l s m meth c b L xs (dC, dI) cI cZ cJ A) (hj : 4 * j + 4 ≤ L) (hL : L ≤ 2048) (hc : cells + 1 ≤ room_1.cells) (hs : slots + 6 ≤ room_1.slots) (hst : st_10 Inv σ τ (xs (nI (4 * j) + nI 1).toNatClampNeg) (xs (nI (4 * j) + nI 2).toNatClampNeg) (xs (nI (4 * j) + nI 3).toNatClampNeg))
    (kinc : ∀ (σ1 : CS) (o1 : Nat → Int64) (τ1 : MS), Inv σ1 τ1 → bw_ p l e s m below meth c Q A (dC, dI) q r qo cI cZ cJ b (cells + 1) (slots + 6) 958 [(0, .ref b), (1, .ref (q 0)), (2, .ref (r 0)), (3, .ref qo), (4, .int (nI (4 * j)))] [] (σ1, o1, τ1)) :
    bw_ p l e s m below meth c Q A (dC, dI) q r qo cI cZ cJ b cells slots 696 [(0, .ref b), (1, .ref (q 0)), (2, .ref (r 0)), (3, .ref qo), (4, .int (nI (4 * j)))] [] (σ, o, τ) := by
  obtain ⟨hx, hb, hr, hml, hown, hB, hXs, hbl, hbA, hlocks, hK, hN, hT, hZ, hC, hA, hAA, htr⟩ := hX
  have hKc : va_K (dC, dI) vwCl [(cI, .int), (cZ, .boolean)] s := hK.sub [0, 1] rfl
  obtain ⟨v, n, k, σ1, b1, τ1, h1, h2, h3, hth, hvb, hI⟩ := hst
  intro ls H locs hl hP hD hS
  have hn0 : k = 0 → n = 0 := fun hk0 => by
    rcases h2 with ⟨e0, _⟩ | ⟨_, e0⟩ | ⟨_, e0⟩
    · exact e0
    · exact absurd (hk0.symm.trans e0) (by decide)
    · exact absurd (hk0.symm.trans e0) (by decide)
  refine lv_aload_n hx hb nd_L_law_696 rfl (lv_at hl 1 rfl) ?_
  refine lv_aload_n hx hb nd_L_law_697 rfl (lv_at hl 0 rfl) ?_
  refine lv_iload hx hb nd_L_law_698 (lv_at hl 4 rfl) ?_
  refine lv_iconst (v := nI 1) hx hb nd_L_law_700 (by decide) ?_
  refine lv_iadd hx hb nd_L_law_701 ?_
  refine va_sld hx hb hXs hbl hbA hS (sc_in hj hL (by decide)) nd_L_law_702 ?_
  refine lv_aload_n hx hb nd_L_law_703 rfl (lv_at hl 3 rfl) ?_
  have hPh : va_P (dC, dI) vwCl (wh_ q qo cI cZ cJ (σ, o)) H := hP.sub [0, 1, 2, 3, 4, 5, 6, 7, 8, 9, 10, 11, 12, 13, 14, 15, 16] rfl
  have hDh : va_D A (wh_ q qo cI cZ cJ (σ, o)) := hD.sub [0, 1, 2, 3, 4, 5, 6, 7, 8, 9, 10, 11, 12, 13, 14, 15, 16] (by decide) rfl
  refine lc_h (vx_runSW (As := [.ref (q 0), .int (xs (nI (4 * j) + nI 1).toNatClampNeg), .ref qo]) (rest := []) ⟨hx, hb, hml, hown, hB⟩ (kh_L_contig l dC dI q qo cI cZ cJ _ σ o (xs (nI (4 * j) + nI 1).toNatClampNeg) v n σ1 k htr h2 h1) (csw_ 3 hB (gi_ lk_566) rfl rfl rfl (hB _ lk_0) (hB _ lk_564) (hB _ lk_565) (by decide +kernel) ⟨(Nat.le_of_ble_eq_true rfl), (Nat.le_of_ble_eq_true rfl)⟩) ⟨blh_, preh_ hPh hK hDh hN hT hZ hC hS hA⟩ rfl rfl hl.1 rfl (lv_room (Nat.le_of_ble_eq_true rfl)) nd_L_law_704 ⟨hc, hs⟩) hP hD hS hA (fun H locs hP hD hS => ?_)
  generalize ho1 : (if n = 0 then vp_updL o 0 v.toInt64 else o) = o1 at hP hD
  refine lv_istore (lv' := [(5, .int k), (0, .ref b), (1, .ref (q 0)), (2, .ref (r 0)), (3, .ref qo), (4, .int (nI (4 * j)))]) hx hb nd_L_law_707 hl (by decide) rfl (fun ls hl => ?_)
  refine lv_aload_n hx hb nd_L_law_709 rfl (lv_at hl 3 rfl) ?_
  refine lv_aload_n hx hb nd_L_law_710 rfl (lv_at hl 1 rfl) ?_
  refine lv_iload hx hb nd_L_law_711 (lv_at hl 5 rfl) ?_
  refine lv_iconst (v := nI 1) hx hb nd_L_law_713 (by decide) ?_
  refine lv_iadd hx hb nd_L_law_714 ?_
  refine va_sld hx hb hXs hbl hbA hS (sc_in hj hL (by decide)) nd_L_law_715 ?_
  have hPm : va_P (dC, dI) vwCl (wd_M r cI cZ τ) H := hP.sub [17, 18, 19, 20, 21, 22, 23, 24, 25, 26] rfl
  have hDm : va_D A (wd_M r cI cZ τ) := hD.sub [17, 18, 19, 20, 21, 22, 23, 24, 25, 26] (by decide) rfl
  refine lc_m (va_runV (C := "MovedFramesModel") (As := [.int (xs (nI (4 * j) + nI 1).toNatClampNeg)]) (rest := []) ⟨hx, hb, hml, hown, hB⟩ (kw_M_contig l dC dI r cI cZ _ τ (xs (nI (4 * j) + nI 1).toNatClampNeg) b1 τ1 h3) ⟨callB_of 1 hB (gi_ lk_784) rfl rfl rfl (hB _ lk_7) (hB _ lk_781) (by decide +kernel) ⟨(Nat.le_of_ble_eq_true rfl), (Nat.le_of_ble_eq_true rfl)⟩, hB _ lk_782, hB _ lk_783⟩ ⟨bl_, va_recv (ci := 6) (q0 := 0) hKc hPm rfl rfl, pre_ hPm hKc hDm hN⟩ rfl rfl hl.1 rfl (lv_room (Nat.le_of_ble_eq_true rfl)) nd_L_law_716 ⟨by omega, by omega⟩) hP hD hS hA (fun H locs hP hD hS => ?_)
  refine lv_istore (lv' := [(6, .int b1), (5, .int k), (0, .ref b), (1, .ref (q 0)), (2, .ref (r 0)), (3, .ref qo), (4, .int (nI (4 * j)))]) hx hb nd_L_law_719 hl (by decide) rfl (fun ls hl => ?_)
  refine lv_aload_n hx hb nd_L_law_721 rfl (lv_at hl 4 rfl) ?_
  have hPm : va_P (dC, dI) vwCl (wd_M r cI cZ τ1) H := hP.sub [17, 18, 19, 20, 21, 22, 23, 24, 25, 26] rfl
  have hDm : va_D A (wd_M r cI cZ τ1) := hD.sub [17, 18, 19, 20, 21, 22, 23, 24, 25, 26] (by decide) rfl
  refine lc_m (va_runV (C := "MovedFramesModel") (As := []) (rest := []) ⟨hx, hb, hml, hown, hB⟩ (kw_M_thrown l dC dI r cI cZ _ τ1 (gm_th τ1) rfl) ⟨callB_of 0 hB (gi_ lk_666) rfl rfl rfl (hB _ lk_7) (hB _ lk_663) (by decide +kernel) ⟨(Nat.le_of_ble_eq_true rfl), (Nat.le_of_ble_eq_true rfl)⟩, hB _ lk_664, hB _ lk_665⟩ ⟨bl_, va_recv (ci := 6) (q0 := 0) hKc hPm rfl rfl, pre_ hPm hKc hDm hN⟩ rfl rfl hl.1 rfl (lv_room (Nat.le_of_ble_eq_true rfl)) nd_L_law_722 ⟨by omega, by omega⟩) hP hD hS hA (fun H locs hP hD hS => ?_)
  refine lv_iload hx hb nd_L_law_725 (lv_at hl 1 rfl) ?_
  refine lv_icmp_eq (tgt := 732) hx hb nd_L_law_727 (by decide) (fun hc9 => ?_) (fun hc9 => absurd hth hc9)
  refine lv_iload hx hb nd_L_law_732 (lv_at hl 1 rfl) ?_
  refine lv_if_ne (tgt := 749) hx hb nd_L_law_734 (by decide) (fun hc9 => ?_) (fun hk0 => ?_)
  · refine lv_goto (tgt := 958) hx hb nd_L_law_749 (by decide) ?_
    refine W.widen (k := cells + 1) (n := slots + 6) (by omega) (by omega) ?_
    exact kinc _ _ _ hI _ _ _ (lv_sub hl [2, 3, 4, 5, 6] rfl) hP hD hS
  · refine lv_aload_n hx hb nd_L_law_737 rfl (lv_at hl 5 rfl) ?_
    refine lv_iconst (v := 0) hx hb nd_L_law_738 (by decide) ?_
    refine va_lald hx hb hK hP 16 2 rfl rfl (by unfold vp_in; decide) nd_L_law_739 ?_
    refine lv_iload hx hb nd_L_law_740 (lv_at hl 0 rfl) ?_
    refine lv_i2l (v := b1.toInt64) hx hb nd_L_law_742 rfl ?_
    refine W.lcmp hx hb nd_L_law_743 ?_
    have hob : o1 (0 : Int32).toNatClampNeg = b1.toInt64 := by rw [← ho1, if_pos (hn0 hk0), hvb hk0]; rfl
    refine lv_if_eq (tgt := 749) hx hb nd_L_law_744 (by decide) (fun hc9 => ?_) (fun hc9 => absurd ((lg_cmp_eq _ _).mpr hob) hc9)
    refine lv_goto (tgt := 958) hx hb nd_L_law_749 (by decide) ?_
    refine W.widen (k := cells + 1) (n := slots + 6) (by omega) (by omega) ?_
    exact kinc _ _ _ hI _ _ _ (lv_sub hl [2, 3, 4, 5, 6] rfl) hP hD hS
set_option maxHeartbeats 4000000 in
set_option maxRecDepth 100000 in
theorem la_11 {Inv : CS → MS → Prop} (hX : lx_ p l s m meth c b L xs (dC, dI) cI cZ cJ A) (hj : 4 * j + 4 ≤ L) (hL : L ≤ 2048) (hc : cells + 1 ≤ room_1.cells) (hs : slots + 6 ≤ room_1.slots) (hst : st_11 Inv σ τ (xs (nI (4 * j) + nI 1).toNatClampNeg) (xs (nI (4 * j) + nI 2).toNatClampNeg) (xs (nI (4 * j) + nI 3).toNatClampNeg))
    (kinc : ∀ (σ1 : CS) (o1 : Nat → Int64) (τ1 : MS), Inv σ1 τ1 → bw_ p l e s m below meth c Q A (dC, dI) q r qo cI cZ cJ b (cells + 1) (slots + 6) 958 [(0, .ref b), (1, .ref (q 0)), (2, .ref (r 0)), (3, .ref qo), (4, .int (nI (4 * j)))] [] (σ1, o1, τ1)) :
    bw_ p l e s m below meth c Q A (dC, dI) q r qo cI cZ cJ b cells slots 752 [(0, .ref b), (1, .ref (q 0)), (2, .ref (r 0)), (3, .ref qo), (4, .int (nI (4 * j)))] [] (σ, o, τ) := by
  obtain ⟨hx, hb, hr, hml, hown, hB, hXs, hbl, hbA, hlocks, hK, hN, hT, hZ, hC, hA, hAA, htr⟩ := hX
  have hKc : va_K (dC, dI) vwCl [(cI, .int), (cZ, .boolean)] s := hK.sub [0, 1] rfl
  obtain ⟨v, n, k, σ1, b1, τ1, h1, h2, h3, hth, hvb, hI⟩ := hst
  intro ls H locs hl hP hD hS
  have hn0 : k = 0 → n = 0 := fun hk0 => by
    rcases h2 with ⟨e0, _⟩ | ⟨_, e0⟩
    · exact e0
    · exact absurd (hk0.symm.trans e0) (by decide)
  refine lv_aload_n hx hb nd_L_law_752 rfl (lv_at hl 1 rfl) ?_
  refine lv_aload_n hx hb nd_L_law_753 rfl (lv_at hl 0 rfl) ?_
  refine lv_iload hx hb nd_L_law_754 (lv_at hl 4 rfl) ?_
  refine lv_iconst (v := nI 1) hx hb nd_L_law_756 (by decide) ?_
  refine lv_iadd hx hb nd_L_law_757 ?_
  refine va_sld hx hb hXs hbl hbA hS (sc_in hj hL (by decide)) nd_L_law_758 ?_
  refine lv_aload_n hx hb nd_L_law_759 rfl (lv_at hl 3 rfl) ?_
  have hPh : va_P (dC, dI) vwCl (wh_ q qo cI cZ cJ (σ, o)) H := hP.sub [0, 1, 2, 3, 4, 5, 6, 7, 8, 9, 10, 11, 12, 13, 14, 15, 16] rfl
  have hDh : va_D A (wh_ q qo cI cZ cJ (σ, o)) := hD.sub [0, 1, 2, 3, 4, 5, 6, 7, 8, 9, 10, 11, 12, 13, 14, 15, 16] (by decide) rfl
  refine lc_h (vx_runSW (As := [.ref (q 0), .int (xs (nI (4 * j) + nI 1).toNatClampNeg), .ref qo]) (rest := []) ⟨hx, hb, hml, hown, hB⟩ (kh_L_release l dC dI q qo cI cZ cJ _ σ o (xs (nI (4 * j) + nI 1).toNatClampNeg) v n σ1 k htr h2 h1) (csw_ 3 hB (gi_ lk_612) rfl rfl rfl (hB _ lk_0) (hB _ lk_610) (hB _ lk_611) (by decide +kernel) ⟨(Nat.le_of_ble_eq_true rfl), (Nat.le_of_ble_eq_true rfl)⟩) ⟨blh_, preh_ hPh hK hDh hN hT hZ hC hS hA⟩ rfl rfl hl.1 rfl (lv_room (Nat.le_of_ble_eq_true rfl)) nd_L_law_760 ⟨hc, hs⟩) hP hD hS hA (fun H locs hP hD hS => ?_)
  generalize ho1 : (if n = 0 then vp_updL o 0 v.toInt64 else o) = o1 at hP hD
  refine lv_istore (lv' := [(5, .int k), (0, .ref b), (1, .ref (q 0)), (2, .ref (r 0)), (3, .ref qo), (4, .int (nI (4 * j)))]) hx hb nd_L_law_763 hl (by decide) rfl (fun ls hl => ?_)
  refine lv_aload_n hx hb nd_L_law_765 rfl (lv_at hl 3 rfl) ?_
  refine lv_aload_n hx hb nd_L_law_766 rfl (lv_at hl 1 rfl) ?_
  refine lv_iload hx hb nd_L_law_767 (lv_at hl 5 rfl) ?_
  refine lv_iconst (v := nI 1) hx hb nd_L_law_769 (by decide) ?_
  refine lv_iadd hx hb nd_L_law_770 ?_
  refine va_sld hx hb hXs hbl hbA hS (sc_in hj hL (by decide)) nd_L_law_771 ?_
  have hPm : va_P (dC, dI) vwCl (wd_M r cI cZ τ) H := hP.sub [17, 18, 19, 20, 21, 22, 23, 24, 25, 26] rfl
  have hDm : va_D A (wd_M r cI cZ τ) := hD.sub [17, 18, 19, 20, 21, 22, 23, 24, 25, 26] (by decide) rfl
  refine lc_m (va_runV (C := "MovedFramesModel") (As := [.int (xs (nI (4 * j) + nI 1).toNatClampNeg)]) (rest := []) ⟨hx, hb, hml, hown, hB⟩ (kw_M_release l dC dI r cI cZ _ τ (xs (nI (4 * j) + nI 1).toNatClampNeg) b1 τ1 h3) ⟨callB_of 1 hB (gi_ lk_800) rfl rfl rfl (hB _ lk_7) (hB _ lk_797) (by decide +kernel) ⟨(Nat.le_of_ble_eq_true rfl), (Nat.le_of_ble_eq_true rfl)⟩, hB _ lk_798, hB _ lk_799⟩ ⟨bl_, va_recv (ci := 6) (q0 := 0) hKc hPm rfl rfl, pre_ hPm hKc hDm hN⟩ rfl rfl hl.1 rfl (lv_room (Nat.le_of_ble_eq_true rfl)) nd_L_law_772 ⟨by omega, by omega⟩) hP hD hS hA (fun H locs hP hD hS => ?_)
  refine lv_istore (lv' := [(6, .int b1), (5, .int k), (0, .ref b), (1, .ref (q 0)), (2, .ref (r 0)), (3, .ref qo), (4, .int (nI (4 * j)))]) hx hb nd_L_law_775 hl (by decide) rfl (fun ls hl => ?_)
  refine lv_aload_n hx hb nd_L_law_777 rfl (lv_at hl 4 rfl) ?_
  have hPm : va_P (dC, dI) vwCl (wd_M r cI cZ τ1) H := hP.sub [17, 18, 19, 20, 21, 22, 23, 24, 25, 26] rfl
  have hDm : va_D A (wd_M r cI cZ τ1) := hD.sub [17, 18, 19, 20, 21, 22, 23, 24, 25, 26] (by decide) rfl
  refine lc_m (va_runV (C := "MovedFramesModel") (As := []) (rest := []) ⟨hx, hb, hml, hown, hB⟩ (kw_M_thrown l dC dI r cI cZ _ τ1 (gm_th τ1) rfl) ⟨callB_of 0 hB (gi_ lk_666) rfl rfl rfl (hB _ lk_7) (hB _ lk_663) (by decide +kernel) ⟨(Nat.le_of_ble_eq_true rfl), (Nat.le_of_ble_eq_true rfl)⟩, hB _ lk_664, hB _ lk_665⟩ ⟨bl_, va_recv (ci := 6) (q0 := 0) hKc hPm rfl rfl, pre_ hPm hKc hDm hN⟩ rfl rfl hl.1 rfl (lv_room (Nat.le_of_ble_eq_true rfl)) nd_L_law_778 ⟨by omega, by omega⟩) hP hD hS hA (fun H locs hP hD hS => ?_)
  refine lv_iload hx hb nd_L_law_781 (lv_at hl 1 rfl) ?_
  refine lv_icmp_eq (tgt := 788) hx hb nd_L_law_783 (by decide) (fun hc9 => ?_) (fun hc9 => absurd hth hc9)
  refine lv_iload hx hb nd_L_law_788 (lv_at hl 1 rfl) ?_
  refine lv_if_ne (tgt := 805) hx hb nd_L_law_790 (by decide) (fun hc9 => ?_) (fun hk0 => ?_)
  · refine lv_goto (tgt := 958) hx hb nd_L_law_805 (by decide) ?_
    refine W.widen (k := cells + 1) (n := slots + 6) (by omega) (by omega) ?_
    exact kinc _ _ _ hI _ _ _ (lv_sub hl [2, 3, 4, 5, 6] rfl) hP hD hS
  · refine lv_aload_n hx hb nd_L_law_793 rfl (lv_at hl 5 rfl) ?_
    refine lv_iconst (v := 0) hx hb nd_L_law_794 (by decide) ?_
    refine va_lald hx hb hK hP 16 2 rfl rfl (by unfold vp_in; decide) nd_L_law_795 ?_
    refine lv_iload hx hb nd_L_law_796 (lv_at hl 0 rfl) ?_
    refine lv_i2l (v := b1.toInt64) hx hb nd_L_law_798 rfl ?_
    refine W.lcmp hx hb nd_L_law_799 ?_
    have hob : o1 (0 : Int32).toNatClampNeg = b1.toInt64 := by rw [← ho1, if_pos (hn0 hk0), hvb hk0]; rfl
    refine lv_if_eq (tgt := 805) hx hb nd_L_law_800 (by decide) (fun hc9 => ?_) (fun hc9 => absurd ((lg_cmp_eq _ _).mpr hob) hc9)
    refine lv_goto (tgt := 958) hx hb nd_L_law_805 (by decide) ?_
    refine W.widen (k := cells + 1) (n := slots + 6) (by omega) (by omega) ?_
    exact kinc _ _ _ hI _ _ _ (lv_sub hl [2, 3, 4, 5, 6] rfl) hP hD hS
set_option maxHeartbeats 4000000 in
set_option maxRecDepth 100000 in
theorem la_12 {Inv : CS → MS → Prop} (hX : lx_ p l s m meth c b L xs (dC, dI) cI cZ cJ A) (hj : 4 * j + 4 ≤ L) (hL : L ≤ 2048) (hc : cells + 1 ≤ room_1.cells) (hs : slots + 6 ≤ room_1.slots) (hst : st_12 Inv σ τ (xs (nI (4 * j) + nI 1).toNatClampNeg) (xs (nI (4 * j) + nI 2).toNatClampNeg) (xs (nI (4 * j) + nI 3).toNatClampNeg))
    (kinc : ∀ (σ1 : CS) (o1 : Nat → Int64) (τ1 : MS), Inv σ1 τ1 → bw_ p l e s m below meth c Q A (dC, dI) q r qo cI cZ cJ b (cells + 1) (slots + 6) 958 [(0, .ref b), (1, .ref (q 0)), (2, .ref (r 0)), (3, .ref qo), (4, .int (nI (4 * j)))] [] (σ1, o1, τ1)) :
    bw_ p l e s m below meth c Q A (dC, dI) q r qo cI cZ cJ b cells slots 808 [(0, .ref b), (1, .ref (q 0)), (2, .ref (r 0)), (3, .ref qo), (4, .int (nI (4 * j)))] [] (σ, o, τ) := by
  obtain ⟨hx, hb, hr, hml, hown, hB, hXs, hbl, hbA, hlocks, hK, hN, hT, hZ, hC, hA, hAA, htr⟩ := hX
  have hKc : va_K (dC, dI) vwCl [(cI, .int), (cZ, .boolean)] s := hK.sub [0, 1] rfl
  obtain ⟨v, b1, τ1, h1, h3, hvb, hI⟩ := hst
  intro ls H locs hl hP hD hS
  refine lv_aload_n hx hb nd_L_law_808 rfl (lv_at hl 1 rfl) ?_
  refine lv_aload_n hx hb nd_L_law_809 rfl (lv_at hl 0 rfl) ?_
  refine lv_iload hx hb nd_L_law_810 (lv_at hl 4 rfl) ?_
  refine lv_iconst (v := nI 1) hx hb nd_L_law_812 (by decide) ?_
  refine lv_iadd hx hb nd_L_law_813 ?_
  refine va_sld hx hb hXs hbl hbA hS (sc_in hj hL (by decide)) nd_L_law_814 ?_
  have hPc : va_P (dC, dI) vwCl (wd_C q cI cZ σ) H := hP.sub [0, 1, 2, 3, 4, 5, 6, 7, 8, 9, 10, 11, 12, 13, 14, 15] rfl
  have hDc : va_D A (wd_C q cI cZ σ) := hD.sub [0, 1, 2, 3, 4, 5, 6, 7, 8, 9, 10, 11, 12, 13, 14, 15] (by decide) rfl
  refine lc_c (va_runV (C := "MovedFrames") (As := [.int (xs (nI (4 * j) + nI 1).toNatClampNeg)]) (rest := []) ⟨hx, hb, hml, hown, hB⟩ (kw_F_owner l dC dI q cI cZ _ σ (xs (nI (4 * j) + nI 1).toNatClampNeg) v h1) ⟨callB_of 1 hB (gi_ lk_132) rfl rfl rfl (hB _ lk_1) (hB _ lk_129) (by decide +kernel) ⟨(Nat.le_of_ble_eq_true rfl), (Nat.le_of_ble_eq_true rfl)⟩, hB _ lk_130, hB _ lk_131⟩ ⟨bl_, va_recv (ci := 5) (q0 := 0) hKc hPc rfl rfl, pre_ hPc hKc hDc hN⟩ rfl rfl hl.1 rfl (lv_room (Nat.le_of_ble_eq_true rfl)) nd_L_law_815 ⟨by omega, by omega⟩) hP hD hS hA (fun H locs hP hD hS => ?_)
  refine lv_aload_n hx hb nd_L_law_818 rfl (lv_at hl 2 rfl) ?_
  refine lv_aload_n hx hb nd_L_law_819 rfl (lv_at hl 0 rfl) ?_
  refine lv_iload hx hb nd_L_law_820 (lv_at hl 4 rfl) ?_
  refine lv_iconst (v := nI 1) hx hb nd_L_law_822 (by decide) ?_
  refine lv_iadd hx hb nd_L_law_823 ?_
  refine va_sld hx hb hXs hbl hbA hS (sc_in hj hL (by decide)) nd_L_law_824 ?_
  have hPm : va_P (dC, dI) vwCl (wd_M r cI cZ τ) H := hP.sub [17, 18, 19, 20, 21, 22, 23, 24, 25, 26] rfl
  have hDm : va_D A (wd_M r cI cZ τ) := hD.sub [17, 18, 19, 20, 21, 22, 23, 24, 25, 26] (by decide) rfl
  refine lc_m (va_runV (C := "MovedFramesModel") (As := [.int (xs (nI (4 * j) + nI 1).toNatClampNeg)]) (rest := [.int v]) ⟨hx, hb, hml, hown, hB⟩ (kw_M_owner l dC dI r cI cZ _ τ (xs (nI (4 * j) + nI 1).toNatClampNeg) b1 τ1 h3) ⟨callB_of 1 hB (gi_ lk_804) rfl rfl rfl (hB _ lk_7) (hB _ lk_801) (by decide +kernel) ⟨(Nat.le_of_ble_eq_true rfl), (Nat.le_of_ble_eq_true rfl)⟩, hB _ lk_802, hB _ lk_803⟩ ⟨bl_, va_recv (ci := 6) (q0 := 0) hKc hPm rfl rfl, pre_ hPm hKc hDm hN⟩ rfl rfl hl.1 rfl (lv_room (Nat.le_of_ble_eq_true rfl)) nd_L_law_825 ⟨by omega, by omega⟩) hP hD hS hA (fun H locs hP hD hS => ?_)
  refine lv_icmp_eq (tgt := 958) hx hb nd_L_law_828 (by decide) (fun hc9 => ?_) (fun hc9 => absurd hvb hc9)
  refine W.widen (k := cells + 1) (n := slots + 6) (by omega) (by omega) ?_
  exact kinc _ _ _ hI _ _ _ (lv_sub hl [0, 1, 2, 3, 4] rfl) hP hD hS
set_option maxHeartbeats 4000000 in
set_option maxRecDepth 100000 in
theorem la_13 {Inv : CS → MS → Prop} (hX : lx_ p l s m meth c b L xs (dC, dI) cI cZ cJ A) (hj : 4 * j + 4 ≤ L) (hL : L ≤ 2048) (hc : cells + 1 ≤ room_1.cells) (hs : slots + 6 ≤ room_1.slots) (hst : st_13 Inv σ τ (xs (nI (4 * j) + nI 1).toNatClampNeg) (xs (nI (4 * j) + nI 2).toNatClampNeg) (xs (nI (4 * j) + nI 3).toNatClampNeg))
    (kinc : ∀ (σ1 : CS) (o1 : Nat → Int64) (τ1 : MS), Inv σ1 τ1 → bw_ p l e s m below meth c Q A (dC, dI) q r qo cI cZ cJ b (cells + 1) (slots + 6) 958 [(0, .ref b), (1, .ref (q 0)), (2, .ref (r 0)), (3, .ref qo), (4, .int (nI (4 * j)))] [] (σ1, o1, τ1)) :
    bw_ p l e s m below meth c Q A (dC, dI) q r qo cI cZ cJ b cells slots 833 [(0, .ref b), (1, .ref (q 0)), (2, .ref (r 0)), (3, .ref qo), (4, .int (nI (4 * j)))] [] (σ, o, τ) := by
  obtain ⟨hx, hb, hr, hml, hown, hB, hXs, hbl, hbA, hlocks, hK, hN, hT, hZ, hC, hA, hAA, htr⟩ := hX
  have hKc : va_K (dC, dI) vwCl [(cI, .int), (cZ, .boolean)] s := hK.sub [0, 1] rfl
  obtain ⟨v, b1, τ1, h1, h3, hvb, hI⟩ := hst
  intro ls H locs hl hP hD hS
  refine lv_aload_n hx hb nd_L_law_833 rfl (lv_at hl 1 rfl) ?_
  refine lv_aload_n hx hb nd_L_law_834 rfl (lv_at hl 0 rfl) ?_
  refine lv_iload hx hb nd_L_law_835 (lv_at hl 4 rfl) ?_
  refine lv_iconst (v := nI 1) hx hb nd_L_law_837 (by decide) ?_
  refine lv_iadd hx hb nd_L_law_838 ?_
  refine va_sld hx hb hXs hbl hbA hS (sc_in hj hL (by decide)) nd_L_law_839 ?_
  refine lv_aload_n hx hb nd_L_law_840 rfl (lv_at hl 0 rfl) ?_
  refine lv_iload hx hb nd_L_law_841 (lv_at hl 4 rfl) ?_
  refine lv_iconst (v := nI 2) hx hb nd_L_law_843 (by decide) ?_
  refine lv_iadd hx hb nd_L_law_844 ?_
  refine va_sld hx hb hXs hbl hbA hS (sc_in hj hL (by decide)) nd_L_law_845 ?_
  have hPc : va_P (dC, dI) vwCl (wd_C q cI cZ σ) H := hP.sub [0, 1, 2, 3, 4, 5, 6, 7, 8, 9, 10, 11, 12, 13, 14, 15] rfl
  have hDc : va_D A (wd_C q cI cZ σ) := hD.sub [0, 1, 2, 3, 4, 5, 6, 7, 8, 9, 10, 11, 12, 13, 14, 15] (by decide) rfl
  refine lc_c (va_runV (C := "MovedFrames") (As := [.int (xs (nI (4 * j) + nI 1).toNatClampNeg), .int (xs (nI (4 * j) + nI 2).toNatClampNeg)]) (rest := []) ⟨hx, hb, hml, hown, hB⟩ (kw_F_frame l dC dI q cI cZ _ σ (xs (nI (4 * j) + nI 1).toNatClampNeg) (xs (nI (4 * j) + nI 2).toNatClampNeg) v h1) ⟨callB_of 2 hB (gi_ lk_143) rfl rfl rfl (hB _ lk_1) (hB _ lk_140) (by decide +kernel) ⟨(Nat.le_of_ble_eq_true rfl), (Nat.le_of_ble_eq_true rfl)⟩, hB _ lk_141, hB _ lk_142⟩ ⟨bl_, va_recv (ci := 5) (q0 := 0) hKc hPc rfl rfl, pre_ hPc hKc hDc hN⟩ rfl rfl hl.1 rfl (lv_room (Nat.le_of_ble_eq_true rfl)) nd_L_law_846 ⟨by omega, by omega⟩) hP hD hS hA (fun H locs hP hD hS => ?_)
  refine lv_aload_n hx hb nd_L_law_849 rfl (lv_at hl 2 rfl) ?_
  refine lv_aload_n hx hb nd_L_law_850 rfl (lv_at hl 0 rfl) ?_
  refine lv_iload hx hb nd_L_law_851 (lv_at hl 4 rfl) ?_
  refine lv_iconst (v := nI 1) hx hb nd_L_law_853 (by decide) ?_
  refine lv_iadd hx hb nd_L_law_854 ?_
  refine va_sld hx hb hXs hbl hbA hS (sc_in hj hL (by decide)) nd_L_law_855 ?_
  refine lv_aload_n hx hb nd_L_law_856 rfl (lv_at hl 0 rfl) ?_
  refine lv_iload hx hb nd_L_law_857 (lv_at hl 4 rfl) ?_
  refine lv_iconst (v := nI 2) hx hb nd_L_law_859 (by decide) ?_
  refine lv_iadd hx hb nd_L_law_860 ?_
  refine va_sld hx hb hXs hbl hbA hS (sc_in hj hL (by decide)) nd_L_law_861 ?_
  have hPm : va_P (dC, dI) vwCl (wd_M r cI cZ τ) H := hP.sub [17, 18, 19, 20, 21, 22, 23, 24, 25, 26] rfl
  have hDm : va_D A (wd_M r cI cZ τ) := hD.sub [17, 18, 19, 20, 21, 22, 23, 24, 25, 26] (by decide) rfl
  refine lc_m (va_runV (C := "MovedFramesModel") (As := [.int (xs (nI (4 * j) + nI 1).toNatClampNeg), .int (xs (nI (4 * j) + nI 2).toNatClampNeg)]) (rest := [.int v]) ⟨hx, hb, hml, hown, hB⟩ (kw_M_frame l dC dI r cI cZ _ τ (xs (nI (4 * j) + nI 1).toNatClampNeg) (xs (nI (4 * j) + nI 2).toNatClampNeg) b1 τ1 h3) ⟨callB_of 2 hB (gi_ lk_808) rfl rfl rfl (hB _ lk_7) (hB _ lk_805) (by decide +kernel) ⟨(Nat.le_of_ble_eq_true rfl), (Nat.le_of_ble_eq_true rfl)⟩, hB _ lk_806, hB _ lk_807⟩ ⟨bl_, va_recv (ci := 6) (q0 := 0) hKc hPm rfl rfl, pre_ hPm hKc hDm hN⟩ rfl rfl hl.1 rfl (lv_room (Nat.le_of_ble_eq_true rfl)) nd_L_law_862 ⟨by omega, by omega⟩) hP hD hS hA (fun H locs hP hD hS => ?_)
  refine lv_icmp_eq (tgt := 958) hx hb nd_L_law_865 (by decide) (fun hc9 => ?_) (fun hc9 => absurd hvb hc9)
  refine W.widen (k := cells + 1) (n := slots + 6) (by omega) (by omega) ?_
  exact kinc _ _ _ hI _ _ _ (lv_sub hl [0, 1, 2, 3, 4] rfl) hP hD hS
set_option maxHeartbeats 4000000 in
set_option maxRecDepth 100000 in
theorem la_14 {Inv : CS → MS → Prop} (hX : lx_ p l s m meth c b L xs (dC, dI) cI cZ cJ A) (hj : 4 * j + 4 ≤ L) (hL : L ≤ 2048) (hc : cells + 1 ≤ room_1.cells) (hs : slots + 6 ≤ room_1.slots) (hst : st_14 Inv σ τ (xs (nI (4 * j) + nI 1).toNatClampNeg) (xs (nI (4 * j) + nI 2).toNatClampNeg) (xs (nI (4 * j) + nI 3).toNatClampNeg))
    (kinc : ∀ (σ1 : CS) (o1 : Nat → Int64) (τ1 : MS), Inv σ1 τ1 → bw_ p l e s m below meth c Q A (dC, dI) q r qo cI cZ cJ b (cells + 1) (slots + 6) 958 [(0, .ref b), (1, .ref (q 0)), (2, .ref (r 0)), (3, .ref qo), (4, .int (nI (4 * j)))] [] (σ1, o1, τ1)) :
    bw_ p l e s m below meth c Q A (dC, dI) q r qo cI cZ cJ b cells slots 870 [(0, .ref b), (1, .ref (q 0)), (2, .ref (r 0)), (3, .ref qo), (4, .int (nI (4 * j)))] [] (σ, o, τ) := by
  obtain ⟨hx, hb, hr, hml, hown, hB, hXs, hbl, hbA, hlocks, hK, hN, hT, hZ, hC, hA, hAA, htr⟩ := hX
  have hKc : va_K (dC, dI) vwCl [(cI, .int), (cZ, .boolean)] s := hK.sub [0, 1] rfl
  obtain ⟨v, b1, τ1, h1, h3, hvb, hI⟩ := hst
  intro ls H locs hl hP hD hS
  refine lv_aload_n hx hb nd_L_law_870 rfl (lv_at hl 1 rfl) ?_
  refine lv_aload_n hx hb nd_L_law_871 rfl (lv_at hl 0 rfl) ?_
  refine lv_iload hx hb nd_L_law_872 (lv_at hl 4 rfl) ?_
  refine lv_iconst (v := nI 1) hx hb nd_L_law_874 (by decide) ?_
  refine lv_iadd hx hb nd_L_law_875 ?_
  refine va_sld hx hb hXs hbl hbA hS (sc_in hj hL (by decide)) nd_L_law_876 ?_
  refine lv_aload_n hx hb nd_L_law_877 rfl (lv_at hl 0 rfl) ?_
  refine lv_iload hx hb nd_L_law_878 (lv_at hl 4 rfl) ?_
  refine lv_iconst (v := nI 2) hx hb nd_L_law_880 (by decide) ?_
  refine lv_iadd hx hb nd_L_law_881 ?_
  refine va_sld hx hb hXs hbl hbA hS (sc_in hj hL (by decide)) nd_L_law_882 ?_
  have hPc : va_P (dC, dI) vwCl (wd_C q cI cZ σ) H := hP.sub [0, 1, 2, 3, 4, 5, 6, 7, 8, 9, 10, 11, 12, 13, 14, 15] rfl
  have hDc : va_D A (wd_C q cI cZ σ) := hD.sub [0, 1, 2, 3, 4, 5, 6, 7, 8, 9, 10, 11, 12, 13, 14, 15] (by decide) rfl
  refine lc_c (va_runV (C := "MovedFrames") (As := [.int (xs (nI (4 * j) + nI 1).toNatClampNeg), .int (xs (nI (4 * j) + nI 2).toNatClampNeg)]) (rest := []) ⟨hx, hb, hml, hown, hB⟩ (kw_F_word l dC dI q cI cZ _ σ (xs (nI (4 * j) + nI 1).toNatClampNeg) (xs (nI (4 * j) + nI 2).toNatClampNeg) v h1) ⟨callB_of 2 hB (gi_ lk_174) rfl rfl rfl (hB _ lk_1) (hB _ lk_171) (by decide +kernel) ⟨(Nat.le_of_ble_eq_true rfl), (Nat.le_of_ble_eq_true rfl)⟩, hB _ lk_172, hB _ lk_173⟩ ⟨bl_, va_recv (ci := 5) (q0 := 0) hKc hPc rfl rfl, pre_ hPc hKc hDc hN⟩ rfl rfl hl.1 rfl (lv_room (Nat.le_of_ble_eq_true rfl)) nd_L_law_883 ⟨by omega, by omega⟩) hP hD hS hA (fun H locs hP hD hS => ?_)
  refine lv_aload_n hx hb nd_L_law_886 rfl (lv_at hl 2 rfl) ?_
  refine lv_aload_n hx hb nd_L_law_887 rfl (lv_at hl 0 rfl) ?_
  refine lv_iload hx hb nd_L_law_888 (lv_at hl 4 rfl) ?_
  refine lv_iconst (v := nI 1) hx hb nd_L_law_890 (by decide) ?_
  refine lv_iadd hx hb nd_L_law_891 ?_
  refine va_sld hx hb hXs hbl hbA hS (sc_in hj hL (by decide)) nd_L_law_892 ?_
  refine lv_aload_n hx hb nd_L_law_893 rfl (lv_at hl 0 rfl) ?_
  refine lv_iload hx hb nd_L_law_894 (lv_at hl 4 rfl) ?_
  refine lv_iconst (v := nI 2) hx hb nd_L_law_896 (by decide) ?_
  refine lv_iadd hx hb nd_L_law_897 ?_
  refine va_sld hx hb hXs hbl hbA hS (sc_in hj hL (by decide)) nd_L_law_898 ?_
  have hPm : va_P (dC, dI) vwCl (wd_M r cI cZ τ) H := hP.sub [17, 18, 19, 20, 21, 22, 23, 24, 25, 26] rfl
  have hDm : va_D A (wd_M r cI cZ τ) := hD.sub [17, 18, 19, 20, 21, 22, 23, 24, 25, 26] (by decide) rfl
  refine lc_m (va_runV (C := "MovedFramesModel") (As := [.int (xs (nI (4 * j) + nI 1).toNatClampNeg), .int (xs (nI (4 * j) + nI 2).toNatClampNeg)]) (rest := [.int v]) ⟨hx, hb, hml, hown, hB⟩ (kw_M_word l dC dI r cI cZ _ τ (xs (nI (4 * j) + nI 1).toNatClampNeg) (xs (nI (4 * j) + nI 2).toNatClampNeg) b1 τ1 h3) ⟨callB_of 2 hB (gi_ lk_812) rfl rfl rfl (hB _ lk_7) (hB _ lk_809) (by decide +kernel) ⟨(Nat.le_of_ble_eq_true rfl), (Nat.le_of_ble_eq_true rfl)⟩, hB _ lk_810, hB _ lk_811⟩ ⟨bl_, va_recv (ci := 6) (q0 := 0) hKc hPm rfl rfl, pre_ hPm hKc hDm hN⟩ rfl rfl hl.1 rfl (lv_room (Nat.le_of_ble_eq_true rfl)) nd_L_law_899 ⟨by omega, by omega⟩) hP hD hS hA (fun H locs hP hD hS => ?_)
  refine lv_icmp_eq (tgt := 958) hx hb nd_L_law_902 (by decide) (fun hc9 => ?_) (fun hc9 => absurd hvb hc9)
  refine W.widen (k := cells + 1) (n := slots + 6) (by omega) (by omega) ?_
  exact kinc _ _ _ hI _ _ _ (lv_sub hl [0, 1, 2, 3, 4] rfl) hP hD hS
set_option maxHeartbeats 4000000 in
set_option maxRecDepth 100000 in
theorem la_15 {Inv : CS → MS → Prop} (hX : lx_ p l s m meth c b L xs (dC, dI) cI cZ cJ A) (hj : 4 * j + 4 ≤ L) (hL : L ≤ 2048) (hc : cells + 1 ≤ room_1.cells) (hs : slots + 6 ≤ room_1.slots) (hst : st_15 Inv σ τ (xs (nI (4 * j) + nI 1).toNatClampNeg) (xs (nI (4 * j) + nI 2).toNatClampNeg) (xs (nI (4 * j) + nI 3).toNatClampNeg))
    (kinc : ∀ (σ1 : CS) (o1 : Nat → Int64) (τ1 : MS), Inv σ1 τ1 → bw_ p l e s m below meth c Q A (dC, dI) q r qo cI cZ cJ b (cells + 1) (slots + 6) 958 [(0, .ref b), (1, .ref (q 0)), (2, .ref (r 0)), (3, .ref qo), (4, .int (nI (4 * j)))] [] (σ1, o1, τ1)) :
    bw_ p l e s m below meth c Q A (dC, dI) q r qo cI cZ cJ b cells slots 907 [(0, .ref b), (1, .ref (q 0)), (2, .ref (r 0)), (3, .ref qo), (4, .int (nI (4 * j)))] [] (σ, o, τ) := by
  obtain ⟨hx, hb, hr, hml, hown, hB, hXs, hbl, hbA, hlocks, hK, hN, hT, hZ, hC, hA, hAA, htr⟩ := hX
  have hKc : va_K (dC, dI) vwCl [(cI, .int), (cZ, .boolean)] s := hK.sub [0, 1] rfl
  obtain ⟨v, b1, τ1, h1, h3, hvb, hI⟩ := hst
  intro ls H locs hl hP hD hS
  refine lv_aload_n hx hb nd_L_law_907 rfl (lv_at hl 1 rfl) ?_
  refine lv_aload_n hx hb nd_L_law_908 rfl (lv_at hl 0 rfl) ?_
  refine lv_iload hx hb nd_L_law_909 (lv_at hl 4 rfl) ?_
  refine lv_iconst (v := nI 1) hx hb nd_L_law_911 (by decide) ?_
  refine lv_iadd hx hb nd_L_law_912 ?_
  refine va_sld hx hb hXs hbl hbA hS (sc_in hj hL (by decide)) nd_L_law_913 ?_
  have hPc : va_P (dC, dI) vwCl (wd_C q cI cZ σ) H := hP.sub [0, 1, 2, 3, 4, 5, 6, 7, 8, 9, 10, 11, 12, 13, 14, 15] rfl
  have hDc : va_D A (wd_C q cI cZ σ) := hD.sub [0, 1, 2, 3, 4, 5, 6, 7, 8, 9, 10, 11, 12, 13, 14, 15] (by decide) rfl
  refine lc_c (va_runV (C := "MovedFrames") (As := [.int (xs (nI (4 * j) + nI 1).toNatClampNeg)]) (rest := []) ⟨hx, hb, hml, hown, hB⟩ (kw_F_blocks l dC dI q cI cZ _ σ (xs (nI (4 * j) + nI 1).toNatClampNeg) v h1) ⟨callB_of 1 hB (gi_ lk_180) rfl rfl rfl (hB _ lk_1) (hB _ lk_177) (by decide +kernel) ⟨(Nat.le_of_ble_eq_true rfl), (Nat.le_of_ble_eq_true rfl)⟩, hB _ lk_178, hB _ lk_179⟩ ⟨bl_, va_recv (ci := 5) (q0 := 0) hKc hPc rfl rfl, pre_ hPc hKc hDc hN⟩ rfl rfl hl.1 rfl (lv_room (Nat.le_of_ble_eq_true rfl)) nd_L_law_914 ⟨by omega, by omega⟩) hP hD hS hA (fun H locs hP hD hS => ?_)
  refine lv_aload_n hx hb nd_L_law_917 rfl (lv_at hl 2 rfl) ?_
  refine lv_aload_n hx hb nd_L_law_918 rfl (lv_at hl 0 rfl) ?_
  refine lv_iload hx hb nd_L_law_919 (lv_at hl 4 rfl) ?_
  refine lv_iconst (v := nI 1) hx hb nd_L_law_921 (by decide) ?_
  refine lv_iadd hx hb nd_L_law_922 ?_
  refine va_sld hx hb hXs hbl hbA hS (sc_in hj hL (by decide)) nd_L_law_923 ?_
  have hPm : va_P (dC, dI) vwCl (wd_M r cI cZ τ) H := hP.sub [17, 18, 19, 20, 21, 22, 23, 24, 25, 26] rfl
  have hDm : va_D A (wd_M r cI cZ τ) := hD.sub [17, 18, 19, 20, 21, 22, 23, 24, 25, 26] (by decide) rfl
  refine lc_m (va_runV (C := "MovedFramesModel") (As := [.int (xs (nI (4 * j) + nI 1).toNatClampNeg)]) (rest := [.int v]) ⟨hx, hb, hml, hown, hB⟩ (kw_M_blocks l dC dI r cI cZ _ τ (xs (nI (4 * j) + nI 1).toNatClampNeg) b1 τ1 h3) ⟨callB_of 1 hB (gi_ lk_816) rfl rfl rfl (hB _ lk_7) (hB _ lk_813) (by decide +kernel) ⟨(Nat.le_of_ble_eq_true rfl), (Nat.le_of_ble_eq_true rfl)⟩, hB _ lk_814, hB _ lk_815⟩ ⟨bl_, va_recv (ci := 6) (q0 := 0) hKc hPm rfl rfl, pre_ hPm hKc hDm hN⟩ rfl rfl hl.1 rfl (lv_room (Nat.le_of_ble_eq_true rfl)) nd_L_law_924 ⟨by omega, by omega⟩) hP hD hS hA (fun H locs hP hD hS => ?_)
  refine lv_icmp_eq (tgt := 958) hx hb nd_L_law_927 (by decide) (fun hc9 => ?_) (fun hc9 => absurd hvb hc9)
  refine W.widen (k := cells + 1) (n := slots + 6) (by omega) (by omega) ?_
  exact kinc _ _ _ hI _ _ _ (lv_sub hl [0, 1, 2, 3, 4] rfl) hP hD hS
set_option maxHeartbeats 4000000 in
set_option maxRecDepth 100000 in
theorem la_16 {Inv : CS → MS → Prop} (hX : lx_ p l s m meth c b L xs (dC, dI) cI cZ cJ A) (hj : 4 * j + 4 ≤ L) (hL : L ≤ 2048) (hc : cells + 1 ≤ room_1.cells) (hs : slots + 6 ≤ room_1.slots) (hst : st_16 Inv σ τ (xs (nI (4 * j) + nI 1).toNatClampNeg) (xs (nI (4 * j) + nI 2).toNatClampNeg) (xs (nI (4 * j) + nI 3).toNatClampNeg))
    (kinc : ∀ (σ1 : CS) (o1 : Nat → Int64) (τ1 : MS), Inv σ1 τ1 → bw_ p l e s m below meth c Q A (dC, dI) q r qo cI cZ cJ b (cells + 1) (slots + 6) 958 [(0, .ref b), (1, .ref (q 0)), (2, .ref (r 0)), (3, .ref qo), (4, .int (nI (4 * j)))] [] (σ1, o1, τ1)) :
    bw_ p l e s m below meth c Q A (dC, dI) q r qo cI cZ cJ b cells slots 932 [(0, .ref b), (1, .ref (q 0)), (2, .ref (r 0)), (3, .ref qo), (4, .int (nI (4 * j)))] [] (σ, o, τ) := by
  obtain ⟨hx, hb, hr, hml, hown, hB, hXs, hbl, hbA, hlocks, hK, hN, hT, hZ, hC, hA, hAA, htr⟩ := hX
  have hKc : va_K (dC, dI) vwCl [(cI, .int), (cZ, .boolean)] s := hK.sub [0, 1] rfl
  obtain ⟨v, b1, τ1, h1, h3, hvb, hI⟩ := hst
  intro ls H locs hl hP hD hS
  refine lv_aload_n hx hb nd_L_law_932 rfl (lv_at hl 1 rfl) ?_
  have hPc : va_P (dC, dI) vwCl (wd_C q cI cZ σ) H := hP.sub [0, 1, 2, 3, 4, 5, 6, 7, 8, 9, 10, 11, 12, 13, 14, 15] rfl
  have hDc : va_D A (wd_C q cI cZ σ) := hD.sub [0, 1, 2, 3, 4, 5, 6, 7, 8, 9, 10, 11, 12, 13, 14, 15] (by decide) rfl
  refine lc_c (va_runV (C := "MovedFrames") (As := []) (rest := []) ⟨hx, hb, hml, hown, hB⟩ (kw_F_free l dC dI q cI cZ _ σ v h1) ⟨callB_of 0 hB (gi_ lk_196) rfl rfl rfl (hB _ lk_1) (hB _ lk_193) (by decide +kernel) ⟨(Nat.le_of_ble_eq_true rfl), (Nat.le_of_ble_eq_true rfl)⟩, hB _ lk_194, hB _ lk_195⟩ ⟨bl_, va_recv (ci := 5) (q0 := 0) hKc hPc rfl rfl, pre_ hPc hKc hDc hN⟩ rfl rfl hl.1 rfl (lv_room (Nat.le_of_ble_eq_true rfl)) nd_L_law_933 ⟨by omega, by omega⟩) hP hD hS hA (fun H locs hP hD hS => ?_)
  refine lv_aload_n hx hb nd_L_law_936 rfl (lv_at hl 2 rfl) ?_
  have hPm : va_P (dC, dI) vwCl (wd_M r cI cZ τ) H := hP.sub [17, 18, 19, 20, 21, 22, 23, 24, 25, 26] rfl
  have hDm : va_D A (wd_M r cI cZ τ) := hD.sub [17, 18, 19, 20, 21, 22, 23, 24, 25, 26] (by decide) rfl
  refine lc_m (va_runV (C := "MovedFramesModel") (As := []) (rest := [.int v]) ⟨hx, hb, hml, hown, hB⟩ (kw_M_free l dC dI r cI cZ _ τ b1 τ1 h3) ⟨callB_of 0 hB (gi_ lk_820) rfl rfl rfl (hB _ lk_7) (hB _ lk_817) (by decide +kernel) ⟨(Nat.le_of_ble_eq_true rfl), (Nat.le_of_ble_eq_true rfl)⟩, hB _ lk_818, hB _ lk_819⟩ ⟨bl_, va_recv (ci := 6) (q0 := 0) hKc hPm rfl rfl, pre_ hPm hKc hDm hN⟩ rfl rfl hl.1 rfl (lv_room (Nat.le_of_ble_eq_true rfl)) nd_L_law_937 ⟨by omega, by omega⟩) hP hD hS hA (fun H locs hP hD hS => ?_)
  refine lv_icmp_eq (tgt := 958) hx hb nd_L_law_940 (by decide) (fun hc9 => ?_) (fun hc9 => absurd hvb hc9)
  refine W.widen (k := cells + 1) (n := slots + 6) (by omega) (by omega) ?_
  exact kinc _ _ _ hI _ _ _ (lv_sub hl [0, 1, 2, 3, 4] rfl) hP hD hS
set_option maxHeartbeats 4000000 in
set_option maxRecDepth 100000 in
theorem la_17 {Inv : CS → MS → Prop} (hX : lx_ p l s m meth c b L xs (dC, dI) cI cZ cJ A) (hj : 4 * j + 4 ≤ L) (hL : L ≤ 2048) (hc : cells + 1 ≤ room_1.cells) (hs : slots + 6 ≤ room_1.slots) (hst : st_17 Inv σ τ (xs (nI (4 * j) + nI 1).toNatClampNeg) (xs (nI (4 * j) + nI 2).toNatClampNeg) (xs (nI (4 * j) + nI 3).toNatClampNeg))
    (kinc : ∀ (σ1 : CS) (o1 : Nat → Int64) (τ1 : MS), Inv σ1 τ1 → bw_ p l e s m below meth c Q A (dC, dI) q r qo cI cZ cJ b (cells + 1) (slots + 6) 958 [(0, .ref b), (1, .ref (q 0)), (2, .ref (r 0)), (3, .ref qo), (4, .int (nI (4 * j)))] [] (σ1, o1, τ1)) :
    bw_ p l e s m below meth c Q A (dC, dI) q r qo cI cZ cJ b cells slots 945 [(0, .ref b), (1, .ref (q 0)), (2, .ref (r 0)), (3, .ref qo), (4, .int (nI (4 * j)))] [] (σ, o, τ) := by
  obtain ⟨hx, hb, hr, hml, hown, hB, hXs, hbl, hbA, hlocks, hK, hN, hT, hZ, hC, hA, hAA, htr⟩ := hX
  have hKc : va_K (dC, dI) vwCl [(cI, .int), (cZ, .boolean)] s := hK.sub [0, 1] rfl
  obtain ⟨v, b1, τ1, h1, h3, hvb, hI⟩ := hst
  intro ls H locs hl hP hD hS
  refine lv_aload_n hx hb nd_L_law_945 rfl (lv_at hl 1 rfl) ?_
  have hPc : va_P (dC, dI) vwCl (wd_C q cI cZ σ) H := hP.sub [0, 1, 2, 3, 4, 5, 6, 7, 8, 9, 10, 11, 12, 13, 14, 15] rfl
  have hDc : va_D A (wd_C q cI cZ σ) := hD.sub [0, 1, 2, 3, 4, 5, 6, 7, 8, 9, 10, 11, 12, 13, 14, 15] (by decide) rfl
  refine lc_c (va_runV (C := "MovedFrames") (As := []) (rest := []) ⟨hx, hb, hml, hown, hB⟩ (kw_F_moved l dC dI q cI cZ _ σ v h1) ⟨callB_of 0 hB (gi_ lk_210) rfl rfl rfl (hB _ lk_1) (hB _ lk_207) (by decide +kernel) ⟨(Nat.le_of_ble_eq_true rfl), (Nat.le_of_ble_eq_true rfl)⟩, hB _ lk_208, hB _ lk_209⟩ ⟨bl_, va_recv (ci := 5) (q0 := 0) hKc hPc rfl rfl, pre_ hPc hKc hDc hN⟩ rfl rfl hl.1 rfl (lv_room (Nat.le_of_ble_eq_true rfl)) nd_L_law_946 ⟨by omega, by omega⟩) hP hD hS hA (fun H locs hP hD hS => ?_)
  refine lv_aload_n hx hb nd_L_law_949 rfl (lv_at hl 2 rfl) ?_
  have hPm : va_P (dC, dI) vwCl (wd_M r cI cZ τ) H := hP.sub [17, 18, 19, 20, 21, 22, 23, 24, 25, 26] rfl
  have hDm : va_D A (wd_M r cI cZ τ) := hD.sub [17, 18, 19, 20, 21, 22, 23, 24, 25, 26] (by decide) rfl
  refine lc_m (va_runV (C := "MovedFramesModel") (As := []) (rest := [.int v]) ⟨hx, hb, hml, hown, hB⟩ (kw_M_moved l dC dI r cI cZ _ τ b1 τ1 h3) ⟨callB_of 0 hB (gi_ lk_824) rfl rfl rfl (hB _ lk_7) (hB _ lk_821) (by decide +kernel) ⟨(Nat.le_of_ble_eq_true rfl), (Nat.le_of_ble_eq_true rfl)⟩, hB _ lk_822, hB _ lk_823⟩ ⟨bl_, va_recv (ci := 6) (q0 := 0) hKc hPm rfl rfl, pre_ hPm hKc hDm hN⟩ rfl rfl hl.1 rfl (lv_room (Nat.le_of_ble_eq_true rfl)) nd_L_law_950 ⟨by omega, by omega⟩) hP hD hS hA (fun H locs hP hD hS => ?_)
  refine lv_icmp_eq (tgt := 958) hx hb nd_L_law_953 (by decide) (fun hc9 => ?_) (fun hc9 => absurd hvb hc9)
  refine W.widen (k := cells + 1) (n := slots + 6) (by omega) (by omega) ?_
  exact kinc _ _ _ hI _ _ _ (lv_sub hl [0, 1, 2, 3, 4] rfl) hP hD hS
end LAW
