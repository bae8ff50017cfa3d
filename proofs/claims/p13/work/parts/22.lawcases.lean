def st_0 (Inv : CS → MS → Prop) (σ : CS) (τ : MS) (x1 x2 x3 : Int32) : Prop := ∃ (v : Int32) (n : Nat) (k : Int32) (σ1 : CS) (b1 : Int32) (τ1 : MS), mc_kmalloc σ x1 = some (v, n, σ1) ∧ kc_L_kmalloc n k ∧ mm_kmalloc τ x1 = some (b1, τ1) ∧ (True) ∧ (True) ∧ Inv σ1 τ1
def st_1 (Inv : CS → MS → Prop) (σ : CS) (τ : MS) (x1 x2 x3 : Int32) : Prop := ∃ (v : Int32) (n : Nat) (k : Int32) (σ1 : CS) (τ1 : MS), mc_kfree σ x1 = some (v, n, σ1) ∧ kc_L_kfree n k ∧ mm_kfree τ x1 = some τ1 ∧ (True) ∧ (True) ∧ Inv σ1 τ1
def st_2 (Inv : CS → MS → Prop) (σ : CS) (τ : MS) (x1 x2 x3 : Int32) : Prop := ∃ (v : Int32) (n : Nat) (k : Int32) (σ1 : CS) (b1 : Int32) (τ1 : MS), mc_vmalloc σ x1 = some (v, n, σ1) ∧ kc_L_vmalloc n k ∧ mm_vmalloc τ x1 = some (b1, τ1) ∧ (True) ∧ (True) ∧ Inv σ1 τ1
def st_3 (Inv : CS → MS → Prop) (σ : CS) (τ : MS) (x1 x2 x3 : Int32) : Prop := ∃ (v : Int32) (n : Nat) (k : Int32) (σ1 : CS) (b1 : Int32) (τ1 : MS), mc_vfree σ x1 = some (v, n, σ1) ∧ kc_L_vfree n k ∧ mm_vfree τ x1 = some (b1, τ1) ∧ (True) ∧ (True) ∧ Inv σ1 τ1
def st_4 (Inv : CS → MS → Prop) (σ : CS) (τ : MS) (x1 x2 x3 : Int32) : Prop := ∃ (v : Int32) (n : Nat) (k : Int32) (σ1 : CS) (b1 : Int32) (τ1 : MS), mc_create σ = some (v, n, σ1) ∧ kc_L_create n k ∧ mm_create τ = some (b1, τ1) ∧ (True) ∧ (True) ∧ Inv σ1 τ1
def st_5 (Inv : CS → MS → Prop) (σ : CS) (τ : MS) (x1 x2 x3 : Int32) : Prop := ∃ (v : Int32) (n : Nat) (k : Int32) (σ1 : CS) (b1 : Int32) (τ1 : MS), mc_destroy σ x1 = some (v, n, σ1) ∧ kc_L_destroy n k ∧ mm_destroy τ x1 = some (b1, τ1) ∧ (True) ∧ (True) ∧ Inv σ1 τ1
def st_6 (Inv : CS → MS → Prop) (σ : CS) (τ : MS) (x1 x2 x3 : Int32) : Prop := ∃ (v : Int32) (n : Nat) (k : Int32) (σ1 : CS) (τ1 : MS), mc_mmap σ x1 x2 x3 = some (v, n, σ1) ∧ kc_L_mmap n k ∧ mm_mmap τ x1 x2 x3 = some τ1 ∧ (True) ∧ (True) ∧ Inv σ1 τ1
def st_7 (Inv : CS → MS → Prop) (σ : CS) (τ : MS) (x1 x2 x3 : Int32) : Prop := ∃ (v : Int32) (n : Nat) (k : Int32) (σ1 : CS) (b1 : Int32) (τ1 : MS), mc_munmap σ x1 x2 x3 = some (v, n, σ1) ∧ kc_L_munmap n k ∧ mm_munmap τ x1 x2 x3 = some (b1, τ1) ∧ (True) ∧ (True) ∧ Inv σ1 τ1
def st_8 (Inv : CS → MS → Prop) (σ : CS) (τ : MS) (x1 x2 x3 : Int32) : Prop := ∃ (v : Int32) (n : Nat) (k : Int32) (σ1 : CS) (b1 : Int32) (τ1 : MS), mc_load σ x1 x2 = some (v, n, σ1) ∧ kc_L_load n k ∧ mm_load τ x1 x2 = some (b1, τ1) ∧ (True) ∧ (True) ∧ Inv σ1 τ1
def st_9 (Inv : CS → MS → Prop) (σ : CS) (τ : MS) (x1 x2 x3 : Int32) : Prop := ∃ (v : Int32) (n : Nat) (k : Int32) (σ1 : CS) (τ1 : MS), mc_store σ x1 x2 x3 = some (v, n, σ1) ∧ kc_L_store n k ∧ mm_store τ x1 x2 x3 = some τ1 ∧ (True) ∧ (True) ∧ Inv σ1 τ1
def st_10 (Inv : CS → MS → Prop) (σ : CS) (τ : MS) (x1 x2 x3 : Int32) : Prop := ∃ (v : Int32) (n : Nat) (k : Int32) (σ1 : CS) (b1 : Int32) (τ1 : MS), mc_contig σ x1 = some (v, n, σ1) ∧ kc_L_contig n k ∧ mm_contig τ x1 = some (b1, τ1) ∧ (True) ∧ (True) ∧ Inv σ1 τ1
def st_11 (Inv : CS → MS → Prop) (σ : CS) (τ : MS) (x1 x2 x3 : Int32) : Prop := ∃ (v : Int32) (n : Nat) (k : Int32) (σ1 : CS) (b1 : Int32) (τ1 : MS), mc_release σ x1 = some (v, n, σ1) ∧ kc_L_release n k ∧ mm_release τ x1 = some (b1, τ1) ∧ (gm_th τ1 = k) ∧ (k = 0 → v = b1) ∧ Inv σ1 τ1
def st_12 (Inv : CS → MS → Prop) (σ : CS) (τ : MS) (x1 x2 x3 : Int32) : Prop := ∃ (v : Int32) (b1 : Int32) (τ1 : MS), mc_owner σ x1 = some v ∧ mm_owner τ x1 = some (b1, τ1) ∧ (True) ∧ Inv σ τ1
def st_13 (Inv : CS → MS → Prop) (σ : CS) (τ : MS) (x1 x2 x3 : Int32) : Prop := ∃ (v : Int32) (b1 : Int32) (τ1 : MS), mc_frame σ x1 x2 = some v ∧ mm_frame τ x1 x2 = some (b1, τ1) ∧ (True) ∧ Inv σ τ1
def st_14 (Inv : CS → MS → Prop) (σ : CS) (τ : MS) (x1 x2 x3 : Int32) : Prop := ∃ (v : Int32) (b1 : Int32) (τ1 : MS), mc_word σ x1 x2 = some v ∧ mm_word τ x1 x2 = some (b1, τ1) ∧ (True) ∧ Inv σ τ1
def st_15 (Inv : CS → MS → Prop) (σ : CS) (τ : MS) (x1 x2 x3 : Int32) : Prop := ∃ (v : Int32) (b1 : Int32) (τ1 : MS), mc_blocks σ x1 = some v ∧ mm_blocks τ x1 = some (b1, τ1) ∧ (True) ∧ Inv σ τ1
def st_16 (Inv : CS → MS → Prop) (σ : CS) (τ : MS) (x1 x2 x3 : Int32) : Prop := ∃ (v : Int32) (b1 : Int32) (τ1 : MS), mc_free σ = some v ∧ mm_free τ = some (b1, τ1) ∧ (True) ∧ Inv σ τ1
def st_17 (Inv : CS → MS → Prop) (σ : CS) (τ : MS) (x1 x2 x3 : Int32) : Prop := ∃ (v : Int32) (b1 : Int32) (τ1 : MS), mc_moved σ = some v ∧ mm_moved τ = some (b1, τ1) ∧ (True) ∧ Inv σ τ1
section LAW
variable {p : Program} {l : Launch} {e : Env} {s : State} {m : MethodId} {below : List Frame} {meth : Method} {c : Code} {Q : State → Prop} {A : Nat → Prop} {dC : Nat → ClassId} {dI : Nat → Nat → Nat} {q r : Nat → Nat} {qo b L j cells slots : Nat} {xs : Nat → Int32} {cI cZ cJ : ClassId} {σ : CS} {τ : MS} {o : Nat → Int64}
set_option maxHeartbeats 4000000 in
set_option maxRecDepth 100000 in
theorem la_0 {Inv : CS → MS → Prop} (hX : lx_ p l s m meth c b L xs (dC, dI) cI cZ cJ A) (hj : 4 * j + 4 ≤ L) (hL : L ≤ 2048) (hc : cells + 1 ≤ room_1.cells) (hs : slots + 6 ≤ room_1.slots) (hst : st_0 Inv σ τ (xs (nI (4 * j) + nI 1).toNatClampNeg) (xs (nI (4 * j) + nI 2).toNatClampNeg) (xs (nI (4 * j) + nI 3).toNatClampNeg))
    (kinc : ∀ (σ1 : CS) (o1 : Nat → Int64) (τ1 : MS), Inv σ1 τ1 → bw_ p l e s m below meth c Q A (dC, dI) q r qo cI cZ cJ b (cells + 1) (slots + 6) 701 [(0, .ref b), (1, .ref (q 0)), (2, .ref (r 0)), (3, .ref qo), (4, .int (nI (4 * j)))] [] (σ1, o1, τ1)) :
    bw_ p l e s m below meth c Q A (dC, dI) q r qo cI cZ cJ b cells slots 124 [(0, .ref b), (1, .ref (q 0)), (2, .ref (r 0)), (3, .ref qo), (4, .int (nI (4 * j)))] [] (σ, o, τ) := by
  obtain ⟨hx, hb, hr, hml, hown, hB, hXs, hbl, hbA, hlocks, hK, hN, hT, hZ, hC, hA, hAA, htr⟩ := hX
  have hKc : va_K (dC, dI) vwCl [(cI, .int), (cZ, .boolean)] s := hK.sub [0, 1] rfl
  obtain ⟨v, n, k, σ1, b1, τ1, h1, h2, h3, hth, hvb, hI⟩ := hst
  intro ls H locs hl hP hD hS
  refine lv_aload_n hx hb nd_L_law_124 rfl (lv_at hl 1 rfl) ?_
  refine lv_aload_n hx hb nd_L_law_125 rfl (lv_at hl 0 rfl) ?_
  refine lv_iload hx hb nd_L_law_126 (lv_at hl 4 rfl) ?_
  refine lv_iconst (v := nI 1) hx hb nd_L_law_128 (by decide) ?_
  refine lv_iadd hx hb nd_L_law_129 ?_
  refine va_sld hx hb hXs hbl hbA hS (sc_in hj hL (by decide)) nd_L_law_130 ?_
  refine lv_aload_n hx hb nd_L_law_131 rfl (lv_at hl 3 rfl) ?_
  have hPh : va_P (dC, dI) vwCl (wh_ q qo cI cZ cJ (σ, o)) H := hP.sub [0, 1, 2, 3, 4, 5, 6, 7, 8, 9, 10, 11, 12, 13, 14, 15, 16] rfl
  have hDh : va_D A (wh_ q qo cI cZ cJ (σ, o)) := hD.sub [0, 1, 2, 3, 4, 5, 6, 7, 8, 9, 10, 11, 12, 13, 14, 15, 16] (by decide) rfl
  refine lc_h (vx_runSW (As := [.ref (q 0), .int (xs (nI (4 * j) + nI 1).toNatClampNeg), .ref qo]) (rest := []) ⟨hx, hb, hml, hown, hB⟩ (kh_L_kmalloc l dC dI q qo cI cZ cJ _ σ o (xs (nI (4 * j) + nI 1).toNatClampNeg) v n σ1 k htr h2 h1) (csw_ 3 hB (gi_ lk_217) rfl rfl rfl (hB _ lk_0) (hB _ lk_215) (hB _ lk_216) (by decide +kernel) ⟨(Nat.le_of_ble_eq_true rfl), (Nat.le_of_ble_eq_true rfl)⟩) ⟨blh_, preh_ hPh hK hDh hN hT hZ hC hS hA⟩ rfl rfl hl.1 rfl (lv_room (Nat.le_of_ble_eq_true rfl)) nd_L_law_132 ⟨hc, hs⟩) hP hD hS hA (fun H locs hP hD hS => ?_)
  generalize ho1 : (if n = 0 then vp_updL o 0 v.toInt64 else o) = o1 at hP hD
  refine lv_istore (lv' := [(5, .int k), (0, .ref b), (1, .ref (q 0)), (2, .ref (r 0)), (3, .ref qo), (4, .int (nI (4 * j)))]) hx hb nd_L_law_135 hl (by decide) rfl (fun ls hl => ?_)
  refine lv_aload_n hx hb nd_L_law_137 rfl (lv_at hl 3 rfl) ?_
  refine lv_aload_n hx hb nd_L_law_138 rfl (lv_at hl 1 rfl) ?_
  refine lv_iload hx hb nd_L_law_139 (lv_at hl 5 rfl) ?_
  refine lv_iconst (v := nI 1) hx hb nd_L_law_141 (by decide) ?_
  refine lv_iadd hx hb nd_L_law_142 ?_
  refine va_sld hx hb hXs hbl hbA hS (sc_in hj hL (by decide)) nd_L_law_143 ?_
  have hPm : va_P (dC, dI) vwCl (wd_M r cI cZ τ) H := hP.sub [17, 18, 19, 20, 21, 22, 23, 24, 25, 26] rfl
  have hDm : va_D A (wd_M r cI cZ τ) := hD.sub [17, 18, 19, 20, 21, 22, 23, 24, 25, 26] (by decide) rfl
  refine lc_m (va_runV (C := "MovedFramesModel") (As := [.int (xs (nI (4 * j) + nI 1).toNatClampNeg)]) (rest := []) ⟨hx, hb, hml, hown, hB⟩ (kw_M_kmalloc l dC dI r cI cZ _ τ (xs (nI (4 * j) + nI 1).toNatClampNeg) b1 τ1 h3) ⟨callB_of 1 hB (gi_ lk_670) rfl rfl rfl (hB _ lk_7) (hB _ lk_667) (by decide +kernel) ⟨(Nat.le_of_ble_eq_true rfl), (Nat.le_of_ble_eq_true rfl)⟩, hB _ lk_668, hB _ lk_669⟩ ⟨bl_, va_recv (ci := 6) (q0 := 0) hKc hPm rfl rfl, pre_ hPm hKc hDm hN⟩ rfl rfl hl.1 rfl (lv_room (Nat.le_of_ble_eq_true rfl)) nd_L_law_144 ⟨by omega, by omega⟩) hP hD hS hA (fun H locs hP hD hS => ?_)
  refine lv_istore (lv' := [(6, .int b1), (5, .int k), (0, .ref b), (1, .ref (q 0)), (2, .ref (r 0)), (3, .ref qo), (4, .int (nI (4 * j)))]) hx hb nd_L_law_147 hl (by decide) rfl (fun ls hl => ?_)
  refine lv_goto (tgt := 701) hx hb nd_L_law_149 (by decide) ?_
  refine W.widen (k := cells + 1) (n := slots + 6) (by omega) (by omega) ?_
  exact kinc _ _ _ hI _ _ _ (lv_sub hl [2, 3, 4, 5, 6] rfl) hP hD hS
set_option maxHeartbeats 4000000 in
set_option maxRecDepth 100000 in
theorem la_1 {Inv : CS → MS → Prop} (hX : lx_ p l s m meth c b L xs (dC, dI) cI cZ cJ A) (hj : 4 * j + 4 ≤ L) (hL : L ≤ 2048) (hc : cells + 1 ≤ room_1.cells) (hs : slots + 6 ≤ room_1.slots) (hst : st_1 Inv σ τ (xs (nI (4 * j) + nI 1).toNatClampNeg) (xs (nI (4 * j) + nI 2).toNatClampNeg) (xs (nI (4 * j) + nI 3).toNatClampNeg))
    (kinc : ∀ (σ1 : CS) (o1 : Nat → Int64) (τ1 : MS), Inv σ1 τ1 → bw_ p l e s m below meth c Q A (dC, dI) q r qo cI cZ cJ b (cells + 1) (slots + 6) 701 [(0, .ref b), (1, .ref (q 0)), (2, .ref (r 0)), (3, .ref qo), (4, .int (nI (4 * j)))] [] (σ1, o1, τ1)) :
    bw_ p l e s m below meth c Q A (dC, dI) q r qo cI cZ cJ b cells slots 152 [(0, .ref b), (1, .ref (q 0)), (2, .ref (r 0)), (3, .ref qo), (4, .int (nI (4 * j)))] [] (σ, o, τ) := by
  obtain ⟨hx, hb, hr, hml, hown, hB, hXs, hbl, hbA, hlocks, hK, hN, hT, hZ, hC, hA, hAA, htr⟩ := hX
  have hKc : va_K (dC, dI) vwCl [(cI, .int), (cZ, .boolean)] s := hK.sub [0, 1] rfl
  obtain ⟨v, n, k, σ1, τ1, h1, h2, h3, hth, hvb, hI⟩ := hst
  intro ls H locs hl hP hD hS
  refine lv_aload_n hx hb nd_L_law_152 rfl (lv_at hl 1 rfl) ?_
  refine lv_aload_n hx hb nd_L_law_153 rfl (lv_at hl 0 rfl) ?_
  refine lv_iload hx hb nd_L_law_154 (lv_at hl 4 rfl) ?_
  refine lv_iconst (v := nI 1) hx hb nd_L_law_156 (by decide) ?_
  refine lv_iadd hx hb nd_L_law_157 ?_
  refine va_sld hx hb hXs hbl hbA hS (sc_in hj hL (by decide)) nd_L_law_158 ?_
  have hPh : va_P (dC, dI) vwCl (wh_ q qo cI cZ cJ (σ, o)) H := hP.sub [0, 1, 2, 3, 4, 5, 6, 7, 8, 9, 10, 11, 12, 13, 14, 15, 16] rfl
  have hDh : va_D A (wh_ q qo cI cZ cJ (σ, o)) := hD.sub [0, 1, 2, 3, 4, 5, 6, 7, 8, 9, 10, 11, 12, 13, 14, 15, 16] (by decide) rfl
  refine lc_h (vx_runSW (As := [.ref (q 0), .int (xs (nI (4 * j) + nI 1).toNatClampNeg)]) (rest := []) ⟨hx, hb, hml, hown, hB⟩ (kh_L_kfree l dC dI q qo cI cZ cJ _ σ o (xs (nI (4 * j) + nI 1).toNatClampNeg) v n σ1 k htr h2 h1) (csw_ 2 hB (gi_ lk_360) rfl rfl rfl (hB _ lk_0) (hB _ lk_358) (hB _ lk_359) (by decide +kernel) ⟨(Nat.le_of_ble_eq_true rfl), (Nat.le_of_ble_eq_true rfl)⟩) ⟨blh_, preh_ hPh hK hDh hN hT hZ hC hS hA⟩ rfl rfl hl.1 rfl (lv_room (Nat.le_of_ble_eq_true rfl)) nd_L_law_159 ⟨hc, hs⟩) hP hD hS hA (fun H locs hP hD hS => ?_)
  refine lv_istore (lv' := [(5, .int k), (0, .ref b), (1, .ref (q 0)), (2, .ref (r 0)), (3, .ref qo), (4, .int (nI (4 * j)))]) hx hb nd_L_law_162 hl (by decide) rfl (fun ls hl => ?_)
  refine lv_aload_n hx hb nd_L_law_164 rfl (lv_at hl 3 rfl) ?_
  refine lv_aload_n hx hb nd_L_law_165 rfl (lv_at hl 1 rfl) ?_
  refine lv_iload hx hb nd_L_law_166 (lv_at hl 5 rfl) ?_
  refine lv_iconst (v := nI 1) hx hb nd_L_law_168 (by decide) ?_
  refine lv_iadd hx hb nd_L_law_169 ?_
  refine va_sld hx hb hXs hbl hbA hS (sc_in hj hL (by decide)) nd_L_law_170 ?_
  have hPm : va_P (dC, dI) vwCl (wd_M r cI cZ τ) H := hP.sub [17, 18, 19, 20, 21, 22, 23, 24, 25, 26] rfl
  have hDm : va_D A (wd_M r cI cZ τ) := hD.sub [17, 18, 19, 20, 21, 22, 23, 24, 25, 26] (by decide) rfl
  refine lc_mv (va_runV (C := "MovedFramesModel") (As := [.int (xs (nI (4 * j) + nI 1).toNatClampNeg)]) (rest := []) ⟨hx, hb, hml, hown, hB⟩ (kw_M_kfree l dC dI r cI cZ _ τ (xs (nI (4 * j) + nI 1).toNatClampNeg) τ1 h3) ⟨callB_of 1 hB (gi_ lk_705) rfl rfl rfl (hB _ lk_7) (hB _ lk_702) (by decide +kernel) ⟨(Nat.le_of_ble_eq_true rfl), (Nat.le_of_ble_eq_true rfl)⟩, hB _ lk_703, hB _ lk_704⟩ ⟨bl_, va_recv (ci := 6) (q0 := 0) hKc hPm rfl rfl, pre_ hPm hKc hDm hN⟩ rfl rfl hl.1 rfl (lv_room (Nat.le_of_ble_eq_true rfl)) nd_L_law_171 ⟨by omega, by omega⟩) hP hD hS hA (fun H locs hP hD hS => ?_)
  refine lv_goto (tgt := 701) hx hb nd_L_law_174 (by decide) ?_
  refine W.widen (k := cells + 1) (n := slots + 6) (by omega) (by omega) ?_
  exact kinc _ _ _ hI _ _ _ (lv_sub hl [1, 2, 3, 4, 5] rfl) hP hD hS
set_option maxHeartbeats 4000000 in
set_option maxRecDepth 100000 in
theorem la_2 {Inv : CS → MS → Prop} (hX : lx_ p l s m meth c b L xs (dC, dI) cI cZ cJ A) (hj : 4 * j + 4 ≤ L) (hL : L ≤ 2048) (hc : cells + 1 ≤ room_1.cells) (hs : slots + 6 ≤ room_1.slots) (hst : st_2 Inv σ τ (xs (nI (4 * j) + nI 1).toNatClampNeg) (xs (nI (4 * j) + nI 2).toNatClampNeg) (xs (nI (4 * j) + nI 3).toNatClampNeg))
    (kinc : ∀ (σ1 : CS) (o1 : Nat → Int64) (τ1 : MS), Inv σ1 τ1 → bw_ p l e s m below meth c Q A (dC, dI) q r qo cI cZ cJ b (cells + 1) (slots + 6) 701 [(0, .ref b), (1, .ref (q 0)), (2, .ref (r 0)), (3, .ref qo), (4, .int (nI (4 * j)))] [] (σ1, o1, τ1)) :
    bw_ p l e s m below meth c Q A (dC, dI) q r qo cI cZ cJ b cells slots 177 [(0, .ref b), (1, .ref (q 0)), (2, .ref (r 0)), (3, .ref qo), (4, .int (nI (4 * j)))] [] (σ, o, τ) := by
  obtain ⟨hx, hb, hr, hml, hown, hB, hXs, hbl, hbA, hlocks, hK, hN, hT, hZ, hC, hA, hAA, htr⟩ := hX
  have hKc : va_K (dC, dI) vwCl [(cI, .int), (cZ, .boolean)] s := hK.sub [0, 1] rfl
  obtain ⟨v, n, k, σ1, b1, τ1, h1, h2, h3, hth, hvb, hI⟩ := hst
  intro ls H locs hl hP hD hS
  refine lv_aload_n hx hb nd_L_law_177 rfl (lv_at hl 1 rfl) ?_
  refine lv_aload_n hx hb nd_L_law_178 rfl (lv_at hl 0 rfl) ?_
  refine lv_iload hx hb nd_L_law_179 (lv_at hl 4 rfl) ?_
  refine lv_iconst (v := nI 1) hx hb nd_L_law_181 (by decide) ?_
  refine lv_iadd hx hb nd_L_law_182 ?_
  refine va_sld hx hb hXs hbl hbA hS (sc_in hj hL (by decide)) nd_L_law_183 ?_
  refine lv_aload_n hx hb nd_L_law_184 rfl (lv_at hl 3 rfl) ?_
  have hPh : va_P (dC, dI) vwCl (wh_ q qo cI cZ cJ (σ, o)) H := hP.sub [0, 1, 2, 3, 4, 5, 6, 7, 8, 9, 10, 11, 12, 13, 14, 15, 16] rfl
  have hDh : va_D A (wh_ q qo cI cZ cJ (σ, o)) := hD.sub [0, 1, 2, 3, 4, 5, 6, 7, 8, 9, 10, 11, 12, 13, 14, 15, 16] (by decide) rfl
  refine lc_h (vx_runSW (As := [.ref (q 0), .int (xs (nI (4 * j) + nI 1).toNatClampNeg), .ref qo]) (rest := []) ⟨hx, hb, hml, hown, hB⟩ (kh_L_vmalloc l dC dI q qo cI cZ cJ _ σ o (xs (nI (4 * j) + nI 1).toNatClampNeg) v n σ1 k htr h2 h1) (csw_ 3 hB (gi_ lk_379) rfl rfl rfl (hB _ lk_0) (hB _ lk_377) (hB _ lk_378) (by decide +kernel) ⟨(Nat.le_of_ble_eq_true rfl), (Nat.le_of_ble_eq_true rfl)⟩) ⟨blh_, preh_ hPh hK hDh hN hT hZ hC hS hA⟩ rfl rfl hl.1 rfl (lv_room (Nat.le_of_ble_eq_true rfl)) nd_L_law_185 ⟨hc, hs⟩) hP hD hS hA (fun H locs hP hD hS => ?_)
  generalize ho1 : (if n = 0 then vp_updL o 0 v.toInt64 else o) = o1 at hP hD
  refine lv_istore (lv' := [(5, .int k), (0, .ref b), (1, .ref (q 0)), (2, .ref (r 0)), (3, .ref qo), (4, .int (nI (4 * j)))]) hx hb nd_L_law_188 hl (by decide) rfl (fun ls hl => ?_)
  refine lv_aload_n hx hb nd_L_law_190 rfl (lv_at hl 3 rfl) ?_
  refine lv_aload_n hx hb nd_L_law_191 rfl (lv_at hl 1 rfl) ?_
  refine lv_iload hx hb nd_L_law_192 (lv_at hl 5 rfl) ?_
  refine lv_iconst (v := nI 1) hx hb nd_L_law_194 (by decide) ?_
  refine lv_iadd hx hb nd_L_law_195 ?_
  refine va_sld hx hb hXs hbl hbA hS (sc_in hj hL (by decide)) nd_L_law_196 ?_
  have hPm : va_P (dC, dI) vwCl (wd_M r cI cZ τ) H := hP.sub [17, 18, 19, 20, 21, 22, 23, 24, 25, 26] rfl
  have hDm : va_D A (wd_M r cI cZ τ) := hD.sub [17, 18, 19, 20, 21, 22, 23, 24, 25, 26] (by decide) rfl
  refine lc_m (va_runV (C := "MovedFramesModel") (As := [.int (xs (nI (4 * j) + nI 1).toNatClampNeg)]) (rest := []) ⟨hx, hb, hml, hown, hB⟩ (kw_M_vmalloc l dC dI r cI cZ _ τ (xs (nI (4 * j) + nI 1).toNatClampNeg) b1 τ1 h3) ⟨callB_of 1 hB (gi_ lk_713) rfl rfl rfl (hB _ lk_7) (hB _ lk_710) (by decide +kernel) ⟨(Nat.le_of_ble_eq_true rfl), (Nat.le_of_ble_eq_true rfl)⟩, hB _ lk_711, hB _ lk_712⟩ ⟨bl_, va_recv (ci := 6) (q0 := 0) hKc hPm rfl rfl, pre_ hPm hKc hDm hN⟩ rfl rfl hl.1 rfl (lv_room (Nat.le_of_ble_eq_true rfl)) nd_L_law_197 ⟨by omega, by omega⟩) hP hD hS hA (fun H locs hP hD hS => ?_)
  refine lv_istore (lv' := [(6, .int b1), (5, .int k), (0, .ref b), (1, .ref (q 0)), (2, .ref (r 0)), (3, .ref qo), (4, .int (nI (4 * j)))]) hx hb nd_L_law_200 hl (by decide) rfl (fun ls hl => ?_)
  refine lv_goto (tgt := 701) hx hb nd_L_law_202 (by decide) ?_
  refine W.widen (k := cells + 1) (n := slots + 6) (by omega) (by omega) ?_
  exact kinc _ _ _ hI _ _ _ (lv_sub hl [2, 3, 4, 5, 6] rfl) hP hD hS
set_option maxHeartbeats 4000000 in
set_option maxRecDepth 100000 in
theorem la_3 {Inv : CS → MS → Prop} (hX : lx_ p l s m meth c b L xs (dC, dI) cI cZ cJ A) (hj : 4 * j + 4 ≤ L) (hL : L ≤ 2048) (hc : cells + 1 ≤ room_1.cells) (hs : slots + 6 ≤ room_1.slots) (hst : st_3 Inv σ τ (xs (nI (4 * j) + nI 1).toNatClampNeg) (xs (nI (4 * j) + nI 2).toNatClampNeg) (xs (nI (4 * j) + nI 3).toNatClampNeg))
    (kinc : ∀ (σ1 : CS) (o1 : Nat → Int64) (τ1 : MS), Inv σ1 τ1 → bw_ p l e s m below meth c Q A (dC, dI) q r qo cI cZ cJ b (cells + 1) (slots + 6) 701 [(0, .ref b), (1, .ref (q 0)), (2, .ref (r 0)), (3, .ref qo), (4, .int (nI (4 * j)))] [] (σ1, o1, τ1)) :
    bw_ p l e s m below meth c Q A (dC, dI) q r qo cI cZ cJ b cells slots 205 [(0, .ref b), (1, .ref (q 0)), (2, .ref (r 0)), (3, .ref qo), (4, .int (nI (4 * j)))] [] (σ, o, τ) := by
  obtain ⟨hx, hb, hr, hml, hown, hB, hXs, hbl, hbA, hlocks, hK, hN, hT, hZ, hC, hA, hAA, htr⟩ := hX
  have hKc : va_K (dC, dI) vwCl [(cI, .int), (cZ, .boolean)] s := hK.sub [0, 1] rfl
  obtain ⟨v, n, k, σ1, b1, τ1, h1, h2, h3, hth, hvb, hI⟩ := hst
  intro ls H locs hl hP hD hS
  refine lv_aload_n hx hb nd_L_law_205 rfl (lv_at hl 1 rfl) ?_
  refine lv_aload_n hx hb nd_L_law_206 rfl (lv_at hl 0 rfl) ?_
  refine lv_iload hx hb nd_L_law_207 (lv_at hl 4 rfl) ?_
  refine lv_iconst (v := nI 1) hx hb nd_L_law_209 (by decide) ?_
  refine lv_iadd hx hb nd_L_law_210 ?_
  refine va_sld hx hb hXs hbl hbA hS (sc_in hj hL (by decide)) nd_L_law_211 ?_
  refine lv_aload_n hx hb nd_L_law_212 rfl (lv_at hl 3 rfl) ?_
  have hPh : va_P (dC, dI) vwCl (wh_ q qo cI cZ cJ (σ, o)) H := hP.sub [0, 1, 2, 3, 4, 5, 6, 7, 8, 9, 10, 11, 12, 13, 14, 15, 16] rfl
  have hDh : va_D A (wh_ q qo cI cZ cJ (σ, o)) := hD.sub [0, 1, 2, 3, 4, 5, 6, 7, 8, 9, 10, 11, 12, 13, 14, 15, 16] (by decide) rfl
  refine lc_h (vx_runSW (As := [.ref (q 0), .int (xs (nI (4 * j) + nI 1).toNatClampNeg), .ref qo]) (rest := []) ⟨hx, hb, hml, hown, hB⟩ (kh_L_vfree l dC dI q qo cI cZ cJ _ σ o (xs (nI (4 * j) + nI 1).toNatClampNeg) v n σ1 k htr h2 h1) (csw_ 3 hB (gi_ lk_397) rfl rfl rfl (hB _ lk_0) (hB _ lk_395) (hB _ lk_396) (by decide +kernel) ⟨(Nat.le_of_ble_eq_true rfl), (Nat.le_of_ble_eq_true rfl)⟩) ⟨blh_, preh_ hPh hK hDh hN hT hZ hC hS hA⟩ rfl rfl hl.1 rfl (lv_room (Nat.le_of_ble_eq_true rfl)) nd_L_law_213 ⟨hc, hs⟩) hP hD hS hA (fun H locs hP hD hS => ?_)
  generalize ho1 : (if n = 0 then vp_updL o 0 v.toInt64 else o) = o1 at hP hD
  refine lv_istore (lv' := [(5, .int k), (0, .ref b), (1, .ref (q 0)), (2, .ref (r 0)), (3, .ref qo), (4, .int (nI (4 * j)))]) hx hb nd_L_law_216 hl (by decide) rfl (fun ls hl => ?_)
  refine lv_aload_n hx hb nd_L_law_218 rfl (lv_at hl 3 rfl) ?_
  refine lv_aload_n hx hb nd_L_law_219 rfl (lv_at hl 1 rfl) ?_
  refine lv_iload hx hb nd_L_law_220 (lv_at hl 5 rfl) ?_
  refine lv_iconst (v := nI 1) hx hb nd_L_law_222 (by decide) ?_
  refine lv_iadd hx hb nd_L_law_223 ?_
  refine va_sld hx hb hXs hbl hbA hS (sc_in hj hL (by decide)) nd_L_law_224 ?_
  have hPm : va_P (dC, dI) vwCl (wd_M r cI cZ τ) H := hP.sub [17, 18, 19, 20, 21, 22, 23, 24, 25, 26] rfl
  have hDm : va_D A (wd_M r cI cZ τ) := hD.sub [17, 18, 19, 20, 21, 22, 23, 24, 25, 26] (by decide) rfl
  refine lc_m (va_runV (C := "MovedFramesModel") (As := [.int (xs (nI (4 * j) + nI 1).toNatClampNeg)]) (rest := []) ⟨hx, hb, hml, hown, hB⟩ (kw_M_vfree l dC dI r cI cZ _ τ (xs (nI (4 * j) + nI 1).toNatClampNeg) b1 τ1 h3) ⟨callB_of 1 hB (gi_ lk_721) rfl rfl rfl (hB _ lk_7) (hB _ lk_718) (by decide +kernel) ⟨(Nat.le_of_ble_eq_true rfl), (Nat.le_of_ble_eq_true rfl)⟩, hB _ lk_719, hB _ lk_720⟩ ⟨bl_, va_recv (ci := 6) (q0 := 0) hKc hPm rfl rfl, pre_ hPm hKc hDm hN⟩ rfl rfl hl.1 rfl (lv_room (Nat.le_of_ble_eq_true rfl)) nd_L_law_225 ⟨by omega, by omega⟩) hP hD hS hA (fun H locs hP hD hS => ?_)
  refine lv_istore (lv' := [(6, .int b1), (5, .int k), (0, .ref b), (1, .ref (q 0)), (2, .ref (r 0)), (3, .ref qo), (4, .int (nI (4 * j)))]) hx hb nd_L_law_228 hl (by decide) rfl (fun ls hl => ?_)
  refine lv_goto (tgt := 701) hx hb nd_L_law_230 (by decide) ?_
  refine W.widen (k := cells + 1) (n := slots + 6) (by omega) (by omega) ?_
  exact kinc _ _ _ hI _ _ _ (lv_sub hl [2, 3, 4, 5, 6] rfl) hP hD hS
set_option maxHeartbeats 4000000 in
set_option maxRecDepth 100000 in
theorem la_4 {Inv : CS → MS → Prop} (hX : lx_ p l s m meth c b L xs (dC, dI) cI cZ cJ A) (hj : 4 * j + 4 ≤ L) (hL : L ≤ 2048) (hc : cells + 1 ≤ room_1.cells) (hs : slots + 6 ≤ room_1.slots) (hst : st_4 Inv σ τ (xs (nI (4 * j) + nI 1).toNatClampNeg) (xs (nI (4 * j) + nI 2).toNatClampNeg) (xs (nI (4 * j) + nI 3).toNatClampNeg))
    (kinc : ∀ (σ1 : CS) (o1 : Nat → Int64) (τ1 : MS), Inv σ1 τ1 → bw_ p l e s m below meth c Q A (dC, dI) q r qo cI cZ cJ b (cells + 1) (slots + 6) 701 [(0, .ref b), (1, .ref (q 0)), (2, .ref (r 0)), (3, .ref qo), (4, .int (nI (4 * j)))] [] (σ1, o1, τ1)) :
    bw_ p l e s m below meth c Q A (dC, dI) q r qo cI cZ cJ b cells slots 233 [(0, .ref b), (1, .ref (q 0)), (2, .ref (r 0)), (3, .ref qo), (4, .int (nI (4 * j)))] [] (σ, o, τ) := by
  obtain ⟨hx, hb, hr, hml, hown, hB, hXs, hbl, hbA, hlocks, hK, hN, hT, hZ, hC, hA, hAA, htr⟩ := hX
  have hKc : va_K (dC, dI) vwCl [(cI, .int), (cZ, .boolean)] s := hK.sub [0, 1] rfl
  obtain ⟨v, n, k, σ1, b1, τ1, h1, h2, h3, hth, hvb, hI⟩ := hst
  intro ls H locs hl hP hD hS
  refine lv_aload_n hx hb nd_L_law_233 rfl (lv_at hl 1 rfl) ?_
  refine lv_aload_n hx hb nd_L_law_234 rfl (lv_at hl 3 rfl) ?_
  have hPh : va_P (dC, dI) vwCl (wh_ q qo cI cZ cJ (σ, o)) H := hP.sub [0, 1, 2, 3, 4, 5, 6, 7, 8, 9, 10, 11, 12, 13, 14, 15, 16] rfl
  have hDh : va_D A (wh_ q qo cI cZ cJ (σ, o)) := hD.sub [0, 1, 2, 3, 4, 5, 6, 7, 8, 9, 10, 11, 12, 13, 14, 15, 16] (by decide) rfl
  refine lc_h (vx_runSW (As := [.ref (q 0), .ref qo]) (rest := []) ⟨hx, hb, hml, hown, hB⟩ (kh_L_create l dC dI q qo cI cZ cJ _ σ o v n σ1 k htr h2 h1) (csw_ 2 hB (gi_ lk_409) rfl rfl rfl (hB _ lk_0) (hB _ lk_407) (hB _ lk_408) (by decide +kernel) ⟨(Nat.le_of_ble_eq_true rfl), (Nat.le_of_ble_eq_true rfl)⟩) ⟨blh_, preh_ hPh hK hDh hN hT hZ hC hS hA⟩ rfl rfl hl.1 rfl (lv_room (Nat.le_of_ble_eq_true rfl)) nd_L_law_235 ⟨hc, hs⟩) hP hD hS hA (fun H locs hP hD hS => ?_)
  generalize ho1 : (if n = 0 then vp_updL o 0 v.toInt64 else o) = o1 at hP hD
  refine lv_istore (lv' := [(5, .int k), (0, .ref b), (1, .ref (q 0)), (2, .ref (r 0)), (3, .ref qo), (4, .int (nI (4 * j)))]) hx hb nd_L_law_238 hl (by decide) rfl (fun ls hl => ?_)
  refine lv_aload_n hx hb nd_L_law_240 rfl (lv_at hl 3 rfl) ?_
  have hPm : va_P (dC, dI) vwCl (wd_M r cI cZ τ) H := hP.sub [17, 18, 19, 20, 21, 22, 23, 24, 25, 26] rfl
  have hDm : va_D A (wd_M r cI cZ τ) := hD.sub [17, 18, 19, 20, 21, 22, 23, 24, 25, 26] (by decide) rfl
  refine lc_m (va_runV (C := "MovedFramesModel") (As := []) (rest := []) ⟨hx, hb, hml, hown, hB⟩ (kw_M_create l dC dI r cI cZ _ τ b1 τ1 h3) ⟨callB_of 0 hB (gi_ lk_725) rfl rfl rfl (hB _ lk_7) (hB _ lk_722) (by decide +kernel) ⟨(Nat.le_of_ble_eq_true rfl), (Nat.le_of_ble_eq_true rfl)⟩, hB _ lk_723, hB _ lk_724⟩ ⟨bl_, va_recv (ci := 6) (q0 := 0) hKc hPm rfl rfl, pre_ hPm hKc hDm hN⟩ rfl rfl hl.1 rfl (lv_room (Nat.le_of_ble_eq_true rfl)) nd_L_law_241 ⟨by omega, by omega⟩) hP hD hS hA (fun H locs hP hD hS => ?_)
  refine lv_istore (lv' := [(6, .int b1), (5, .int k), (0, .ref b), (1, .ref (q 0)), (2, .ref (r 0)), (3, .ref qo), (4, .int (nI (4 * j)))]) hx hb nd_L_law_244 hl (by decide) rfl (fun ls hl => ?_)
  refine lv_goto (tgt := 701) hx hb nd_L_law_246 (by decide) ?_
  refine W.widen (k := cells + 1) (n := slots + 6) (by omega) (by omega) ?_
  exact kinc _ _ _ hI _ _ _ (lv_sub hl [2, 3, 4, 5, 6] rfl) hP hD hS
set_option maxHeartbeats 4000000 in
set_option maxRecDepth 100000 in
theorem la_5 {Inv : CS → MS → Prop} (hX : lx_ p l s m meth c b L xs (dC, dI) cI cZ cJ A) (hj : 4 * j + 4 ≤ L) (hL : L ≤ 2048) (hc : cells + 1 ≤ room_1.cells) (hs : slots + 6 ≤ room_1.slots) (hst : st_5 Inv σ τ (xs (nI (4 * j) + nI 1).toNatClampNeg) (xs (nI (4 * j) + nI 2).toNatClampNeg) (xs (nI (4 * j) + nI 3).toNatClampNeg))
    (kinc : ∀ (σ1 : CS) (o1 : Nat → Int64) (τ1 : MS), Inv σ1 τ1 → bw_ p l e s m below meth c Q A (dC, dI) q r qo cI cZ cJ b (cells + 1) (slots + 6) 701 [(0, .ref b), (1, .ref (q 0)), (2, .ref (r 0)), (3, .ref qo), (4, .int (nI (4 * j)))] [] (σ1, o1, τ1)) :
    bw_ p l e s m below meth c Q A (dC, dI) q r qo cI cZ cJ b cells slots 249 [(0, .ref b), (1, .ref (q 0)), (2, .ref (r 0)), (3, .ref qo), (4, .int (nI (4 * j)))] [] (σ, o, τ) := by
  obtain ⟨hx, hb, hr, hml, hown, hB, hXs, hbl, hbA, hlocks, hK, hN, hT, hZ, hC, hA, hAA, htr⟩ := hX
  have hKc : va_K (dC, dI) vwCl [(cI, .int), (cZ, .boolean)] s := hK.sub [0, 1] rfl
  obtain ⟨v, n, k, σ1, b1, τ1, h1, h2, h3, hth, hvb, hI⟩ := hst
  intro ls H locs hl hP hD hS
  refine lv_aload_n hx hb nd_L_law_249 rfl (lv_at hl 1 rfl) ?_
  refine lv_aload_n hx hb nd_L_law_250 rfl (lv_at hl 0 rfl) ?_
  refine lv_iload hx hb nd_L_law_251 (lv_at hl 4 rfl) ?_
  refine lv_iconst (v := nI 1) hx hb nd_L_law_253 (by decide) ?_
  refine lv_iadd hx hb nd_L_law_254 ?_
  refine va_sld hx hb hXs hbl hbA hS (sc_in hj hL (by decide)) nd_L_law_255 ?_
  refine lv_aload_n hx hb nd_L_law_256 rfl (lv_at hl 3 rfl) ?_
  have hPh : va_P (dC, dI) vwCl (wh_ q qo cI cZ cJ (σ, o)) H := hP.sub [0, 1, 2, 3, 4, 5, 6, 7, 8, 9, 10, 11, 12, 13, 14, 15, 16] rfl
  have hDh : va_D A (wh_ q qo cI cZ cJ (σ, o)) := hD.sub [0, 1, 2, 3, 4, 5, 6, 7, 8, 9, 10, 11, 12, 13, 14, 15, 16] (by decide) rfl
  refine lc_h (vx_runSW (As := [.ref (q 0), .int (xs (nI (4 * j) + nI 1).toNatClampNeg), .ref qo]) (rest := []) ⟨hx, hb, hml, hown, hB⟩ (kh_L_destroy l dC dI q qo cI cZ cJ _ σ o (xs (nI (4 * j) + nI 1).toNatClampNeg) v n σ1 k htr h2 h1) (csw_ 3 hB (gi_ lk_421) rfl rfl rfl (hB _ lk_0) (hB _ lk_419) (hB _ lk_420) (by decide +kernel) ⟨(Nat.le_of_ble_eq_true rfl), (Nat.le_of_ble_eq_true rfl)⟩) ⟨blh_, preh_ hPh hK hDh hN hT hZ hC hS hA⟩ rfl rfl hl.1 rfl (lv_room (Nat.le_of_ble_eq_true rfl)) nd_L_law_257 ⟨hc, hs⟩) hP hD hS hA (fun H locs hP hD hS => ?_)
  generalize ho1 : (if n = 0 then vp_updL o 0 v.toInt64 else o) = o1 at hP hD
  refine lv_istore (lv' := [(5, .int k), (0, .ref b), (1, .ref (q 0)), (2, .ref (r 0)), (3, .ref qo), (4, .int (nI (4 * j)))]) hx hb nd_L_law_260 hl (by decide) rfl (fun ls hl => ?_)
  refine lv_aload_n hx hb nd_L_law_262 rfl (lv_at hl 3 rfl) ?_
  refine lv_aload_n hx hb nd_L_law_263 rfl (lv_at hl 1 rfl) ?_
  refine lv_iload hx hb nd_L_law_264 (lv_at hl 5 rfl) ?_
  refine lv_iconst (v := nI 1) hx hb nd_L_law_266 (by decide) ?_
  refine lv_iadd hx hb nd_L_law_267 ?_
  refine va_sld hx hb hXs hbl hbA hS (sc_in hj hL (by decide)) nd_L_law_268 ?_
  have hPm : va_P (dC, dI) vwCl (wd_M r cI cZ τ) H := hP.sub [17, 18, 19, 20, 21, 22, 23, 24, 25, 26] rfl
  have hDm : va_D A (wd_M r cI cZ τ) := hD.sub [17, 18, 19, 20, 21, 22, 23, 24, 25, 26] (by decide) rfl
  refine lc_m (va_runV (C := "MovedFramesModel") (As := [.int (xs (nI (4 * j) + nI 1).toNatClampNeg)]) (rest := []) ⟨hx, hb, hml, hown, hB⟩ (kw_M_destroy l dC dI r cI cZ _ τ (xs (nI (4 * j) + nI 1).toNatClampNeg) b1 τ1 h3) ⟨callB_of 1 hB (gi_ lk_729) rfl rfl rfl (hB _ lk_7) (hB _ lk_726) (by decide +kernel) ⟨(Nat.le_of_ble_eq_true rfl), (Nat.le_of_ble_eq_true rfl)⟩, hB _ lk_727, hB _ lk_728⟩ ⟨bl_, va_recv (ci := 6) (q0 := 0) hKc hPm rfl rfl, pre_ hPm hKc hDm hN⟩ rfl rfl hl.1 rfl (lv_room (Nat.le_of_ble_eq_true rfl)) nd_L_law_269 ⟨by omega, by omega⟩) hP hD hS hA (fun H locs hP hD hS => ?_)
  refine lv_istore (lv' := [(6, .int b1), (5, .int k), (0, .ref b), (1, .ref (q 0)), (2, .ref (r 0)), (3, .ref qo), (4, .int (nI (4 * j)))]) hx hb nd_L_law_272 hl (by decide) rfl (fun ls hl => ?_)
  refine lv_goto (tgt := 701) hx hb nd_L_law_274 (by decide) ?_
  refine W.widen (k := cells + 1) (n := slots + 6) (by omega) (by omega) ?_
  exact kinc _ _ _ hI _ _ _ (lv_sub hl [2, 3, 4, 5, 6] rfl) hP hD hS
set_option maxHeartbeats 4000000 in
set_option maxRecDepth 100000 in
theorem la_6 {Inv : CS → MS → Prop} (hX : lx_ p l s m meth c b L xs (dC, dI) cI cZ cJ A) (hj : 4 * j + 4 ≤ L) (hL : L ≤ 2048) (hc : cells + 1 ≤ room_1.cells) (hs : slots + 6 ≤ room_1.slots) (hst : st_6 Inv σ τ (xs (nI (4 * j) + nI 1).toNatClampNeg) (xs (nI (4 * j) + nI 2).toNatClampNeg) (xs (nI (4 * j) + nI 3).toNatClampNeg))
    (kinc : ∀ (σ1 : CS) (o1 : Nat → Int64) (τ1 : MS), Inv σ1 τ1 → bw_ p l e s m below meth c Q A (dC, dI) q r qo cI cZ cJ b (cells + 1) (slots + 6) 701 [(0, .ref b), (1, .ref (q 0)), (2, .ref (r 0)), (3, .ref qo), (4, .int (nI (4 * j)))] [] (σ1, o1, τ1)) :
    bw_ p l e s m below meth c Q A (dC, dI) q r qo cI cZ cJ b cells slots 277 [(0, .ref b), (1, .ref (q 0)), (2, .ref (r 0)), (3, .ref qo), (4, .int (nI (4 * j)))] [] (σ, o, τ) := by
  obtain ⟨hx, hb, hr, hml, hown, hB, hXs, hbl, hbA, hlocks, hK, hN, hT, hZ, hC, hA, hAA, htr⟩ := hX
  have hKc : va_K (dC, dI) vwCl [(cI, .int), (cZ, .boolean)] s := hK.sub [0, 1] rfl
  obtain ⟨v, n, k, σ1, τ1, h1, h2, h3, hth, hvb, hI⟩ := hst
  intro ls H locs hl hP hD hS
  refine lv_aload_n hx hb nd_L_law_277 rfl (lv_at hl 1 rfl) ?_
  refine lv_aload_n hx hb nd_L_law_278 rfl (lv_at hl 0 rfl) ?_
  refine lv_iload hx hb nd_L_law_279 (lv_at hl 4 rfl) ?_
  refine lv_iconst (v := nI 1) hx hb nd_L_law_281 (by decide) ?_
  refine lv_iadd hx hb nd_L_law_282 ?_
  refine va_sld hx hb hXs hbl hbA hS (sc_in hj hL (by decide)) nd_L_law_283 ?_
  refine lv_aload_n hx hb nd_L_law_284 rfl (lv_at hl 0 rfl) ?_
  refine lv_iload hx hb nd_L_law_285 (lv_at hl 4 rfl) ?_
  refine lv_iconst (v := nI 2) hx hb nd_L_law_287 (by decide) ?_
  refine lv_iadd hx hb nd_L_law_288 ?_
  refine va_sld hx hb hXs hbl hbA hS (sc_in hj hL (by decide)) nd_L_law_289 ?_
  refine lv_aload_n hx hb nd_L_law_290 rfl (lv_at hl 0 rfl) ?_
  refine lv_iload hx hb nd_L_law_291 (lv_at hl 4 rfl) ?_
  refine lv_iconst (v := nI 3) hx hb nd_L_law_293 (by decide) ?_
  refine lv_iadd hx hb nd_L_law_294 ?_
  refine va_sld hx hb hXs hbl hbA hS (sc_in hj hL (by decide)) nd_L_law_295 ?_
  have hPh : va_P (dC, dI) vwCl (wh_ q qo cI cZ cJ (σ, o)) H := hP.sub [0, 1, 2, 3, 4, 5, 6, 7, 8, 9, 10, 11, 12, 13, 14, 15, 16] rfl
  have hDh : va_D A (wh_ q qo cI cZ cJ (σ, o)) := hD.sub [0, 1, 2, 3, 4, 5, 6, 7, 8, 9, 10, 11, 12, 13, 14, 15, 16] (by decide) rfl
  refine lc_h (vx_runSW (As := [.ref (q 0), .int (xs (nI (4 * j) + nI 1).toNatClampNeg), .int (xs (nI (4 * j) + nI 2).toNatClampNeg), .int (xs (nI (4 * j) + nI 3).toNatClampNeg)]) (rest := []) ⟨hx, hb, hml, hown, hB⟩ (kh_L_mmap l dC dI q qo cI cZ cJ _ σ o (xs (nI (4 * j) + nI 1).toNatClampNeg) (xs (nI (4 * j) + nI 2).toNatClampNeg) (xs (nI (4 * j) + nI 3).toNatClampNeg) v n σ1 k htr h2 h1) (csw_ 4 hB (gi_ lk_441) rfl rfl rfl (hB _ lk_0) (hB _ lk_439) (hB _ lk_440) (by decide +kernel) ⟨(Nat.le_of_ble_eq_true rfl), (Nat.le_of_ble_eq_true rfl)⟩) ⟨blh_, preh_ hPh hK hDh hN hT hZ hC hS hA⟩ rfl rfl hl.1 rfl (lv_room (Nat.le_of_ble_eq_true rfl)) nd_L_law_296 ⟨hc, hs⟩) hP hD hS hA (fun H locs hP hD hS => ?_)
  refine lv_istore (lv' := [(5, .int k), (0, .ref b), (1, .ref (q 0)), (2, .ref (r 0)), (3, .ref qo), (4, .int (nI (4 * j)))]) hx hb nd_L_law_299 hl (by decide) rfl (fun ls hl => ?_)
  refine lv_aload_n hx hb nd_L_law_301 rfl (lv_at hl 3 rfl) ?_
  refine lv_aload_n hx hb nd_L_law_302 rfl (lv_at hl 1 rfl) ?_
  refine lv_iload hx hb nd_L_law_303 (lv_at hl 5 rfl) ?_
  refine lv_iconst (v := nI 1) hx hb nd_L_law_305 (by decide) ?_
  refine lv_iadd hx hb nd_L_law_306 ?_
  refine va_sld hx hb hXs hbl hbA hS (sc_in hj hL (by decide)) nd_L_law_307 ?_
  refine lv_aload_n hx hb nd_L_law_308 rfl (lv_at hl 1 rfl) ?_
  refine lv_iload hx hb nd_L_law_309 (lv_at hl 5 rfl) ?_
  refine lv_iconst (v := nI 2) hx hb nd_L_law_311 (by decide) ?_
  refine lv_iadd hx hb nd_L_law_312 ?_
  refine va_sld hx hb hXs hbl hbA hS (sc_in hj hL (by decide)) nd_L_law_313 ?_
  refine lv_aload_n hx hb nd_L_law_314 rfl (lv_at hl 1 rfl) ?_
  refine lv_iload hx hb nd_L_law_315 (lv_at hl 5 rfl) ?_
  refine lv_iconst (v := nI 3) hx hb nd_L_law_317 (by decide) ?_
  refine lv_iadd hx hb nd_L_law_318 ?_
  refine va_sld hx hb hXs hbl hbA hS (sc_in hj hL (by decide)) nd_L_law_319 ?_
  have hPm : va_P (dC, dI) vwCl (wd_M r cI cZ τ) H := hP.sub [17, 18, 19, 20, 21, 22, 23, 24, 25, 26] rfl
  have hDm : va_D A (wd_M r cI cZ τ) := hD.sub [17, 18, 19, 20, 21, 22, 23, 24, 25, 26] (by decide) rfl
  refine lc_mv (va_runV (C := "MovedFramesModel") (As := [.int (xs (nI (4 * j) + nI 1).toNatClampNeg), .int (xs (nI (4 * j) + nI 2).toNatClampNeg), .int (xs (nI (4 * j) + nI 3).toNatClampNeg)]) (rest := []) ⟨hx, hb, hml, hown, hB⟩ (kw_M_mmap l dC dI r cI cZ _ τ (xs (nI (4 * j) + nI 1).toNatClampNeg) (xs (nI (4 * j) + nI 2).toNatClampNeg) (xs (nI (4 * j) + nI 3).toNatClampNeg) τ1 h3) ⟨callB_of 3 hB (gi_ lk_757) rfl rfl rfl (hB _ lk_7) (hB _ lk_754) (by decide +kernel) ⟨(Nat.le_of_ble_eq_true rfl), (Nat.le_of_ble_eq_true rfl)⟩, hB _ lk_755, hB _ lk_756⟩ ⟨bl_, va_recv (ci := 6) (q0 := 0) hKc hPm rfl rfl, pre_ hPm hKc hDm hN⟩ rfl rfl hl.1 rfl (lv_room (Nat.le_of_ble_eq_true rfl)) nd_L_law_320 ⟨by omega, by omega⟩) hP hD hS hA (fun H locs hP hD hS => ?_)
  refine lv_goto (tgt := 701) hx hb nd_L_law_323 (by decide) ?_
  refine W.widen (k := cells + 1) (n := slots + 6) (by omega) (by omega) ?_
  exact kinc _ _ _ hI _ _ _ (lv_sub hl [1, 2, 3, 4, 5] rfl) hP hD hS
set_option maxHeartbeats 4000000 in
set_option maxRecDepth 100000 in
theorem la_7 {Inv : CS → MS → Prop} (hX : lx_ p l s m meth c b L xs (dC, dI) cI cZ cJ A) (hj : 4 * j + 4 ≤ L) (hL : L ≤ 2048) (hc : cells + 1 ≤ room_1.cells) (hs : slots + 6 ≤ room_1.slots) (hst : st_7 Inv σ τ (xs (nI (4 * j) + nI 1).toNatClampNeg) (xs (nI (4 * j) + nI 2).toNatClampNeg) (xs (nI (4 * j) + nI 3).toNatClampNeg))
    (kinc : ∀ (σ1 : CS) (o1 : Nat → Int64) (τ1 : MS), Inv σ1 τ1 → bw_ p l e s m below meth c Q A (dC, dI) q r qo cI cZ cJ b (cells + 1) (slots + 6) 701 [(0, .ref b), (1, .ref (q 0)), (2, .ref (r 0)), (3, .ref qo), (4, .int (nI (4 * j)))] [] (σ1, o1, τ1)) :
    bw_ p l e s m below meth c Q A (dC, dI) q r qo cI cZ cJ b cells slots 326 [(0, .ref b), (1, .ref (q 0)), (2, .ref (r 0)), (3, .ref qo), (4, .int (nI (4 * j)))] [] (σ, o, τ) := by
  obtain ⟨hx, hb, hr, hml, hown, hB, hXs, hbl, hbA, hlocks, hK, hN, hT, hZ, hC, hA, hAA, htr⟩ := hX
  have hKc : va_K (dC, dI) vwCl [(cI, .int), (cZ, .boolean)] s := hK.sub [0, 1] rfl
  obtain ⟨v, n, k, σ1, b1, τ1, h1, h2, h3, hth, hvb, hI⟩ := hst
  intro ls H locs hl hP hD hS
  refine lv_aload_n hx hb nd_L_law_326 rfl (lv_at hl 1 rfl) ?_
  refine lv_aload_n hx hb nd_L_law_327 rfl (lv_at hl 0 rfl) ?_
  refine lv_iload hx hb nd_L_law_328 (lv_at hl 4 rfl) ?_
  refine lv_iconst (v := nI 1) hx hb nd_L_law_330 (by decide) ?_
  refine lv_iadd hx hb nd_L_law_331 ?_
  refine va_sld hx hb hXs hbl hbA hS (sc_in hj hL (by decide)) nd_L_law_332 ?_
  refine lv_aload_n hx hb nd_L_law_333 rfl (lv_at hl 0 rfl) ?_
  refine lv_iload hx hb nd_L_law_334 (lv_at hl 4 rfl) ?_
  refine lv_iconst (v := nI 2) hx hb nd_L_law_336 (by decide) ?_
  refine lv_iadd hx hb nd_L_law_337 ?_
  refine va_sld hx hb hXs hbl hbA hS (sc_in hj hL (by decide)) nd_L_law_338 ?_
  refine lv_aload_n hx hb nd_L_law_339 rfl (lv_at hl 0 rfl) ?_
  refine lv_iload hx hb nd_L_law_340 (lv_at hl 4 rfl) ?_
  refine lv_iconst (v := nI 3) hx hb nd_L_law_342 (by decide) ?_
  refine lv_iadd hx hb nd_L_law_343 ?_
  refine va_sld hx hb hXs hbl hbA hS (sc_in hj hL (by decide)) nd_L_law_344 ?_
  refine lv_aload_n hx hb nd_L_law_345 rfl (lv_at hl 3 rfl) ?_
  have hPh : va_P (dC, dI) vwCl (wh_ q qo cI cZ cJ (σ, o)) H := hP.sub [0, 1, 2, 3, 4, 5, 6, 7, 8, 9, 10, 11, 12, 13, 14, 15, 16] rfl
  have hDh : va_D A (wh_ q qo cI cZ cJ (σ, o)) := hD.sub [0, 1, 2, 3, 4, 5, 6, 7, 8, 9, 10, 11, 12, 13, 14, 15, 16] (by decide) rfl
  refine lc_h (vx_runSW (As := [.ref (q 0), .int (xs (nI (4 * j) + nI 1).toNatClampNeg), .int (xs (nI (4 * j) + nI 2).toNatClampNeg), .int (xs (nI (4 * j) + nI 3).toNatClampNeg), .ref qo]) (rest := []) ⟨hx, hb, hml, hown, hB⟩ (kh_L_munmap l dC dI q qo cI cZ cJ _ σ o (xs (nI (4 * j) + nI 1).toNatClampNeg) (xs (nI (4 * j) + nI 2).toNatClampNeg) (xs (nI (4 * j) + nI 3).toNatClampNeg) v n σ1 k htr h2 h1) (csw_ 5 hB (gi_ lk_476) rfl rfl rfl (hB _ lk_0) (hB _ lk_474) (hB _ lk_475) (by decide +kernel) ⟨(Nat.le_of_ble_eq_true rfl), (Nat.le_of_ble_eq_true rfl)⟩) ⟨blh_, preh_ hPh hK hDh hN hT hZ hC hS hA⟩ rfl rfl hl.1 rfl (lv_room (Nat.le_of_ble_eq_true rfl)) nd_L_law_346 ⟨hc, hs⟩) hP hD hS hA (fun H locs hP hD hS => ?_)
  generalize ho1 : (if n = 0 then vp_updL o 0 v.toInt64 else o) = o1 at hP hD
  refine lv_istore (lv' := [(5, .int k), (0, .ref b), (1, .ref (q 0)), (2, .ref (r 0)), (3, .ref qo), (4, .int (nI (4 * j)))]) hx hb nd_L_law_349 hl (by decide) rfl (fun ls hl => ?_)
  refine lv_aload_n hx hb nd_L_law_351 rfl (lv_at hl 3 rfl) ?_
  refine lv_aload_n hx hb nd_L_law_352 rfl (lv_at hl 1 rfl) ?_
  refine lv_iload hx hb nd_L_law_353 (lv_at hl 5 rfl) ?_
  refine lv_iconst (v := nI 1) hx hb nd_L_law_355 (by decide) ?_
  refine lv_iadd hx hb nd_L_law_356 ?_
  refine va_sld hx hb hXs hbl hbA hS (sc_in hj hL (by decide)) nd_L_law_357 ?_
  refine lv_aload_n hx hb nd_L_law_358 rfl (lv_at hl 1 rfl) ?_
  refine lv_iload hx hb nd_L_law_359 (lv_at hl 5 rfl) ?_
  refine lv_iconst (v := nI 2) hx hb nd_L_law_361 (by decide) ?_
  refine lv_iadd hx hb nd_L_law_362 ?_
  refine va_sld hx hb hXs hbl hbA hS (sc_in hj hL (by decide)) nd_L_law_363 ?_
  refine lv_aload_n hx hb nd_L_law_364 rfl (lv_at hl 1 rfl) ?_
  refine lv_iload hx hb nd_L_law_365 (lv_at hl 5 rfl) ?_
  refine lv_iconst (v := nI 3) hx hb nd_L_law_367 (by decide) ?_
  refine lv_iadd hx hb nd_L_law_368 ?_
  refine va_sld hx hb hXs hbl hbA hS (sc_in hj hL (by decide)) nd_L_law_369 ?_
  have hPm : va_P (dC, dI) vwCl (wd_M r cI cZ τ) H := hP.sub [17, 18, 19, 20, 21, 22, 23, 24, 25, 26] rfl
  have hDm : va_D A (wd_M r cI cZ τ) := hD.sub [17, 18, 19, 20, 21, 22, 23, 24, 25, 26] (by decide) rfl
  refine lc_m (va_runV (C := "MovedFramesModel") (As := [.int (xs (nI (4 * j) + nI 1).toNatClampNeg), .int (xs (nI (4 * j) + nI 2).toNatClampNeg), .int (xs (nI (4 * j) + nI 3).toNatClampNeg)]) (rest := []) ⟨hx, hb, hml, hown, hB⟩ (kw_M_munmap l dC dI r cI cZ _ τ (xs (nI (4 * j) + nI 1).toNatClampNeg) (xs (nI (4 * j) + nI 2).toNatClampNeg) (xs (nI (4 * j) + nI 3).toNatClampNeg) b1 τ1 h3) ⟨callB_of 3 hB (gi_ lk_764) rfl rfl rfl (hB _ lk_7) (hB _ lk_761) (by decide +kernel) ⟨(Nat.le_of_ble_eq_true rfl), (Nat.le_of_ble_eq_true rfl)⟩, hB _ lk_762, hB _ lk_763⟩ ⟨bl_, va_recv (ci := 6) (q0 := 0) hKc hPm rfl rfl, pre_ hPm hKc hDm hN⟩ rfl rfl hl.1 rfl (lv_room (Nat.le_of_ble_eq_true rfl)) nd_L_law_370 ⟨by omega, by omega⟩) hP hD hS hA (fun H locs hP hD hS => ?_)
  refine lv_istore (lv' := [(6, .int b1), (5, .int k), (0, .ref b), (1, .ref (q 0)), (2, .ref (r 0)), (3, .ref qo), (4, .int (nI (4 * j)))]) hx hb nd_L_law_373 hl (by decide) rfl (fun ls hl => ?_)
  refine lv_goto (tgt := 701) hx hb nd_L_law_375 (by decide) ?_
  refine W.widen (k := cells + 1) (n := slots + 6) (by omega) (by omega) ?_
  exact kinc _ _ _ hI _ _ _ (lv_sub hl [2, 3, 4, 5, 6] rfl) hP hD hS
set_option maxHeartbeats 4000000 in
set_option maxRecDepth 100000 in
theorem la_8 {Inv : CS → MS → Prop} (hX : lx_ p l s m meth c b L xs (dC, dI) cI cZ cJ A) (hj : 4 * j + 4 ≤ L) (hL : L ≤ 2048) (hc : cells + 1 ≤ room_1.cells) (hs : slots + 6 ≤ room_1.slots) (hst : st_8 Inv σ τ (xs (nI (4 * j) + nI 1).toNatClampNeg) (xs (nI (4 * j) + nI 2).toNatClampNeg) (xs (nI (4 * j) + nI 3).toNatClampNeg))
    (kinc : ∀ (σ1 : CS) (o1 : Nat → Int64) (τ1 : MS), Inv σ1 τ1 → bw_ p l e s m below meth c Q A (dC, dI) q r qo cI cZ cJ b (cells + 1) (slots + 6) 701 [(0, .ref b), (1, .ref (q 0)), (2, .ref (r 0)), (3, .ref qo), (4, .int (nI (4 * j)))] [] (σ1, o1, τ1)) :
    bw_ p l e s m below meth c Q A (dC, dI) q r qo cI cZ cJ b cells slots 378 [(0, .ref b), (1, .ref (q 0)), (2, .ref (r 0)), (3, .ref qo), (4, .int (nI (4 * j)))] [] (σ, o, τ) := by
  obtain ⟨hx, hb, hr, hml, hown, hB, hXs, hbl, hbA, hlocks, hK, hN, hT, hZ, hC, hA, hAA, htr⟩ := hX
  have hKc : va_K (dC, dI) vwCl [(cI, .int), (cZ, .boolean)] s := hK.sub [0, 1] rfl
  obtain ⟨v, n, k, σ1, b1, τ1, h1, h2, h3, hth, hvb, hI⟩ := hst
  intro ls H locs hl hP hD hS
  refine lv_aload_n hx hb nd_L_law_378 rfl (lv_at hl 1 rfl) ?_
  refine lv_aload_n hx hb nd_L_law_379 rfl (lv_at hl 0 rfl) ?_
  refine lv_iload hx hb nd_L_law_380 (lv_at hl 4 rfl) ?_
  refine lv_iconst (v := nI 1) hx hb nd_L_law_382 (by decide) ?_
  refine lv_iadd hx hb nd_L_law_383 ?_
  refine va_sld hx hb hXs hbl hbA hS (sc_in hj hL (by decide)) nd_L_law_384 ?_
  refine lv_aload_n hx hb nd_L_law_385 rfl (lv_at hl 0 rfl) ?_
  refine lv_iload hx hb nd_L_law_386 (lv_at hl 4 rfl) ?_
  refine lv_iconst (v := nI 2) hx hb nd_L_law_388 (by decide) ?_
  refine lv_iadd hx hb nd_L_law_389 ?_
  refine va_sld hx hb hXs hbl hbA hS (sc_in hj hL (by decide)) nd_L_law_390 ?_
  refine lv_aload_n hx hb nd_L_law_391 rfl (lv_at hl 3 rfl) ?_
  have hPh : va_P (dC, dI) vwCl (wh_ q qo cI cZ cJ (σ, o)) H := hP.sub [0, 1, 2, 3, 4, 5, 6, 7, 8, 9, 10, 11, 12, 13, 14, 15, 16] rfl
  have hDh : va_D A (wh_ q qo cI cZ cJ (σ, o)) := hD.sub [0, 1, 2, 3, 4, 5, 6, 7, 8, 9, 10, 11, 12, 13, 14, 15, 16] (by decide) rfl
  refine lc_h (vx_runSW (As := [.ref (q 0), .int (xs (nI (4 * j) + nI 1).toNatClampNeg), .int (xs (nI (4 * j) + nI 2).toNatClampNeg), .ref qo]) (rest := []) ⟨hx, hb, hml, hown, hB⟩ (kh_L_load l dC dI q qo cI cZ cJ _ σ o (xs (nI (4 * j) + nI 1).toNatClampNeg) (xs (nI (4 * j) + nI 2).toNatClampNeg) v n σ1 k htr h2 h1) (csw_ 4 hB (gi_ lk_497) rfl rfl rfl (hB _ lk_0) (hB _ lk_495) (hB _ lk_496) (by decide +kernel) ⟨(Nat.le_of_ble_eq_true rfl), (Nat.le_of_ble_eq_true rfl)⟩) ⟨blh_, preh_ hPh hK hDh hN hT hZ hC hS hA⟩ rfl rfl hl.1 rfl (lv_room (Nat.le_of_ble_eq_true rfl)) nd_L_law_392 ⟨hc, hs⟩) hP hD hS hA (fun H locs hP hD hS => ?_)
  generalize ho1 : (if n = 0 then vp_updL o 0 v.toInt64 else o) = o1 at hP hD
  refine lv_istore (lv' := [(5, .int k), (0, .ref b), (1, .ref (q 0)), (2, .ref (r 0)), (3, .ref qo), (4, .int (nI (4 * j)))]) hx hb nd_L_law_395 hl (by decide) rfl (fun ls hl => ?_)
  refine lv_aload_n hx hb nd_L_law_397 rfl (lv_at hl 3 rfl) ?_
  refine lv_aload_n hx hb nd_L_law_398 rfl (lv_at hl 1 rfl) ?_
  refine lv_iload hx hb nd_L_law_399 (lv_at hl 5 rfl) ?_
  refine lv_iconst (v := nI 1) hx hb nd_L_law_401 (by decide) ?_
  refine lv_iadd hx hb nd_L_law_402 ?_
  refine va_sld hx hb hXs hbl hbA hS (sc_in hj hL (by decide)) nd_L_law_403 ?_
  refine lv_aload_n hx hb nd_L_law_404 rfl (lv_at hl 1 rfl) ?_
  refine lv_iload hx hb nd_L_law_405 (lv_at hl 5 rfl) ?_
  refine lv_iconst (v := nI 2) hx hb nd_L_law_407 (by decide) ?_
  refine lv_iadd hx hb nd_L_law_408 ?_
  refine va_sld hx hb hXs hbl hbA hS (sc_in hj hL (by decide)) nd_L_law_409 ?_
  have hPm : va_P (dC, dI) vwCl (wd_M r cI cZ τ) H := hP.sub [17, 18, 19, 20, 21, 22, 23, 24, 25, 26] rfl
  have hDm : va_D A (wd_M r cI cZ τ) := hD.sub [17, 18, 19, 20, 21, 22, 23, 24, 25, 26] (by decide) rfl
  refine lc_m (va_runV (C := "MovedFramesModel") (As := [.int (xs (nI (4 * j) + nI 1).toNatClampNeg), .int (xs (nI (4 * j) + nI 2).toNatClampNeg)]) (rest := []) ⟨hx, hb, hml, hown, hB⟩ (kw_M_load l dC dI r cI cZ _ τ (xs (nI (4 * j) + nI 1).toNatClampNeg) (xs (nI (4 * j) + nI 2).toNatClampNeg) b1 τ1 h3) ⟨callB_of 2 hB (gi_ lk_768) rfl rfl rfl (hB _ lk_7) (hB _ lk_765) (by decide +kernel) ⟨(Nat.le_of_ble_eq_true rfl), (Nat.le_of_ble_eq_true rfl)⟩, hB _ lk_766, hB _ lk_767⟩ ⟨bl_, va_recv (ci := 6) (q0 := 0) hKc hPm rfl rfl, pre_ hPm hKc hDm hN⟩ rfl rfl hl.1 rfl (lv_room (Nat.le_of_ble_eq_true rfl)) nd_L_law_410 ⟨by omega, by omega⟩) hP hD hS hA (fun H locs hP hD hS => ?_)
  refine lv_istore (lv' := [(6, .int b1), (5, .int k), (0, .ref b), (1, .ref (q 0)), (2, .ref (r 0)), (3, .ref qo), (4, .int (nI (4 * j)))]) hx hb nd_L_law_413 hl (by decide) rfl (fun ls hl => ?_)
  refine lv_goto (tgt := 701) hx hb nd_L_law_415 (by decide) ?_
  refine W.widen (k := cells + 1) (n := slots + 6) (by omega) (by omega) ?_
  exact kinc _ _ _ hI _ _ _ (lv_sub hl [2, 3, 4, 5, 6] rfl) hP hD hS
set_option maxHeartbeats 4000000 in
set_option maxRecDepth 100000 in
theorem la_9 {Inv : CS → MS → Prop} (hX : lx_ p l s m meth c b L xs (dC, dI) cI cZ cJ A) (hj : 4 * j + 4 ≤ L) (hL : L ≤ 2048) (hc : cells + 1 ≤ room_1.cells) (hs : slots + 6 ≤ room_1.slots) (hst : st_9 Inv σ τ (xs (nI (4 * j) + nI 1).toNatClampNeg) (xs (nI (4 * j) + nI 2).toNatClampNeg) (xs (nI (4 * j) + nI 3).toNatClampNeg))
    (kinc : ∀ (σ1 : CS) (o1 : Nat → Int64) (τ1 : MS), Inv σ1 τ1 → bw_ p l e s m below meth c Q A (dC, dI) q r qo cI cZ cJ b (cells + 1) (slots + 6) 701 [(0, .ref b), (1, .ref (q 0)), (2, .ref (r 0)), (3, .ref qo), (4, .int (nI (4 * j)))] [] (σ1, o1, τ1)) :
    bw_ p l e s m below meth c Q A (dC, dI) q r qo cI cZ cJ b cells slots 418 [(0, .ref b), (1, .ref (q 0)), (2, .ref (r 0)), (3, .ref qo), (4, .int (nI (4 * j)))] [] (σ, o, τ) := by
  obtain ⟨hx, hb, hr, hml, hown, hB, hXs, hbl, hbA, hlocks, hK, hN, hT, hZ, hC, hA, hAA, htr⟩ := hX
  have hKc : va_K (dC, dI) vwCl [(cI, .int), (cZ, .boolean)] s := hK.sub [0, 1] rfl
  obtain ⟨v, n, k, σ1, τ1, h1, h2, h3, hth, hvb, hI⟩ := hst
  intro ls H locs hl hP hD hS
  refine lv_aload_n hx hb nd_L_law_418 rfl (lv_at hl 1 rfl) ?_
  refine lv_aload_n hx hb nd_L_law_419 rfl (lv_at hl 0 rfl) ?_
  refine lv_iload hx hb nd_L_law_420 (lv_at hl 4 rfl) ?_
  refine lv_iconst (v := nI 1) hx hb nd_L_law_422 (by decide) ?_
  refine lv_iadd hx hb nd_L_law_423 ?_
  refine va_sld hx hb hXs hbl hbA hS (sc_in hj hL (by decide)) nd_L_law_424 ?_
  refine lv_aload_n hx hb nd_L_law_425 rfl (lv_at hl 0 rfl) ?_
  refine lv_iload hx hb nd_L_law_426 (lv_at hl 4 rfl) ?_
  refine lv_iconst (v := nI 2) hx hb nd_L_law_428 (by decide) ?_
  refine lv_iadd hx hb nd_L_law_429 ?_
  refine va_sld hx hb hXs hbl hbA hS (sc_in hj hL (by decide)) nd_L_law_430 ?_
  refine lv_aload_n hx hb nd_L_law_431 rfl (lv_at hl 0 rfl) ?_
  refine lv_iload hx hb nd_L_law_432 (lv_at hl 4 rfl) ?_
  refine lv_iconst (v := nI 3) hx hb nd_L_law_434 (by decide) ?_
  refine lv_iadd hx hb nd_L_law_435 ?_
  refine va_sld hx hb hXs hbl hbA hS (sc_in hj hL (by decide)) nd_L_law_436 ?_
  have hPh : va_P (dC, dI) vwCl (wh_ q qo cI cZ cJ (σ, o)) H := hP.sub [0, 1, 2, 3, 4, 5, 6, 7, 8, 9, 10, 11, 12, 13, 14, 15, 16] rfl
  have hDh : va_D A (wh_ q qo cI cZ cJ (σ, o)) := hD.sub [0, 1, 2, 3, 4, 5, 6, 7, 8, 9, 10, 11, 12, 13, 14, 15, 16] (by decide) rfl
  refine lc_h (vx_runSW (As := [.ref (q 0), .int (xs (nI (4 * j) + nI 1).toNatClampNeg), .int (xs (nI (4 * j) + nI 2).toNatClampNeg), .int (xs (nI (4 * j) + nI 3).toNatClampNeg)]) (rest := []) ⟨hx, hb, hml, hown, hB⟩ (kh_L_store l dC dI q qo cI cZ cJ _ σ o (xs (nI (4 * j) + nI 1).toNatClampNeg) (xs (nI (4 * j) + nI 2).toNatClampNeg) (xs (nI (4 * j) + nI 3).toNatClampNeg) v n σ1 k htr h2 h1) (csw_ 4 hB (gi_ lk_558) rfl rfl rfl (hB _ lk_0) (hB _ lk_556) (hB _ lk_557) (by decide +kernel) ⟨(Nat.le_of_ble_eq_true rfl), (Nat.le_of_ble_eq_true rfl)⟩) ⟨blh_, preh_ hPh hK hDh hN hT hZ hC hS hA⟩ rfl rfl hl.1 rfl (lv_room (Nat.le_of_ble_eq_true rfl)) nd_L_law_437 ⟨hc, hs⟩) hP hD hS hA (fun H locs hP hD hS => ?_)
  refine lv_istore (lv' := [(5, .int k), (0, .ref b), (1, .ref (q 0)), (2, .ref (r 0)), (3, .ref qo), (4, .int (nI (4 * j)))]) hx hb nd_L_law_440 hl (by decide) rfl (fun ls hl => ?_)
  refine lv_aload_n hx hb nd_L_law_442 rfl (lv_at hl 3 rfl) ?_
  refine lv_aload_n hx hb nd_L_law_443 rfl (lv_at hl 1 rfl) ?_
  refine lv_iload hx hb nd_L_law_444 (lv_at hl 5 rfl) ?_
  refine lv_iconst (v := nI 1) hx hb nd_L_law_446 (by decide) ?_
  refine lv_iadd hx hb nd_L_law_447 ?_
  refine va_sld hx hb hXs hbl hbA hS (sc_in hj hL (by decide)) nd_L_law_448 ?_
  refine lv_aload_n hx hb nd_L_law_449 rfl (lv_at hl 1 rfl) ?_
  refine lv_iload hx hb nd_L_law_450 (lv_at hl 5 rfl) ?_
  refine lv_iconst (v := nI 2) hx hb nd_L_law_452 (by decide) ?_
  refine lv_iadd hx hb nd_L_law_453 ?_
  refine va_sld hx hb hXs hbl hbA hS (sc_in hj hL (by decide)) nd_L_law_454 ?_
  refine lv_aload_n hx hb nd_L_law_455 rfl (lv_at hl 1 rfl) ?_
  refine lv_iload hx hb nd_L_law_456 (lv_at hl 5 rfl) ?_
  refine lv_iconst (v := nI 3) hx hb nd_L_law_458 (by decide) ?_
  refine lv_iadd hx hb nd_L_law_459 ?_
  refine va_sld hx hb hXs hbl hbA hS (sc_in hj hL (by decide)) nd_L_law_460 ?_
  have hPm : va_P (dC, dI) vwCl (wd_M r cI cZ τ) H := hP.sub [17, 18, 19, 20, 21, 22, 23, 24, 25, 26] rfl
  have hDm : va_D A (wd_M r cI cZ τ) := hD.sub [17, 18, 19, 20, 21, 22, 23, 24, 25, 26] (by decide) rfl
  refine lc_mv (va_runV (C := "MovedFramesModel") (As := [.int (xs (nI (4 * j) + nI 1).toNatClampNeg), .int (xs (nI (4 * j) + nI 2).toNatClampNeg), .int (xs (nI (4 * j) + nI 3).toNatClampNeg)]) (rest := []) ⟨hx, hb, hml, hown, hB⟩ (kw_M_store l dC dI r cI cZ _ τ (xs (nI (4 * j) + nI 1).toNatClampNeg) (xs (nI (4 * j) + nI 2).toNatClampNeg) (xs (nI (4 * j) + nI 3).toNatClampNeg) τ1 h3) ⟨callB_of 3 hB (gi_ lk_780) rfl rfl rfl (hB _ lk_7) (hB _ lk_777) (by decide +kernel) ⟨(Nat.le_of_ble_eq_true rfl), (Nat.le_of_ble_eq_true rfl)⟩, hB _ lk_778, hB _ lk_779⟩ ⟨bl_, va_recv (ci := 6) (q0 := 0) hKc hPm rfl rfl, pre_ hPm hKc hDm hN⟩ rfl rfl hl.1 rfl (lv_room (Nat.le_of_ble_eq_true rfl)) nd_L_law_461 ⟨by omega, by omega⟩) hP hD hS hA (fun H locs hP hD hS => ?_)
  refine lv_goto (tgt := 701) hx hb nd_L_law_464 (by decide) ?_
  refine W.widen (k := cells + 1) (n := slots + 6) (by omega) (by omega) ?_
  exact kinc _ _ _ hI _ _ _ (lv_sub hl [1, 2, 3, 4, 5] rfl) hP hD hS
set_option maxHeartbeats 4000000 in
set_option maxRecDepth 100000 in
theorem la_10 {Inv : CS → MS → Prop} (hX : lx_ p l s m meth c b L xs (dC, dI) cI cZ cJ A) (hj : 4 * j + 4 ≤ L) (hL : L ≤ 2048) (hc : cells + 1 ≤ room_1.cells) (hs : slots + 6 ≤ room_1.slots) (hst : st_10 Inv σ τ (xs (nI (4 * j) + nI 1).toNatClampNeg) (xs (nI (4 * j) + nI 2).toNatClampNeg) (xs (nI (4 * j) + nI 3).toNatClampNeg))
    (kinc : ∀ (σ1 : CS) (o1 : Nat → Int64) (τ1 : MS), Inv σ1 τ1 → bw_ p l e s m below meth c Q A (dC, dI) q r qo cI cZ cJ b (cells + 1) (slots + 6) 701 [(0, .ref b), (1, .ref (q 0)), (2, .ref (r 0)), (3, .ref qo), (4, .int (nI (4 * j)))] [] (σ1, o1, τ1)) :
    bw_ p l e s m below meth c Q A (dC, dI) q r qo cI cZ cJ b cells slots 467 [(0, .ref b), (1, .ref (q 0)), (2, .ref (r 0)), (3, .ref qo), (4, .int (nI (4 * j)))] [] (σ, o, τ) := by
  obtain ⟨hx, hb, hr, hml, hown, hB, hXs, hbl, hbA, hlocks, hK, hN, hT, hZ, hC, hA, hAA, htr⟩ := hX
  have hKc : va_K (dC, dI) vwCl [(cI, .int), (cZ, .boolean)] s := hK.sub [0, 1] rfl
  obtain ⟨v, n, k, σ1, b1, τ1, h1, h2, h3, hth, hvb, hI⟩ := hst
  intro ls H locs hl hP hD hS
  refine lv_aload_n hx hb nd_L_law_467 rfl (lv_at hl 1 rfl) ?_
  refine lv_aload_n hx hb nd_L_law_468 rfl (lv_at hl 0 rfl) ?_
  refine lv_iload hx hb nd_L_law_469 (lv_at hl 4 rfl) ?_
  refine lv_iconst (v := nI 1) hx hb nd_L_law_471 (by decide) ?_
  refine lv_iadd hx hb nd_L_law_472 ?_
  refine va_sld hx hb hXs hbl hbA hS (sc_in hj hL (by decide)) nd_L_law_473 ?_
  refine lv_aload_n hx hb nd_L_law_474 rfl (lv_at hl 3 rfl) ?_
  have hPh : va_P (dC, dI) vwCl (wh_ q qo cI cZ cJ (σ, o)) H := hP.sub [0, 1, 2, 3, 4, 5, 6, 7, 8, 9, 10, 11, 12, 13, 14, 15, 16] rfl
  have hDh : va_D A (wh_ q qo cI cZ cJ (σ, o)) := hD.sub [0, 1, 2, 3, 4, 5, 6, 7, 8, 9, 10, 11, 12, 13, 14, 15, 16] (by decide) rfl
  refine lc_h (vx_runSW (As := [.ref (q 0), .int (xs (nI (4 * j) + nI 1).toNatClampNeg), .ref qo]) (rest := []) ⟨hx, hb, hml, hown, hB⟩ (kh_L_contig l dC dI q qo cI cZ cJ _ σ o (xs (nI (4 * j) + nI 1).toNatClampNeg) v n σ1 k htr h2 h1) (csw_ 3 hB (gi_ lk_566) rfl rfl rfl (hB _ lk_0) (hB _ lk_564) (hB _ lk_565) (by decide +kernel) ⟨(Nat.le_of_ble_eq_true rfl), (Nat.le_of_ble_eq_true rfl)⟩) ⟨blh_, preh_ hPh hK hDh hN hT hZ hC hS hA⟩ rfl rfl hl.1 rfl (lv_room (Nat.le_of_ble_eq_true rfl)) nd_L_law_475 ⟨hc, hs⟩) hP hD hS hA (fun H locs hP hD hS => ?_)
  generalize ho1 : (if n = 0 then vp_updL o 0 v.toInt64 else o) = o1 at hP hD
  refine lv_istore (lv' := [(5, .int k), (0, .ref b), (1, .ref (q 0)), (2, .ref (r 0)), (3, .ref qo), (4, .int (nI (4 * j)))]) hx hb nd_L_law_478 hl (by decide) rfl (fun ls hl => ?_)
  refine lv_aload_n hx hb nd_L_law_480 rfl (lv_at hl 3 rfl) ?_
  refine lv_aload_n hx hb nd_L_law_481 rfl (lv_at hl 1 rfl) ?_
  refine lv_iload hx hb nd_L_law_482 (lv_at hl 5 rfl) ?_
  refine lv_iconst (v := nI 1) hx hb nd_L_law_484 (by decide) ?_
  refine lv_iadd hx hb nd_L_law_485 ?_
  refine va_sld hx hb hXs hbl hbA hS (sc_in hj hL (by decide)) nd_L_law_486 ?_
  have hPm : va_P (dC, dI) vwCl (wd_M r cI cZ τ) H := hP.sub [17, 18, 19, 20, 21, 22, 23, 24, 25, 26] rfl
  have hDm : va_D A (wd_M r cI cZ τ) := hD.sub [17, 18, 19, 20, 21, 22, 23, 24, 25, 26] (by decide) rfl
  refine lc_m (va_runV (C := "MovedFramesModel") (As := [.int (xs (nI (4 * j) + nI 1).toNatClampNeg)]) (rest := []) ⟨hx, hb, hml, hown, hB⟩ (kw_M_contig l dC dI r cI cZ _ τ (xs (nI (4 * j) + nI 1).toNatClampNeg) b1 τ1 h3) ⟨callB_of 1 hB (gi_ lk_784) rfl rfl rfl (hB _ lk_7) (hB _ lk_781) (by decide +kernel) ⟨(Nat.le_of_ble_eq_true rfl), (Nat.le_of_ble_eq_true rfl)⟩, hB _ lk_782, hB _ lk_783⟩ ⟨bl_, va_recv (ci := 6) (q0 := 0) hKc hPm rfl rfl, pre_ hPm hKc hDm hN⟩ rfl rfl hl.1 rfl (lv_room (Nat.le_of_ble_eq_true rfl)) nd_L_law_487 ⟨by omega, by omega⟩) hP hD hS hA (fun H locs hP hD hS => ?_)
  refine lv_istore (lv' := [(6, .int b1), (5, .int k), (0, .ref b), (1, .ref (q 0)), (2, .ref (r 0)), (3, .ref qo), (4, .int (nI (4 * j)))]) hx hb nd_L_law_490 hl (by decide) rfl (fun ls hl => ?_)
  refine lv_goto (tgt := 701) hx hb nd_L_law_492 (by decide) ?_
  refine W.widen (k := cells + 1) (n := slots + 6) (by omega) (by omega) ?_
  exact kinc _ _ _ hI _ _ _ (lv_sub hl [2, 3, 4, 5, 6] rfl) hP hD hS
set_option maxHeartbeats 4000000 in
set_option maxRecDepth 100000 in
theorem la_11 {Inv : CS → MS → Prop} (hX : lx_ p l s m meth c b L xs (dC, dI) cI cZ cJ A) (hj : 4 * j + 4 ≤ L) (hL : L ≤ 2048) (hc : cells + 1 ≤ room_1.cells) (hs : slots + 6 ≤ room_1.slots) (hst : st_11 Inv σ τ (xs (nI (4 * j) + nI 1).toNatClampNeg) (xs (nI (4 * j) + nI 2).toNatClampNeg) (xs (nI (4 * j) + nI 3).toNatClampNeg))
    (kinc : ∀ (σ1 : CS) (o1 : Nat → Int64) (τ1 : MS), Inv σ1 τ1 → bw_ p l e s m below meth c Q A (dC, dI) q r qo cI cZ cJ b (cells + 1) (slots + 6) 701 [(0, .ref b), (1, .ref (q 0)), (2, .ref (r 0)), (3, .ref qo), (4, .int (nI (4 * j)))] [] (σ1, o1, τ1)) :
    bw_ p l e s m below meth c Q A (dC, dI) q r qo cI cZ cJ b cells slots 495 [(0, .ref b), (1, .ref (q 0)), (2, .ref (r 0)), (3, .ref qo), (4, .int (nI (4 * j)))] [] (σ, o, τ) := by
  obtain ⟨hx, hb, hr, hml, hown, hB, hXs, hbl, hbA, hlocks, hK, hN, hT, hZ, hC, hA, hAA, htr⟩ := hX
  have hKc : va_K (dC, dI) vwCl [(cI, .int), (cZ, .boolean)] s := hK.sub [0, 1] rfl
  obtain ⟨v, n, k, σ1, b1, τ1, h1, h2, h3, hth, hvb, hI⟩ := hst
  intro ls H locs hl hP hD hS
  have hn0 : k = 0 → n = 0 := fun hk0 => by
    rcases h2 with ⟨e0, _⟩ | ⟨_, e0⟩
    · exact e0
    · exact absurd (hk0.symm.trans e0) (by decide)
  refine lv_aload_n hx hb nd_L_law_495 rfl (lv_at hl 1 rfl) ?_
  refine lv_aload_n hx hb nd_L_law_496 rfl (lv_at hl 0 rfl) ?_
  refine lv_iload hx hb nd_L_law_497 (lv_at hl 4 rfl) ?_
  refine lv_iconst (v := nI 1) hx hb nd_L_law_499 (by decide) ?_
  refine lv_iadd hx hb nd_L_law_500 ?_
  refine va_sld hx hb hXs hbl hbA hS (sc_in hj hL (by decide)) nd_L_law_501 ?_
  refine lv_aload_n hx hb nd_L_law_502 rfl (lv_at hl 3 rfl) ?_
  have hPh : va_P (dC, dI) vwCl (wh_ q qo cI cZ cJ (σ, o)) H := hP.sub [0, 1, 2, 3, 4, 5, 6, 7, 8, 9, 10, 11, 12, 13, 14, 15, 16] rfl
  have hDh : va_D A (wh_ q qo cI cZ cJ (σ, o)) := hD.sub [0, 1, 2, 3, 4, 5, 6, 7, 8, 9, 10, 11, 12, 13, 14, 15, 16] (by decide) rfl
  refine lc_h (vx_runSW (As := [.ref (q 0), .int (xs (nI (4 * j) + nI 1).toNatClampNeg), .ref qo]) (rest := []) ⟨hx, hb, hml, hown, hB⟩ (kh_L_release l dC dI q qo cI cZ cJ _ σ o (xs (nI (4 * j) + nI 1).toNatClampNeg) v n σ1 k htr h2 h1) (csw_ 3 hB (gi_ lk_612) rfl rfl rfl (hB _ lk_0) (hB _ lk_610) (hB _ lk_611) (by decide +kernel) ⟨(Nat.le_of_ble_eq_true rfl), (Nat.le_of_ble_eq_true rfl)⟩) ⟨blh_, preh_ hPh hK hDh hN hT hZ hC hS hA⟩ rfl rfl hl.1 rfl (lv_room (Nat.le_of_ble_eq_true rfl)) nd_L_law_503 ⟨hc, hs⟩) hP hD hS hA (fun H locs hP hD hS => ?_)
  generalize ho1 : (if n = 0 then vp_updL o 0 v.toInt64 else o) = o1 at hP hD
  refine lv_istore (lv' := [(5, .int k), (0, .ref b), (1, .ref (q 0)), (2, .ref (r 0)), (3, .ref qo), (4, .int (nI (4 * j)))]) hx hb nd_L_law_506 hl (by decide) rfl (fun ls hl => ?_)
  refine lv_aload_n hx hb nd_L_law_508 rfl (lv_at hl 3 rfl) ?_
  refine lv_aload_n hx hb nd_L_law_509 rfl (lv_at hl 1 rfl) ?_
  refine lv_iload hx hb nd_L_law_510 (lv_at hl 5 rfl) ?_
  refine lv_iconst (v := nI 1) hx hb nd_L_law_512 (by decide) ?_
  refine lv_iadd hx hb nd_L_law_513 ?_
  refine va_sld hx hb hXs hbl hbA hS (sc_in hj hL (by decide)) nd_L_law_514 ?_
  have hPm : va_P (dC, dI) vwCl (wd_M r cI cZ τ) H := hP.sub [17, 18, 19, 20, 21, 22, 23, 24, 25, 26] rfl
  have hDm : va_D A (wd_M r cI cZ τ) := hD.sub [17, 18, 19, 20, 21, 22, 23, 24, 25, 26] (by decide) rfl
  refine lc_m (va_runV (C := "MovedFramesModel") (As := [.int (xs (nI (4 * j) + nI 1).toNatClampNeg)]) (rest := []) ⟨hx, hb, hml, hown, hB⟩ (kw_M_release l dC dI r cI cZ _ τ (xs (nI (4 * j) + nI 1).toNatClampNeg) b1 τ1 h3) ⟨callB_of 1 hB (gi_ lk_800) rfl rfl rfl (hB _ lk_7) (hB _ lk_797) (by decide +kernel) ⟨(Nat.le_of_ble_eq_true rfl), (Nat.le_of_ble_eq_true rfl)⟩, hB _ lk_798, hB _ lk_799⟩ ⟨bl_, va_recv (ci := 6) (q0 := 0) hKc hPm rfl rfl, pre_ hPm hKc hDm hN⟩ rfl rfl hl.1 rfl (lv_room (Nat.le_of_ble_eq_true rfl)) nd_L_law_515 ⟨by omega, by omega⟩) hP hD hS hA (fun H locs hP hD hS => ?_)
  refine lv_istore (lv' := [(6, .int b1), (5, .int k), (0, .ref b), (1, .ref (q 0)), (2, .ref (r 0)), (3, .ref qo), (4, .int (nI (4 * j)))]) hx hb nd_L_law_518 hl (by decide) rfl (fun ls hl => ?_)
  refine lv_aload_n hx hb nd_L_law_520 rfl (lv_at hl 4 rfl) ?_
  have hPm : va_P (dC, dI) vwCl (wd_M r cI cZ τ1) H := hP.sub [17, 18, 19, 20, 21, 22, 23, 24, 25, 26] rfl
  have hDm : va_D A (wd_M r cI cZ τ1) := hD.sub [17, 18, 19, 20, 21, 22, 23, 24, 25, 26] (by decide) rfl
  refine lc_m (va_runV (C := "MovedFramesModel") (As := []) (rest := []) ⟨hx, hb, hml, hown, hB⟩ (kw_M_thrown l dC dI r cI cZ _ τ1 (gm_th τ1) rfl) ⟨callB_of 0 hB (gi_ lk_666) rfl rfl rfl (hB _ lk_7) (hB _ lk_663) (by decide +kernel) ⟨(Nat.le_of_ble_eq_true rfl), (Nat.le_of_ble_eq_true rfl)⟩, hB _ lk_664, hB _ lk_665⟩ ⟨bl_, va_recv (ci := 6) (q0 := 0) hKc hPm rfl rfl, pre_ hPm hKc hDm hN⟩ rfl rfl hl.1 rfl (lv_room (Nat.le_of_ble_eq_true rfl)) nd_L_law_521 ⟨by omega, by omega⟩) hP hD hS hA (fun H locs hP hD hS => ?_)
  refine lv_iload hx hb nd_L_law_524 (lv_at hl 1 rfl) ?_
  refine lv_icmp_eq (tgt := 531) hx hb nd_L_law_526 (by decide) (fun hc9 => ?_) (fun hc9 => absurd hth hc9)
  refine lv_iload hx hb nd_L_law_531 (lv_at hl 1 rfl) ?_
  refine lv_if_ne (tgt := 548) hx hb nd_L_law_533 (by decide) (fun hc9 => ?_) (fun hk0 => ?_)
  · refine lv_goto (tgt := 701) hx hb nd_L_law_548 (by decide) ?_
    refine W.widen (k := cells + 1) (n := slots + 6) (by omega) (by omega) ?_
    exact kinc _ _ _ hI _ _ _ (lv_sub hl [2, 3, 4, 5, 6] rfl) hP hD hS
  · refine lv_aload_n hx hb nd_L_law_536 rfl (lv_at hl 5 rfl) ?_
    refine lv_iconst (v := 0) hx hb nd_L_law_537 (by decide) ?_
    refine va_lald hx hb hK hP 16 2 rfl rfl (by unfold vp_in; decide) nd_L_law_538 ?_
    refine lv_iload hx hb nd_L_law_539 (lv_at hl 0 rfl) ?_
    refine lv_i2l (v := b1.toInt64) hx hb nd_L_law_541 rfl ?_
    refine W.lcmp hx hb nd_L_law_542 ?_
    have hob : o1 (0 : Int32).toNatClampNeg = b1.toInt64 := by rw [← ho1, if_pos (hn0 hk0), hvb hk0]; rfl
    refine lv_if_eq (tgt := 548) hx hb nd_L_law_543 (by decide) (fun hc9 => ?_) (fun hc9 => absurd ((lg_cmp_eq _ _).mpr hob) hc9)
    refine lv_goto (tgt := 701) hx hb nd_L_law_548 (by decide) ?_
    refine W.widen (k := cells + 1) (n := slots + 6) (by omega) (by omega) ?_
    exact kinc _ _ _ hI _ _ _ (lv_sub hl [2, 3, 4, 5, 6] rfl) hP hD hS
set_option maxHeartbeats 4000000 in
set_option maxRecDepth 100000 in
theorem la_12 {Inv : CS → MS → Prop} (hX : lx_ p l s m meth c b L xs (dC, dI) cI cZ cJ A) (hj : 4 * j + 4 ≤ L) (hL : L ≤ 2048) (hc : cells + 1 ≤ room_1.cells) (hs : slots + 6 ≤ room_1.slots) (hst : st_12 Inv σ τ (xs (nI (4 * j) + nI 1).toNatClampNeg) (xs (nI (4 * j) + nI 2).toNatClampNeg) (xs (nI (4 * j) + nI 3).toNatClampNeg))
    (kinc : ∀ (σ1 : CS) (o1 : Nat → Int64) (τ1 : MS), Inv σ1 τ1 → bw_ p l e s m below meth c Q A (dC, dI) q r qo cI cZ cJ b (cells + 1) (slots + 6) 701 [(0, .ref b), (1, .ref (q 0)), (2, .ref (r 0)), (3, .ref qo), (4, .int (nI (4 * j)))] [] (σ1, o1, τ1)) :
    bw_ p l e s m below meth c Q A (dC, dI) q r qo cI cZ cJ b cells slots 551 [(0, .ref b), (1, .ref (q 0)), (2, .ref (r 0)), (3, .ref qo), (4, .int (nI (4 * j)))] [] (σ, o, τ) := by
  obtain ⟨hx, hb, hr, hml, hown, hB, hXs, hbl, hbA, hlocks, hK, hN, hT, hZ, hC, hA, hAA, htr⟩ := hX
  have hKc : va_K (dC, dI) vwCl [(cI, .int), (cZ, .boolean)] s := hK.sub [0, 1] rfl
  obtain ⟨v, b1, τ1, h1, h3, hvb, hI⟩ := hst
  intro ls H locs hl hP hD hS
  refine lv_aload_n hx hb nd_L_law_551 rfl (lv_at hl 1 rfl) ?_
  refine lv_aload_n hx hb nd_L_law_552 rfl (lv_at hl 0 rfl) ?_
  refine lv_iload hx hb nd_L_law_553 (lv_at hl 4 rfl) ?_
  refine lv_iconst (v := nI 1) hx hb nd_L_law_555 (by decide) ?_
  refine lv_iadd hx hb nd_L_law_556 ?_
  refine va_sld hx hb hXs hbl hbA hS (sc_in hj hL (by decide)) nd_L_law_557 ?_
  have hPc : va_P (dC, dI) vwCl (wd_C q cI cZ σ) H := hP.sub [0, 1, 2, 3, 4, 5, 6, 7, 8, 9, 10, 11, 12, 13, 14, 15] rfl
  have hDc : va_D A (wd_C q cI cZ σ) := hD.sub [0, 1, 2, 3, 4, 5, 6, 7, 8, 9, 10, 11, 12, 13, 14, 15] (by decide) rfl
  refine lc_c (va_runV (C := "MovedFrames") (As := [.int (xs (nI (4 * j) + nI 1).toNatClampNeg)]) (rest := []) ⟨hx, hb, hml, hown, hB⟩ (kw_F_owner l dC dI q cI cZ _ σ (xs (nI (4 * j) + nI 1).toNatClampNeg) v h1) ⟨callB_of 1 hB (gi_ lk_132) rfl rfl rfl (hB _ lk_1) (hB _ lk_129) (by decide +kernel) ⟨(Nat.le_of_ble_eq_true rfl), (Nat.le_of_ble_eq_true rfl)⟩, hB _ lk_130, hB _ lk_131⟩ ⟨bl_, va_recv (ci := 5) (q0 := 0) hKc hPc rfl rfl, pre_ hPc hKc hDc hN⟩ rfl rfl hl.1 rfl (lv_room (Nat.le_of_ble_eq_true rfl)) nd_L_law_558 ⟨by omega, by omega⟩) hP hD hS hA (fun H locs hP hD hS => ?_)
  refine lv_pop hx hb nd_L_law_561 rfl ?_
  refine lv_aload_n hx hb nd_L_law_562 rfl (lv_at hl 2 rfl) ?_
  refine lv_aload_n hx hb nd_L_law_563 rfl (lv_at hl 0 rfl) ?_
  refine lv_iload hx hb nd_L_law_564 (lv_at hl 4 rfl) ?_
  refine lv_iconst (v := nI 1) hx hb nd_L_law_566 (by decide) ?_
  refine lv_iadd hx hb nd_L_law_567 ?_
  refine va_sld hx hb hXs hbl hbA hS (sc_in hj hL (by decide)) nd_L_law_568 ?_
  have hPm : va_P (dC, dI) vwCl (wd_M r cI cZ τ) H := hP.sub [17, 18, 19, 20, 21, 22, 23, 24, 25, 26] rfl
  have hDm : va_D A (wd_M r cI cZ τ) := hD.sub [17, 18, 19, 20, 21, 22, 23, 24, 25, 26] (by decide) rfl
  refine lc_m (va_runV (C := "MovedFramesModel") (As := [.int (xs (nI (4 * j) + nI 1).toNatClampNeg)]) (rest := []) ⟨hx, hb, hml, hown, hB⟩ (kw_M_owner l dC dI r cI cZ _ τ (xs (nI (4 * j) + nI 1).toNatClampNeg) b1 τ1 h3) ⟨callB_of 1 hB (gi_ lk_804) rfl rfl rfl (hB _ lk_7) (hB _ lk_801) (by decide +kernel) ⟨(Nat.le_of_ble_eq_true rfl), (Nat.le_of_ble_eq_true rfl)⟩, hB _ lk_802, hB _ lk_803⟩ ⟨bl_, va_recv (ci := 6) (q0 := 0) hKc hPm rfl rfl, pre_ hPm hKc hDm hN⟩ rfl rfl hl.1 rfl (lv_room (Nat.le_of_ble_eq_true rfl)) nd_L_law_569 ⟨by omega, by omega⟩) hP hD hS hA (fun H locs hP hD hS => ?_)
  refine lv_pop hx hb nd_L_law_572 rfl ?_
  refine lv_goto (tgt := 701) hx hb nd_L_law_573 (by decide) ?_
  refine W.widen (k := cells + 1) (n := slots + 6) (by omega) (by omega) ?_
  exact kinc _ _ _ hI _ _ _ (lv_sub hl [0, 1, 2, 3, 4] rfl) hP hD hS
set_option maxHeartbeats 4000000 in
set_option maxRecDepth 100000 in
theorem la_13 {Inv : CS → MS → Prop} (hX : lx_ p l s m meth c b L xs (dC, dI) cI cZ cJ A) (hj : 4 * j + 4 ≤ L) (hL : L ≤ 2048) (hc : cells + 1 ≤ room_1.cells) (hs : slots + 6 ≤ room_1.slots) (hst : st_13 Inv σ τ (xs (nI (4 * j) + nI 1).toNatClampNeg) (xs (nI (4 * j) + nI 2).toNatClampNeg) (xs (nI (4 * j) + nI 3).toNatClampNeg))
    (kinc : ∀ (σ1 : CS) (o1 : Nat → Int64) (τ1 : MS), Inv σ1 τ1 → bw_ p l e s m below meth c Q A (dC, dI) q r qo cI cZ cJ b (cells + 1) (slots + 6) 701 [(0, .ref b), (1, .ref (q 0)), (2, .ref (r 0)), (3, .ref qo), (4, .int (nI (4 * j)))] [] (σ1, o1, τ1)) :
    bw_ p l e s m below meth c Q A (dC, dI) q r qo cI cZ cJ b cells slots 576 [(0, .ref b), (1, .ref (q 0)), (2, .ref (r 0)), (3, .ref qo), (4, .int (nI (4 * j)))] [] (σ, o, τ) := by
  obtain ⟨hx, hb, hr, hml, hown, hB, hXs, hbl, hbA, hlocks, hK, hN, hT, hZ, hC, hA, hAA, htr⟩ := hX
  have hKc : va_K (dC, dI) vwCl [(cI, .int), (cZ, .boolean)] s := hK.sub [0, 1] rfl
  obtain ⟨v, b1, τ1, h1, h3, hvb, hI⟩ := hst
  intro ls H locs hl hP hD hS
  refine lv_aload_n hx hb nd_L_law_576 rfl (lv_at hl 1 rfl) ?_
  refine lv_aload_n hx hb nd_L_law_577 rfl (lv_at hl 0 rfl) ?_
  refine lv_iload hx hb nd_L_law_578 (lv_at hl 4 rfl) ?_
  refine lv_iconst (v := nI 1) hx hb nd_L_law_580 (by decide) ?_
  refine lv_iadd hx hb nd_L_law_581 ?_
  refine va_sld hx hb hXs hbl hbA hS (sc_in hj hL (by decide)) nd_L_law_582 ?_
  refine lv_aload_n hx hb nd_L_law_583 rfl (lv_at hl 0 rfl) ?_
  refine lv_iload hx hb nd_L_law_584 (lv_at hl 4 rfl) ?_
  refine lv_iconst (v := nI 2) hx hb nd_L_law_586 (by decide) ?_
  refine lv_iadd hx hb nd_L_law_587 ?_
  refine va_sld hx hb hXs hbl hbA hS (sc_in hj hL (by decide)) nd_L_law_588 ?_
  have hPc : va_P (dC, dI) vwCl (wd_C q cI cZ σ) H := hP.sub [0, 1, 2, 3, 4, 5, 6, 7, 8, 9, 10, 11, 12, 13, 14, 15] rfl
  have hDc : va_D A (wd_C q cI cZ σ) := hD.sub [0, 1, 2, 3, 4, 5, 6, 7, 8, 9, 10, 11, 12, 13, 14, 15] (by decide) rfl
  refine lc_c (va_runV (C := "MovedFrames") (As := [.int (xs (nI (4 * j) + nI 1).toNatClampNeg), .int (xs (nI (4 * j) + nI 2).toNatClampNeg)]) (rest := []) ⟨hx, hb, hml, hown, hB⟩ (kw_F_frame l dC dI q cI cZ _ σ (xs (nI (4 * j) + nI 1).toNatClampNeg) (xs (nI (4 * j) + nI 2).toNatClampNeg) v h1) ⟨callB_of 2 hB (gi_ lk_143) rfl rfl rfl (hB _ lk_1) (hB _ lk_140) (by decide +kernel) ⟨(Nat.le_of_ble_eq_true rfl), (Nat.le_of_ble_eq_true rfl)⟩, hB _ lk_141, hB _ lk_142⟩ ⟨bl_, va_recv (ci := 5) (q0 := 0) hKc hPc rfl rfl, pre_ hPc hKc hDc hN⟩ rfl rfl hl.1 rfl (lv_room (Nat.le_of_ble_eq_true rfl)) nd_L_law_589 ⟨by omega, by omega⟩) hP hD hS hA (fun H locs hP hD hS => ?_)
  refine lv_pop hx hb nd_L_law_592 rfl ?_
  refine lv_aload_n hx hb nd_L_law_593 rfl (lv_at hl 2 rfl) ?_
  refine lv_aload_n hx hb nd_L_law_594 rfl (lv_at hl 0 rfl) ?_
  refine lv_iload hx hb nd_L_law_595 (lv_at hl 4 rfl) ?_
  refine lv_iconst (v := nI 1) hx hb nd_L_law_597 (by decide) ?_
  refine lv_iadd hx hb nd_L_law_598 ?_
  refine va_sld hx hb hXs hbl hbA hS (sc_in hj hL (by decide)) nd_L_law_599 ?_
  refine lv_aload_n hx hb nd_L_law_600 rfl (lv_at hl 0 rfl) ?_
  refine lv_iload hx hb nd_L_law_601 (lv_at hl 4 rfl) ?_
  refine lv_iconst (v := nI 2) hx hb nd_L_law_603 (by decide) ?_
  refine lv_iadd hx hb nd_L_law_604 ?_
  refine va_sld hx hb hXs hbl hbA hS (sc_in hj hL (by decide)) nd_L_law_605 ?_
  have hPm : va_P (dC, dI) vwCl (wd_M r cI cZ τ) H := hP.sub [17, 18, 19, 20, 21, 22, 23, 24, 25, 26] rfl
  have hDm : va_D A (wd_M r cI cZ τ) := hD.sub [17, 18, 19, 20, 21, 22, 23, 24, 25, 26] (by decide) rfl
  refine lc_m (va_runV (C := "MovedFramesModel") (As := [.int (xs (nI (4 * j) + nI 1).toNatClampNeg), .int (xs (nI (4 * j) + nI 2).toNatClampNeg)]) (rest := []) ⟨hx, hb, hml, hown, hB⟩ (kw_M_frame l dC dI r cI cZ _ τ (xs (nI (4 * j) + nI 1).toNatClampNeg) (xs (nI (4 * j) + nI 2).toNatClampNeg) b1 τ1 h3) ⟨callB_of 2 hB (gi_ lk_808) rfl rfl rfl (hB _ lk_7) (hB _ lk_805) (by decide +kernel) ⟨(Nat.le_of_ble_eq_true rfl), (Nat.le_of_ble_eq_true rfl)⟩, hB _ lk_806, hB _ lk_807⟩ ⟨bl_, va_recv (ci := 6) (q0 := 0) hKc hPm rfl rfl, pre_ hPm hKc hDm hN⟩ rfl rfl hl.1 rfl (lv_room (Nat.le_of_ble_eq_true rfl)) nd_L_law_606 ⟨by omega, by omega⟩) hP hD hS hA (fun H locs hP hD hS => ?_)
  refine lv_pop hx hb nd_L_law_609 rfl ?_
  refine lv_goto (tgt := 701) hx hb nd_L_law_610 (by decide) ?_
  refine W.widen (k := cells + 1) (n := slots + 6) (by omega) (by omega) ?_
  exact kinc _ _ _ hI _ _ _ (lv_sub hl [0, 1, 2, 3, 4] rfl) hP hD hS
set_option maxHeartbeats 4000000 in
set_option maxRecDepth 100000 in
theorem la_14 {Inv : CS → MS → Prop} (hX : lx_ p l s m meth c b L xs (dC, dI) cI cZ cJ A) (hj : 4 * j + 4 ≤ L) (hL : L ≤ 2048) (hc : cells + 1 ≤ room_1.cells) (hs : slots + 6 ≤ room_1.slots) (hst : st_14 Inv σ τ (xs (nI (4 * j) + nI 1).toNatClampNeg) (xs (nI (4 * j) + nI 2).toNatClampNeg) (xs (nI (4 * j) + nI 3).toNatClampNeg))
    (kinc : ∀ (σ1 : CS) (o1 : Nat → Int64) (τ1 : MS), Inv σ1 τ1 → bw_ p l e s m below meth c Q A (dC, dI) q r qo cI cZ cJ b (cells + 1) (slots + 6) 701 [(0, .ref b), (1, .ref (q 0)), (2, .ref (r 0)), (3, .ref qo), (4, .int (nI (4 * j)))] [] (σ1, o1, τ1)) :
    bw_ p l e s m below meth c Q A (dC, dI) q r qo cI cZ cJ b cells slots 613 [(0, .ref b), (1, .ref (q 0)), (2, .ref (r 0)), (3, .ref qo), (4, .int (nI (4 * j)))] [] (σ, o, τ) := by
  obtain ⟨hx, hb, hr, hml, hown, hB, hXs, hbl, hbA, hlocks, hK, hN, hT, hZ, hC, hA, hAA, htr⟩ := hX
  have hKc : va_K (dC, dI) vwCl [(cI, .int), (cZ, .boolean)] s := hK.sub [0, 1] rfl
  obtain ⟨v, b1, τ1, h1, h3, hvb, hI⟩ := hst
  intro ls H locs hl hP hD hS
  refine lv_aload_n hx hb nd_L_law_613 rfl (lv_at hl 1 rfl) ?_
  refine lv_aload_n hx hb nd_L_law_614 rfl (lv_at hl 0 rfl) ?_
  refine lv_iload hx hb nd_L_law_615 (lv_at hl 4 rfl) ?_
  refine lv_iconst (v := nI 1) hx hb nd_L_law_617 (by decide) ?_
  refine lv_iadd hx hb nd_L_law_618 ?_
  refine va_sld hx hb hXs hbl hbA hS (sc_in hj hL (by decide)) nd_L_law_619 ?_
  refine lv_aload_n hx hb nd_L_law_620 rfl (lv_at hl 0 rfl) ?_
  refine lv_iload hx hb nd_L_law_621 (lv_at hl 4 rfl) ?_
  refine lv_iconst (v := nI 2) hx hb nd_L_law_623 (by decide) ?_
  refine lv_iadd hx hb nd_L_law_624 ?_
  refine va_sld hx hb hXs hbl hbA hS (sc_in hj hL (by decide)) nd_L_law_625 ?_
  have hPc : va_P (dC, dI) vwCl (wd_C q cI cZ σ) H := hP.sub [0, 1, 2, 3, 4, 5, 6, 7, 8, 9, 10, 11, 12, 13, 14, 15] rfl
  have hDc : va_D A (wd_C q cI cZ σ) := hD.sub [0, 1, 2, 3, 4, 5, 6, 7, 8, 9, 10, 11, 12, 13, 14, 15] (by decide) rfl
  refine lc_c (va_runV (C := "MovedFrames") (As := [.int (xs (nI (4 * j) + nI 1).toNatClampNeg), .int (xs (nI (4 * j) + nI 2).toNatClampNeg)]) (rest := []) ⟨hx, hb, hml, hown, hB⟩ (kw_F_word l dC dI q cI cZ _ σ (xs (nI (4 * j) + nI 1).toNatClampNeg) (xs (nI (4 * j) + nI 2).toNatClampNeg) v h1) ⟨callB_of 2 hB (gi_ lk_174) rfl rfl rfl (hB _ lk_1) (hB _ lk_171) (by decide +kernel) ⟨(Nat.le_of_ble_eq_true rfl), (Nat.le_of_ble_eq_true rfl)⟩, hB _ lk_172, hB _ lk_173⟩ ⟨bl_, va_recv (ci := 5) (q0 := 0) hKc hPc rfl rfl, pre_ hPc hKc hDc hN⟩ rfl rfl hl.1 rfl (lv_room (Nat.le_of_ble_eq_true rfl)) nd_L_law_626 ⟨by omega, by omega⟩) hP hD hS hA (fun H locs hP hD hS => ?_)
  refine lv_pop hx hb nd_L_law_629 rfl ?_
  refine lv_aload_n hx hb nd_L_law_630 rfl (lv_at hl 2 rfl) ?_
  refine lv_aload_n hx hb nd_L_law_631 rfl (lv_at hl 0 rfl) ?_
  refine lv_iload hx hb nd_L_law_632 (lv_at hl 4 rfl) ?_
  refine lv_iconst (v := nI 1) hx hb nd_L_law_634 (by decide) ?_
  refine lv_iadd hx hb nd_L_law_635 ?_
  refine va_sld hx hb hXs hbl hbA hS (sc_in hj hL (by decide)) nd_L_law_636 ?_
  refine lv_aload_n hx hb nd_L_law_637 rfl (lv_at hl 0 rfl) ?_
  refine lv_iload hx hb nd_L_law_638 (lv_at hl 4 rfl) ?_
  refine lv_iconst (v := nI 2) hx hb nd_L_law_640 (by decide) ?_
  refine lv_iadd hx hb nd_L_law_641 ?_
  refine va_sld hx hb hXs hbl hbA hS (sc_in hj hL (by decide)) nd_L_law_642 ?_
  have hPm : va_P (dC, dI) vwCl (wd_M r cI cZ τ) H := hP.sub [17, 18, 19, 20, 21, 22, 23, 24, 25, 26] rfl
  have hDm : va_D A (wd_M r cI cZ τ) := hD.sub [17, 18, 19, 20, 21, 22, 23, 24, 25, 26] (by decide) rfl
  refine lc_m (va_runV (C := "MovedFramesModel") (As := [.int (xs (nI (4 * j) + nI 1).toNatClampNeg), .int (xs (nI (4 * j) + nI 2).toNatClampNeg)]) (rest := []) ⟨hx, hb, hml, hown, hB⟩ (kw_M_word l dC dI r cI cZ _ τ (xs (nI (4 * j) + nI 1).toNatClampNeg) (xs (nI (4 * j) + nI 2).toNatClampNeg) b1 τ1 h3) ⟨callB_of 2 hB (gi_ lk_812) rfl rfl rfl (hB _ lk_7) (hB _ lk_809) (by decide +kernel) ⟨(Nat.le_of_ble_eq_true rfl), (Nat.le_of_ble_eq_true rfl)⟩, hB _ lk_810, hB _ lk_811⟩ ⟨bl_, va_recv (ci := 6) (q0 := 0) hKc hPm rfl rfl, pre_ hPm hKc hDm hN⟩ rfl rfl hl.1 rfl (lv_room (Nat.le_of_ble_eq_true rfl)) nd_L_law_643 ⟨by omega, by omega⟩) hP hD hS hA (fun H locs hP hD hS => ?_)
  refine lv_pop hx hb nd_L_law_646 rfl ?_
  refine lv_goto (tgt := 701) hx hb nd_L_law_647 (by decide) ?_
  refine W.widen (k := cells + 1) (n := slots + 6) (by omega) (by omega) ?_
  exact kinc _ _ _ hI _ _ _ (lv_sub hl [0, 1, 2, 3, 4] rfl) hP hD hS
set_option maxHeartbeats 4000000 in
set_option maxRecDepth 100000 in
theorem la_15 {Inv : CS → MS → Prop} (hX : lx_ p l s m meth c b L xs (dC, dI) cI cZ cJ A) (hj : 4 * j + 4 ≤ L) (hL : L ≤ 2048) (hc : cells + 1 ≤ room_1.cells) (hs : slots + 6 ≤ room_1.slots) (hst : st_15 Inv σ τ (xs (nI (4 * j) + nI 1).toNatClampNeg) (xs (nI (4 * j) + nI 2).toNatClampNeg) (xs (nI (4 * j) + nI 3).toNatClampNeg))
    (kinc : ∀ (σ1 : CS) (o1 : Nat → Int64) (τ1 : MS), Inv σ1 τ1 → bw_ p l e s m below meth c Q A (dC, dI) q r qo cI cZ cJ b (cells + 1) (slots + 6) 701 [(0, .ref b), (1, .ref (q 0)), (2, .ref (r 0)), (3, .ref qo), (4, .int (nI (4 * j)))] [] (σ1, o1, τ1)) :
    bw_ p l e s m below meth c Q A (dC, dI) q r qo cI cZ cJ b cells slots 650 [(0, .ref b), (1, .ref (q 0)), (2, .ref (r 0)), (3, .ref qo), (4, .int (nI (4 * j)))] [] (σ, o, τ) := by
  obtain ⟨hx, hb, hr, hml, hown, hB, hXs, hbl, hbA, hlocks, hK, hN, hT, hZ, hC, hA, hAA, htr⟩ := hX
  have hKc : va_K (dC, dI) vwCl [(cI, .int), (cZ, .boolean)] s := hK.sub [0, 1] rfl
  obtain ⟨v, b1, τ1, h1, h3, hvb, hI⟩ := hst
  intro ls H locs hl hP hD hS
  refine lv_aload_n hx hb nd_L_law_650 rfl (lv_at hl 1 rfl) ?_
  refine lv_aload_n hx hb nd_L_law_651 rfl (lv_at hl 0 rfl) ?_
  refine lv_iload hx hb nd_L_law_652 (lv_at hl 4 rfl) ?_
  refine lv_iconst (v := nI 1) hx hb nd_L_law_654 (by decide) ?_
  refine lv_iadd hx hb nd_L_law_655 ?_
  refine va_sld hx hb hXs hbl hbA hS (sc_in hj hL (by decide)) nd_L_law_656 ?_
  have hPc : va_P (dC, dI) vwCl (wd_C q cI cZ σ) H := hP.sub [0, 1, 2, 3, 4, 5, 6, 7, 8, 9, 10, 11, 12, 13, 14, 15] rfl
  have hDc : va_D A (wd_C q cI cZ σ) := hD.sub [0, 1, 2, 3, 4, 5, 6, 7, 8, 9, 10, 11, 12, 13, 14, 15] (by decide) rfl
  refine lc_c (va_runV (C := "MovedFrames") (As := [.int (xs (nI (4 * j) + nI 1).toNatClampNeg)]) (rest := []) ⟨hx, hb, hml, hown, hB⟩ (kw_F_blocks l dC dI q cI cZ _ σ (xs (nI (4 * j) + nI 1).toNatClampNeg) v h1) ⟨callB_of 1 hB (gi_ lk_180) rfl rfl rfl (hB _ lk_1) (hB _ lk_177) (by decide +kernel) ⟨(Nat.le_of_ble_eq_true rfl), (Nat.le_of_ble_eq_true rfl)⟩, hB _ lk_178, hB _ lk_179⟩ ⟨bl_, va_recv (ci := 5) (q0 := 0) hKc hPc rfl rfl, pre_ hPc hKc hDc hN⟩ rfl rfl hl.1 rfl (lv_room (Nat.le_of_ble_eq_true rfl)) nd_L_law_657 ⟨by omega, by omega⟩) hP hD hS hA (fun H locs hP hD hS => ?_)
  refine lv_pop hx hb nd_L_law_660 rfl ?_
  refine lv_aload_n hx hb nd_L_law_661 rfl (lv_at hl 2 rfl) ?_
  refine lv_aload_n hx hb nd_L_law_662 rfl (lv_at hl 0 rfl) ?_
  refine lv_iload hx hb nd_L_law_663 (lv_at hl 4 rfl) ?_
  refine lv_iconst (v := nI 1) hx hb nd_L_law_665 (by decide) ?_
  refine lv_iadd hx hb nd_L_law_666 ?_
  refine va_sld hx hb hXs hbl hbA hS (sc_in hj hL (by decide)) nd_L_law_667 ?_
  have hPm : va_P (dC, dI) vwCl (wd_M r cI cZ τ) H := hP.sub [17, 18, 19, 20, 21, 22, 23, 24, 25, 26] rfl
  have hDm : va_D A (wd_M r cI cZ τ) := hD.sub [17, 18, 19, 20, 21, 22, 23, 24, 25, 26] (by decide) rfl
  refine lc_m (va_runV (C := "MovedFramesModel") (As := [.int (xs (nI (4 * j) + nI 1).toNatClampNeg)]) (rest := []) ⟨hx, hb, hml, hown, hB⟩ (kw_M_blocks l dC dI r cI cZ _ τ (xs (nI (4 * j) + nI 1).toNatClampNeg) b1 τ1 h3) ⟨callB_of 1 hB (gi_ lk_816) rfl rfl rfl (hB _ lk_7) (hB _ lk_813) (by decide +kernel) ⟨(Nat.le_of_ble_eq_true rfl), (Nat.le_of_ble_eq_true rfl)⟩, hB _ lk_814, hB _ lk_815⟩ ⟨bl_, va_recv (ci := 6) (q0 := 0) hKc hPm rfl rfl, pre_ hPm hKc hDm hN⟩ rfl rfl hl.1 rfl (lv_room (Nat.le_of_ble_eq_true rfl)) nd_L_law_668 ⟨by omega, by omega⟩) hP hD hS hA (fun H locs hP hD hS => ?_)
  refine lv_pop hx hb nd_L_law_671 rfl ?_
  refine lv_goto (tgt := 701) hx hb nd_L_law_672 (by decide) ?_
  refine W.widen (k := cells + 1) (n := slots + 6) (by omega) (by omega) ?_
  exact kinc _ _ _ hI _ _ _ (lv_sub hl [0, 1, 2, 3, 4] rfl) hP hD hS
set_option maxHeartbeats 4000000 in
set_option maxRecDepth 100000 in
theorem la_16 {Inv : CS → MS → Prop} (hX : lx_ p l s m meth c b L xs (dC, dI) cI cZ cJ A) (hj : 4 * j + 4 ≤ L) (hL : L ≤ 2048) (hc : cells + 1 ≤ room_1.cells) (hs : slots + 6 ≤ room_1.slots) (hst : st_16 Inv σ τ (xs (nI (4 * j) + nI 1).toNatClampNeg) (xs (nI (4 * j) + nI 2).toNatClampNeg) (xs (nI (4 * j) + nI 3).toNatClampNeg))
    (kinc : ∀ (σ1 : CS) (o1 : Nat → Int64) (τ1 : MS), Inv σ1 τ1 → bw_ p l e s m below meth c Q A (dC, dI) q r qo cI cZ cJ b (cells + 1) (slots + 6) 701 [(0, .ref b), (1, .ref (q 0)), (2, .ref (r 0)), (3, .ref qo), (4, .int (nI (4 * j)))] [] (σ1, o1, τ1)) :
    bw_ p l e s m below meth c Q A (dC, dI) q r qo cI cZ cJ b cells slots 675 [(0, .ref b), (1, .ref (q 0)), (2, .ref (r 0)), (3, .ref qo), (4, .int (nI (4 * j)))] [] (σ, o, τ) := by
  obtain ⟨hx, hb, hr, hml, hown, hB, hXs, hbl, hbA, hlocks, hK, hN, hT, hZ, hC, hA, hAA, htr⟩ := hX
  have hKc : va_K (dC, dI) vwCl [(cI, .int), (cZ, .boolean)] s := hK.sub [0, 1] rfl
  obtain ⟨v, b1, τ1, h1, h3, hvb, hI⟩ := hst
  intro ls H locs hl hP hD hS
  refine lv_aload_n hx hb nd_L_law_675 rfl (lv_at hl 1 rfl) ?_
  have hPc : va_P (dC, dI) vwCl (wd_C q cI cZ σ) H := hP.sub [0, 1, 2, 3, 4, 5, 6, 7, 8, 9, 10, 11, 12, 13, 14, 15] rfl
  have hDc : va_D A (wd_C q cI cZ σ) := hD.sub [0, 1, 2, 3, 4, 5, 6, 7, 8, 9, 10, 11, 12, 13, 14, 15] (by decide) rfl
  refine lc_c (va_runV (C := "MovedFrames") (As := []) (rest := []) ⟨hx, hb, hml, hown, hB⟩ (kw_F_free l dC dI q cI cZ _ σ v h1) ⟨callB_of 0 hB (gi_ lk_196) rfl rfl rfl (hB _ lk_1) (hB _ lk_193) (by decide +kernel) ⟨(Nat.le_of_ble_eq_true rfl), (Nat.le_of_ble_eq_true rfl)⟩, hB _ lk_194, hB _ lk_195⟩ ⟨bl_, va_recv (ci := 5) (q0 := 0) hKc hPc rfl rfl, pre_ hPc hKc hDc hN⟩ rfl rfl hl.1 rfl (lv_room (Nat.le_of_ble_eq_true rfl)) nd_L_law_676 ⟨by omega, by omega⟩) hP hD hS hA (fun H locs hP hD hS => ?_)
  refine lv_pop hx hb nd_L_law_679 rfl ?_
  refine lv_aload_n hx hb nd_L_law_680 rfl (lv_at hl 2 rfl) ?_
  have hPm : va_P (dC, dI) vwCl (wd_M r cI cZ τ) H := hP.sub [17, 18, 19, 20, 21, 22, 23, 24, 25, 26] rfl
  have hDm : va_D A (wd_M r cI cZ τ) := hD.sub [17, 18, 19, 20, 21, 22, 23, 24, 25, 26] (by decide) rfl
  refine lc_m (va_runV (C := "MovedFramesModel") (As := []) (rest := []) ⟨hx, hb, hml, hown, hB⟩ (kw_M_free l dC dI r cI cZ _ τ b1 τ1 h3) ⟨callB_of 0 hB (gi_ lk_820) rfl rfl rfl (hB _ lk_7) (hB _ lk_817) (by decide +kernel) ⟨(Nat.le_of_ble_eq_true rfl), (Nat.le_of_ble_eq_true rfl)⟩, hB _ lk_818, hB _ lk_819⟩ ⟨bl_, va_recv (ci := 6) (q0 := 0) hKc hPm rfl rfl, pre_ hPm hKc hDm hN⟩ rfl rfl hl.1 rfl (lv_room (Nat.le_of_ble_eq_true rfl)) nd_L_law_681 ⟨by omega, by omega⟩) hP hD hS hA (fun H locs hP hD hS => ?_)
  refine lv_pop hx hb nd_L_law_684 rfl ?_
  refine lv_goto (tgt := 701) hx hb nd_L_law_685 (by decide) ?_
  refine W.widen (k := cells + 1) (n := slots + 6) (by omega) (by omega) ?_
  exact kinc _ _ _ hI _ _ _ (lv_sub hl [0, 1, 2, 3, 4] rfl) hP hD hS
set_option maxHeartbeats 4000000 in
set_option maxRecDepth 100000 in
theorem la_17 {Inv : CS → MS → Prop} (hX : lx_ p l s m meth c b L xs (dC, dI) cI cZ cJ A) (hj : 4 * j + 4 ≤ L) (hL : L ≤ 2048) (hc : cells + 1 ≤ room_1.cells) (hs : slots + 6 ≤ room_1.slots) (hst : st_17 Inv σ τ (xs (nI (4 * j) + nI 1).toNatClampNeg) (xs (nI (4 * j) + nI 2).toNatClampNeg) (xs (nI (4 * j) + nI 3).toNatClampNeg))
    (kinc : ∀ (σ1 : CS) (o1 : Nat → Int64) (τ1 : MS), Inv σ1 τ1 → bw_ p l e s m below meth c Q A (dC, dI) q r qo cI cZ cJ b (cells + 1) (slots + 6) 701 [(0, .ref b), (1, .ref (q 0)), (2, .ref (r 0)), (3, .ref qo), (4, .int (nI (4 * j)))] [] (σ1, o1, τ1)) :
    bw_ p l e s m below meth c Q A (dC, dI) q r qo cI cZ cJ b cells slots 688 [(0, .ref b), (1, .ref (q 0)), (2, .ref (r 0)), (3, .ref qo), (4, .int (nI (4 * j)))] [] (σ, o, τ) := by
  obtain ⟨hx, hb, hr, hml, hown, hB, hXs, hbl, hbA, hlocks, hK, hN, hT, hZ, hC, hA, hAA, htr⟩ := hX
  have hKc : va_K (dC, dI) vwCl [(cI, .int), (cZ, .boolean)] s := hK.sub [0, 1] rfl
  obtain ⟨v, b1, τ1, h1, h3, hvb, hI⟩ := hst
  intro ls H locs hl hP hD hS
  refine lv_aload_n hx hb nd_L_law_688 rfl (lv_at hl 1 rfl) ?_
  have hPc : va_P (dC, dI) vwCl (wd_C q cI cZ σ) H := hP.sub [0, 1, 2, 3, 4, 5, 6, 7, 8, 9, 10, 11, 12, 13, 14, 15] rfl
  have hDc : va_D A (wd_C q cI cZ σ) := hD.sub [0, 1, 2, 3, 4, 5, 6, 7, 8, 9, 10, 11, 12, 13, 14, 15] (by decide) rfl
  refine lc_c (va_runV (C := "MovedFrames") (As := []) (rest := []) ⟨hx, hb, hml, hown, hB⟩ (kw_F_moved l dC dI q cI cZ _ σ v h1) ⟨callB_of 0 hB (gi_ lk_210) rfl rfl rfl (hB _ lk_1) (hB _ lk_207) (by decide +kernel) ⟨(Nat.le_of_ble_eq_true rfl), (Nat.le_of_ble_eq_true rfl)⟩, hB _ lk_208, hB _ lk_209⟩ ⟨bl_, va_recv (ci := 5) (q0 := 0) hKc hPc rfl rfl, pre_ hPc hKc hDc hN⟩ rfl rfl hl.1 rfl (lv_room (Nat.le_of_ble_eq_true rfl)) nd_L_law_689 ⟨by omega, by omega⟩) hP hD hS hA (fun H locs hP hD hS => ?_)
  refine lv_pop hx hb nd_L_law_692 rfl ?_
  refine lv_aload_n hx hb nd_L_law_693 rfl (lv_at hl 2 rfl) ?_
  have hPm : va_P (dC, dI) vwCl (wd_M r cI cZ τ) H := hP.sub [17, 18, 19, 20, 21, 22, 23, 24, 25, 26] rfl
  have hDm : va_D A (wd_M r cI cZ τ) := hD.sub [17, 18, 19, 20, 21, 22, 23, 24, 25, 26] (by decide) rfl
  refine lc_m (va_runV (C := "MovedFramesModel") (As := []) (rest := []) ⟨hx, hb, hml, hown, hB⟩ (kw_M_moved l dC dI r cI cZ _ τ b1 τ1 h3) ⟨callB_of 0 hB (gi_ lk_824) rfl rfl rfl (hB _ lk_7) (hB _ lk_821) (by decide +kernel) ⟨(Nat.le_of_ble_eq_true rfl), (Nat.le_of_ble_eq_true rfl)⟩, hB _ lk_822, hB _ lk_823⟩ ⟨bl_, va_recv (ci := 6) (q0 := 0) hKc hPm rfl rfl, pre_ hPm hKc hDm hN⟩ rfl rfl hl.1 rfl (lv_room (Nat.le_of_ble_eq_true rfl)) nd_L_law_694 ⟨by omega, by omega⟩) hP hD hS hA (fun H locs hP hD hS => ?_)
  refine lv_pop hx hb nd_L_law_697 rfl ?_
  refine lv_goto (tgt := 701) hx hb nd_L_law_698 (by decide) ?_
  refine W.widen (k := cells + 1) (n := slots + 6) (by omega) (by omega) ?_
  exact kinc _ _ _ hI _ _ _ (lv_sub hl [0, 1, 2, 3, 4] rfl) hP hD hS
end LAW
