section LAW
variable {p : Program} {l : Launch} {e : Env} {s : State} {m : MethodId} {below : List Frame} {meth : Method} {c : Code} {Q : State → Prop} {A : Nat → Prop} {dC : Nat → ClassId} {dI : Nat → Nat → Nat} {q r : Nat → Nat} {qo b L j cells slots : Nat} {xs : Nat → Int32} {cI cZ cJ : ClassId} {σ : CS} {τ : MS} {o : Nat → Int64}
theorem lp_c {j L : Nat} (hL : L ≤ 2048) (hj : 4 * j ≤ L) : (Int32.ofNat L - 4 < nI (4 * j)) ↔ L < 4 * j + 4 := by
  have e1 : (Int32.ofNat L).toInt = (L : Int) := nI_toInt (n := L) (by omega)
  have e2 : (nI (4 * j)).toInt = ((4 * j : Nat) : Int) := nI_toInt (by omega)
  rw [Int32.lt_iff_toInt_lt, Int32.toInt_sub, e1, e2, show (4 : Int32).toInt = 4 by decide]
  have e3 : ((L : Int) - 4).bmod (2 ^ 32) = (L : Int) - 4 := by
    rw [Int.bmod_def]
    split <;> omega
  rw [e3]
  omega
set_option maxHeartbeats 4000000 in
set_option maxRecDepth 100000 in
theorem law_head (hX : lx_ p l s m meth c b L xs (dC, dI) cI cZ cJ A) (hL : L ≤ 2048) (hj : 4 * j ≤ L) (kx : L < 4 * j + 4 → bw_ p l e s m below meth c Q A (dC, dI) q r qo cI cZ cJ b cells slots 707 [(0, .ref b), (1, .ref (q 0)), (2, .ref (r 0)), (3, .ref qo), (4, .int (nI (4 * j)))] [] (σ, o, τ)) (kb : 4 * j + 4 ≤ L → bw_ p l e s m below meth c Q A (dC, dI) q r qo cI cZ cJ b cells slots 32 [(0, .ref b), (1, .ref (q 0)), (2, .ref (r 0)), (3, .ref qo), (4, .int (nI (4 * j)))] [] (σ, o, τ)) : bw_ p l e s m below meth c Q A (dC, dI) q r qo cI cZ cJ b cells slots 23 [(0, .ref b), (1, .ref (q 0)), (2, .ref (r 0)), (3, .ref qo), (4, .int (nI (4 * j)))] [] (σ, o, τ) := by
  obtain ⟨hx, hb, hr, hml, hown, hB, hXs, hbl, hbA, hlocks, hK, hN, hT, hZ, hC, hA, hAA, htr⟩ := hX
  intro ls H locs hl hP hD hS
  refine lv_iload hx hb nd_L_law_23 (lv_at hl 4 rfl) ?_
  refine lv_aload_n hx hb nd_L_law_25 rfl (lv_at hl 0 rfl) ?_
  refine va_slen hx hb hXs hbl hbA hS nd_L_law_26 ?_
  refine lv_iconst (v := 4) hx hb nd_L_law_27 (by decide) ?_
  refine lv_isub hx hb nd_L_law_28 ?_
  refine lv_icmp_gt (tgt := 707) hx hb nd_L_law_29 (by decide) (fun h9 => ?_) (fun h9 => ?_)
  · exact kx ((lp_c hL hj).mp h9) _ _ _ hl hP hD hS
  · exact kb (Nat.le_of_not_lt (fun z => h9 ((lp_c hL hj).mpr z))) _ _ _ hl hP hD hS
set_option maxHeartbeats 4000000 in
set_option maxRecDepth 100000 in
theorem law_exit (hX : lx_ p l s m meth c b L xs (dC, dI) cI cZ cJ A) (hc : cells ≤ 1062) (hs : slots ≤ 13228) : bw_ p l e s m below meth c (lw_Z below #[Value.ref b] s) A (dC, dI) q r qo cI cZ cJ b cells slots 707 [(0, .ref b), (1, .ref (q 0)), (2, .ref (r 0)), (3, .ref qo), (4, .int (nI (4 * j)))] [] (σ, o, τ) := by
  obtain ⟨hx, hb, hr, hml, hown, hB, hXs, hbl, hbA, hlocks, hK, hN, hT, hZ, hC, hA, hAA, htr⟩ := hX
  intro ls H locs hl hP hD hS
  refine lv_iconst (v := 1) hx hb nd_L_law_707 (by decide) ?_
  refine va_forget (fun q h => hAA _ (hS.2.2 q h)) ?_
  refine W.widen (k := 1062) (n := 13228) hc hs ?_
  exact lw_ret hx hb hr hlocks nd_L_law_708
set_option maxHeartbeats 4000000 in
set_option maxRecDepth 100000 in
theorem law_inc (hX : lx_ p l s m meth c b L xs (dC, dI) cI cZ cJ A) (k : bw_ p l e s m below meth c Q A (dC, dI) q r qo cI cZ cJ b cells slots 23 [(0, .ref b), (1, .ref (q 0)), (2, .ref (r 0)), (3, .ref qo), (4, .int (nI (4 * (j + 1))))] [] (σ, o, τ)) : bw_ p l e s m below meth c Q A (dC, dI) q r qo cI cZ cJ b cells slots 701 [(0, .ref b), (1, .ref (q 0)), (2, .ref (r 0)), (3, .ref qo), (4, .int (nI (4 * j)))] [] (σ, o, τ) := by
  obtain ⟨hx, hb, hr, hml, hown, hB, hXs, hbl, hbA, hlocks, hK, hN, hT, hZ, hC, hA, hAA, htr⟩ := hX
  intro ls H locs hl hP hD hS
  refine lv_iinc (k := 4) (v := nI (4 * (j + 1))) (lv' := [(4, .int (nI (4 * (j + 1)))), (0, .ref b), (1, .ref (q 0)), (2, .ref (r 0)), (3, .ref qo)]) hx hb nd_L_law_701 hl rfl ((nI_add (4 * j) 4).trans (congrArg nI (by omega))) (by decide) rfl (fun ls hl => ?_)
  refine lv_goto (tgt := 23) hx hb nd_L_law_704 (by decide) ?_
  exact k _ _ _ (lv_sub hl [1, 2, 3, 4, 0] rfl) hP hD hS
set_option maxHeartbeats 4000000 in
set_option maxRecDepth 100000 in
theorem law_switch {Inv : CS → MS → Prop} (hX : lx_ p l s m meth c b L xs (dC, dI) cI cZ cJ A) (hj : 4 * j + 4 ≤ L) (hL : L ≤ 2048) (hc : cells + 1 ≤ room_1.cells) (hs : slots + 6 ≤ room_1.slots) (hst : st_0 Inv σ τ (xs (nI (4 * j) + nI 1).toNatClampNeg) (xs (nI (4 * j) + nI 2).toNatClampNeg) (xs (nI (4 * j) + nI 3).toNatClampNeg) ∧ st_1 Inv σ τ (xs (nI (4 * j) + nI 1).toNatClampNeg) (xs (nI (4 * j) + nI 2).toNatClampNeg) (xs (nI (4 * j) + nI 3).toNatClampNeg) ∧ st_2 Inv σ τ (xs (nI (4 * j) + nI 1).toNatClampNeg) (xs (nI (4 * j) + nI 2).toNatClampNeg) (xs (nI (4 * j) + nI 3).toNatClampNeg) ∧ st_3 Inv σ τ (xs (nI (4 * j) + nI 1).toNatClampNeg) (xs (nI (4 * j) + nI 2).toNatClampNeg) (xs (nI (4 * j) + nI 3).toNatClampNeg) ∧ st_4 Inv σ τ (xs (nI (4 * j) + nI 1).toNatClampNeg) (xs (nI (4 * j) + nI 2).toNatClampNeg) (xs (nI (4 * j) + nI 3).toNatClampNeg) ∧ st_5 Inv σ τ (xs (nI (4 * j) + nI 1).toNatClampNeg) (xs (nI (4 * j) + nI 2).toNatClampNeg) (xs (nI (4 * j) + nI 3).toNatClampNeg) ∧ st_6 Inv σ τ (xs (nI (4 * j) + nI 1).toNatClampNeg) (xs (nI (4 * j) + nI 2).toNatClampNeg) (xs (nI (4 * j) + nI 3).toNatClampNeg) ∧ st_7 Inv σ τ (xs (nI (4 * j) + nI 1).toNatClampNeg) (xs (nI (4 * j) + nI 2).toNatClampNeg) (xs (nI (4 * j) + nI 3).toNatClampNeg) ∧ st_8 Inv σ τ (xs (nI (4 * j) + nI 1).toNatClampNeg) (xs (nI (4 * j) + nI 2).toNatClampNeg) (xs (nI (4 * j) + nI 3).toNatClampNeg) ∧ st_9 Inv σ τ (xs (nI (4 * j) + nI 1).toNatClampNeg) (xs (nI (4 * j) + nI 2).toNatClampNeg) (xs (nI (4 * j) + nI 3).toNatClampNeg) ∧ st_10 Inv σ τ (xs (nI (4 * j) + nI 1).toNatClampNeg) (xs (nI (4 * j) + nI 2).toNatClampNeg) (xs (nI (4 * j) + nI 3).toNatClampNeg) ∧ st_11 Inv σ τ (xs (nI (4 * j) + nI 1).toNatClampNeg) (xs (nI (4 * j) + nI 2).toNatClampNeg) (xs (nI (4 * j) + nI 3).toNatClampNeg) ∧ st_12 Inv σ τ (xs (nI (4 * j) + nI 1).toNatClampNeg) (xs (nI (4 * j) + nI 2).toNatClampNeg) (xs (nI (4 * j) + nI 3).toNatClampNeg) ∧ st_13 Inv σ τ (xs (nI (4 * j) + nI 1).toNatClampNeg) (xs (nI (4 * j) + nI 2).toNatClampNeg) (xs (nI (4 * j) + nI 3).toNatClampNeg) ∧ st_14 Inv σ τ (xs (nI (4 * j) + nI 1).toNatClampNeg) (xs (nI (4 * j) + nI 2).toNatClampNeg) (xs (nI (4 * j) + nI 3).toNatClampNeg) ∧ st_15 Inv σ τ (xs (nI (4 * j) + nI 1).toNatClampNeg) (xs (nI (4 * j) + nI 2).toNatClampNeg) (xs (nI (4 * j) + nI 3).toNatClampNeg) ∧ st_16 Inv σ τ (xs (nI (4 * j) + nI 1).toNatClampNeg) (xs (nI (4 * j) + nI 2).toNatClampNeg) (xs (nI (4 * j) + nI 3).toNatClampNeg) ∧ st_17 Inv σ τ (xs (nI (4 * j) + nI 1).toNatClampNeg) (xs (nI (4 * j) + nI 2).toNatClampNeg) (xs (nI (4 * j) + nI 3).toNatClampNeg) ∧ Inv σ τ)
    (kinc : ∀ (σ1 : CS) (o1 : Nat → Int64) (τ1 : MS), Inv σ1 τ1 → bw_ p l e s m below meth c Q A (dC, dI) q r qo cI cZ cJ b (cells + 1) (slots + 6) 701 [(0, .ref b), (1, .ref (q 0)), (2, .ref (r 0)), (3, .ref qo), (4, .int (nI (4 * j)))] [] (σ1, o1, τ1)) : bw_ p l e s m below meth c Q A (dC, dI) q r qo cI cZ cJ b cells slots 32 [(0, .ref b), (1, .ref (q 0)), (2, .ref (r 0)), (3, .ref qo), (4, .int (nI (4 * j)))] [] (σ, o, τ) := by
  have hX9 := hX
  obtain ⟨hx, hb, hr, hml, hown, hB, hXs, hbl, hbA, hlocks, hK, hN, hT, hZ, hC, hA, hAA, htr⟩ := hX
  intro ls H locs hl hP hD hS
  refine lv_aload_n hx hb nd_L_law_32 rfl (lv_at hl 0 rfl) ?_
  refine lv_iload hx hb nd_L_law_33 (lv_at hl 4 rfl) ?_
  refine va_sld hx hb hXs hbl hbA hS (nI_in (by omega) (by omega)) nd_L_law_35 ?_
  refine lv_bipush (v := 31) hx hb nd_L_law_36 (by decide) ?_
  refine lv_iand hx hb nd_L_law_38 ?_
  obtain ⟨cc, hcc, hcE⟩ := sw_31 (xs (nI (4 * j)).toNatClampNeg)
  have h18 : cc = 0 ∨ cc = 1 ∨ cc = 2 ∨ cc = 3 ∨ cc = 4 ∨ cc = 5 ∨ cc = 6 ∨ cc = 7 ∨ cc = 8 ∨ cc = 9 ∨ cc = 10 ∨ cc = 11 ∨ cc = 12 ∨ cc = 13 ∨ cc = 14 ∨ cc = 15 ∨ cc = 16 ∨ cc = 17 ∨ 18 ≤ cc := by omega
  obtain ⟨t0, t1, t2, t3, t4, t5, t6, t7, t8, t9, t10, t11, t12, t13, t14, t15, t16, t17, hI⟩ := hst
  rcases h18 with rfl | rfl | rfl | rfl | rfl | rfl | rfl | rfl | rfl | rfl | rfl | rfl | rfl | rfl | rfl | rfl | rfl | rfl | h18
  · obtain ⟨z1, z2, z3⟩ := sw_in (lo := 0) (hi := 17) (offs := #[85, 113, 138, 166, 194, 210, 238, 287, 339, 379, 428, 456, 512, 537, 574, 611, 636, 649]) (o := 85) hcE (by decide) (by decide) (by decide)
    exact lv_tableIn (tgt := 124) hx hb nd_L_law_39 z1 z2 z3 (by decide) (la_0 hX9 hj hL hc hs t0 kinc _ _ _ hl hP hD hS)
  · obtain ⟨z1, z2, z3⟩ := sw_in (lo := 0) (hi := 17) (offs := #[85, 113, 138, 166, 194, 210, 238, 287, 339, 379, 428, 456, 512, 537, 574, 611, 636, 649]) (o := 113) hcE (by decide) (by decide) (by decide)
    exact lv_tableIn (tgt := 152) hx hb nd_L_law_39 z1 z2 z3 (by decide) (la_1 hX9 hj hL hc hs t1 kinc _ _ _ hl hP hD hS)
  · obtain ⟨z1, z2, z3⟩ := sw_in (lo := 0) (hi := 17) (offs := #[85, 113, 138, 166, 194, 210, 238, 287, 339, 379, 428, 456, 512, 537, 574, 611, 636, 649]) (o := 138) hcE (by decide) (by decide) (by decide)
    exact lv_tableIn (tgt := 177) hx hb nd_L_law_39 z1 z2 z3 (by decide) (la_2 hX9 hj hL hc hs t2 kinc _ _ _ hl hP hD hS)
  · obtain ⟨z1, z2, z3⟩ := sw_in (lo := 0) (hi := 17) (offs := #[85, 113, 138, 166, 194, 210, 238, 287, 339, 379, 428, 456, 512, 537, 574, 611, 636, 649]) (o := 166) hcE (by decide) (by decide) (by decide)
    exact lv_tableIn (tgt := 205) hx hb nd_L_law_39 z1 z2 z3 (by decide) (la_3 hX9 hj hL hc hs t3 kinc _ _ _ hl hP hD hS)
  · obtain ⟨z1, z2, z3⟩ := sw_in (lo := 0) (hi := 17) (offs := #[85, 113, 138, 166, 194, 210, 238, 287, 339, 379, 428, 456, 512, 537, 574, 611, 636, 649]) (o := 194) hcE (by decide) (by decide) (by decide)
    exact lv_tableIn (tgt := 233) hx hb nd_L_law_39 z1 z2 z3 (by decide) (la_4 hX9 hj hL hc hs t4 kinc _ _ _ hl hP hD hS)
  · obtain ⟨z1, z2, z3⟩ := sw_in (lo := 0) (hi := 17) (offs := #[85, 113, 138, 166, 194, 210, 238, 287, 339, 379, 428, 456, 512, 537, 574, 611, 636, 649]) (o := 210) hcE (by decide) (by decide) (by decide)
    exact lv_tableIn (tgt := 249) hx hb nd_L_law_39 z1 z2 z3 (by decide) (la_5 hX9 hj hL hc hs t5 kinc _ _ _ hl hP hD hS)
  · obtain ⟨z1, z2, z3⟩ := sw_in (lo := 0) (hi := 17) (offs := #[85, 113, 138, 166, 194, 210, 238, 287, 339, 379, 428, 456, 512, 537, 574, 611, 636, 649]) (o := 238) hcE (by decide) (by decide) (by decide)
    exact lv_tableIn (tgt := 277) hx hb nd_L_law_39 z1 z2 z3 (by decide) (la_6 hX9 hj hL hc hs t6 kinc _ _ _ hl hP hD hS)
  · obtain ⟨z1, z2, z3⟩ := sw_in (lo := 0) (hi := 17) (offs := #[85, 113, 138, 166, 194, 210, 238, 287, 339, 379, 428, 456, 512, 537, 574, 611, 636, 649]) (o := 287) hcE (by decide) (by decide) (by decide)
    exact lv_tableIn (tgt := 326) hx hb nd_L_law_39 z1 z2 z3 (by decide) (la_7 hX9 hj hL hc hs t7 kinc _ _ _ hl hP hD hS)
  · obtain ⟨z1, z2, z3⟩ := sw_in (lo := 0) (hi := 17) (offs := #[85, 113, 138, 166, 194, 210, 238, 287, 339, 379, 428, 456, 512, 537, 574, 611, 636, 649]) (o := 339) hcE (by decide) (by decide) (by decide)
    exact lv_tableIn (tgt := 378) hx hb nd_L_law_39 z1 z2 z3 (by decide) (la_8 hX9 hj hL hc hs t8 kinc _ _ _ hl hP hD hS)
  · obtain ⟨z1, z2, z3⟩ := sw_in (lo := 0) (hi := 17) (offs := #[85, 113, 138, 166, 194, 210, 238, 287, 339, 379, 428, 456, 512, 537, 574, 611, 636, 649]) (o := 379) hcE (by decide) (by decide) (by decide)
    exact lv_tableIn (tgt := 418) hx hb nd_L_law_39 z1 z2 z3 (by decide) (la_9 hX9 hj hL hc hs t9 kinc _ _ _ hl hP hD hS)
  · obtain ⟨z1, z2, z3⟩ := sw_in (lo := 0) (hi := 17) (offs := #[85, 113, 138, 166, 194, 210, 238, 287, 339, 379, 428, 456, 512, 537, 574, 611, 636, 649]) (o := 428) hcE (by decide) (by decide) (by decide)
    exact lv_tableIn (tgt := 467) hx hb nd_L_law_39 z1 z2 z3 (by decide) (la_10 hX9 hj hL hc hs t10 kinc _ _ _ hl hP hD hS)
  · obtain ⟨z1, z2, z3⟩ := sw_in (lo := 0) (hi := 17) (offs := #[85, 113, 138, 166, 194, 210, 238, 287, 339, 379, 428, 456, 512, 537, 574, 611, 636, 649]) (o := 456) hcE (by decide) (by decide) (by decide)
    exact lv_tableIn (tgt := 495) hx hb nd_L_law_39 z1 z2 z3 (by decide) (la_11 hX9 hj hL hc hs t11 kinc _ _ _ hl hP hD hS)
  · obtain ⟨z1, z2, z3⟩ := sw_in (lo := 0) (hi := 17) (offs := #[85, 113, 138, 166, 194, 210, 238, 287, 339, 379, 428, 456, 512, 537, 574, 611, 636, 649]) (o := 512) hcE (by decide) (by decide) (by decide)
    exact lv_tableIn (tgt := 551) hx hb nd_L_law_39 z1 z2 z3 (by decide) (la_12 hX9 hj hL hc hs t12 kinc _ _ _ hl hP hD hS)
  · obtain ⟨z1, z2, z3⟩ := sw_in (lo := 0) (hi := 17) (offs := #[85, 113, 138, 166, 194, 210, 238, 287, 339, 379, 428, 456, 512, 537, 574, 611, 636, 649]) (o := 537) hcE (by decide) (by decide) (by decide)
    exact lv_tableIn (tgt := 576) hx hb nd_L_law_39 z1 z2 z3 (by decide) (la_13 hX9 hj hL hc hs t13 kinc _ _ _ hl hP hD hS)
  · obtain ⟨z1, z2, z3⟩ := sw_in (lo := 0) (hi := 17) (offs := #[85, 113, 138, 166, 194, 210, 238, 287, 339, 379, 428, 456, 512, 537, 574, 611, 636, 649]) (o := 574) hcE (by decide) (by decide) (by decide)
    exact lv_tableIn (tgt := 613) hx hb nd_L_law_39 z1 z2 z3 (by decide) (la_14 hX9 hj hL hc hs t14 kinc _ _ _ hl hP hD hS)
  · obtain ⟨z1, z2, z3⟩ := sw_in (lo := 0) (hi := 17) (offs := #[85, 113, 138, 166, 194, 210, 238, 287, 339, 379, 428, 456, 512, 537, 574, 611, 636, 649]) (o := 611) hcE (by decide) (by decide) (by decide)
    exact lv_tableIn (tgt := 650) hx hb nd_L_law_39 z1 z2 z3 (by decide) (la_15 hX9 hj hL hc hs t15 kinc _ _ _ hl hP hD hS)
  · obtain ⟨z1, z2, z3⟩ := sw_in (lo := 0) (hi := 17) (offs := #[85, 113, 138, 166, 194, 210, 238, 287, 339, 379, 428, 456, 512, 537, 574, 611, 636, 649]) (o := 636) hcE (by decide) (by decide) (by decide)
    exact lv_tableIn (tgt := 675) hx hb nd_L_law_39 z1 z2 z3 (by decide) (la_16 hX9 hj hL hc hs t16 kinc _ _ _ hl hP hD hS)
  · obtain ⟨z1, z2, z3⟩ := sw_in (lo := 0) (hi := 17) (offs := #[85, 113, 138, 166, 194, 210, 238, 287, 339, 379, 428, 456, 512, 537, 574, 611, 636, 649]) (o := 649) hcE (by decide) (by decide) (by decide)
    exact lv_tableIn (tgt := 688) hx hb nd_L_law_39 z1 z2 z3 (by decide) (la_17 hX9 hj hL hc hs t17 kinc _ _ _ hl hP hD hS)
  · refine lv_tableOut (tgt := 701) hx hb nd_L_law_39 (Or.inr (by rw [hcE, nI_toInt (by omega)]; omega)) (by decide) ?_
    refine W.widen (k := cells + 1) (n := slots + 6) (by omega) (by omega) ?_
    exact kinc _ _ _ hI _ _ _ hl hP hD hS
set_option maxHeartbeats 4000000 in
set_option maxRecDepth 100000 in
theorem law_loop {Inv : Nat → CS → MS → Prop} (hX : lx_ p l s m meth c b L xs (dC, dI) cI cZ cJ A) (hL : L ≤ 2048) (hstep : ∀ (j : Nat) (σ : CS) (τ : MS), 4 * j + 4 ≤ L → Inv j σ τ → ∀ x1 x2 x3 : Int32, st_0 (Inv (j + 1)) σ τ x1 x2 x3 ∧ st_1 (Inv (j + 1)) σ τ x1 x2 x3 ∧ st_2 (Inv (j + 1)) σ τ x1 x2 x3 ∧ st_3 (Inv (j + 1)) σ τ x1 x2 x3 ∧ st_4 (Inv (j + 1)) σ τ x1 x2 x3 ∧ st_5 (Inv (j + 1)) σ τ x1 x2 x3 ∧ st_6 (Inv (j + 1)) σ τ x1 x2 x3 ∧ st_7 (Inv (j + 1)) σ τ x1 x2 x3 ∧ st_8 (Inv (j + 1)) σ τ x1 x2 x3 ∧ st_9 (Inv (j + 1)) σ τ x1 x2 x3 ∧ st_10 (Inv (j + 1)) σ τ x1 x2 x3 ∧ st_11 (Inv (j + 1)) σ τ x1 x2 x3 ∧ st_12 (Inv (j + 1)) σ τ x1 x2 x3 ∧ st_13 (Inv (j + 1)) σ τ x1 x2 x3 ∧ st_14 (Inv (j + 1)) σ τ x1 x2 x3 ∧ st_15 (Inv (j + 1)) σ τ x1 x2 x3 ∧ st_16 (Inv (j + 1)) σ τ x1 x2 x3 ∧ st_17 (Inv (j + 1)) σ τ x1 x2 x3 ∧ Inv (j + 1) σ τ) (n : Nat) :
    ∀ (j : Nat) (σ : CS) (o : Nat → Int64) (τ : MS), 4 * j ≤ L → L < 4 * j + 4 * n + 4 → Inv j σ τ → bw_ p l e s m below meth c (lw_Z below #[Value.ref b] s) A (dC, dI) q r qo cI cZ cJ b (27 + j) (4970 + 6 * j) 23 [(0, .ref b), (1, .ref (q 0)), (2, .ref (r 0)), (3, .ref qo), (4, .int (nI (4 * j)))] [] (σ, o, τ) := by
  have hL9 : L ≤ 2048 := by omega
  induction n with
  | zero =>
    intro j σ o τ h1 h2 hI
    exact law_head hX hL9 h1 (fun _ => law_exit hX (by omega) (by omega)) (fun h => absurd h (by omega))
  | succ n ih =>
    intro j σ o τ h1 h2 hI
    refine law_head hX hL9 h1 (fun _ => law_exit hX (by omega) (by omega)) (fun h => ?_)
    refine law_switch hX h hL9 (show 27 + j + 1 ≤ 1062 by omega) (show 4970 + 6 * j + 6 ≤ 13228 by omega) (hstep j σ τ h hI _ _ _) (fun σ1 o1 τ1 hI1 => ?_)
    refine law_inc hX ?_
    have z := ih (j + 1) σ1 o1 τ1 (by omega) (by omega) hI1
    have e1 : 27 + (j + 1) = 27 + j + 1 := by omega
    have e2 : 4970 + 6 * (j + 1) = 4970 + 6 * j + 6 := by omega
    rw [e1, e2] at z
    exact z
end LAW
