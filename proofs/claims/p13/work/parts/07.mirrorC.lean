abbrev CS : Type := (Nat → Int32) × (Nat → Int32) × (Int64) × (Nat → Int32) × (Nat → Int32) × (Nat → Int32) × (Nat → Int32) × (Nat → Int32) × (Nat → Int32) × (Nat → Int32) × (Nat → Int32) × (Int32)
abbrev gc_o (σ : CS) : Nat → Int32 := σ.1
abbrev gc_w (σ : CS) : Nat → Int32 := σ.2.1
abbrev gc_fb (σ : CS) : Int64 := σ.2.2.1
abbrev gc_sz (σ : CS) : Nat → Int32 := σ.2.2.2.1
abbrev gc_tk (σ : CS) : Nat → Int32 := σ.2.2.2.2.1
abbrev gc_en (σ : CS) : Nat → Int32 := σ.2.2.2.2.2.1
abbrev gc_ln (σ : CS) : Nat → Int32 := σ.2.2.2.2.2.2.1
abbrev gc_ro (σ : CS) : Nat → Int32 := σ.2.2.2.2.2.2.2.1
abbrev gc_rg (σ : CS) : Nat → Int32 := σ.2.2.2.2.2.2.2.2.1
abbrev gc_eo (σ : CS) : Nat → Int32 := σ.2.2.2.2.2.2.2.2.2.1
abbrev gc_rl (σ : CS) : Nat → Int32 := σ.2.2.2.2.2.2.2.2.2.2.1
abbrev gc_mv (σ : CS) : Int32 := σ.2.2.2.2.2.2.2.2.2.2.2
abbrev sc_o (σ : CS) (v : Nat → Int32) : CS := (v, σ.2)
abbrev sc_w (σ : CS) (v : Nat → Int32) : CS := (σ.1, v, σ.2.2)
abbrev sc_fb (σ : CS) (v : Int64) : CS := (σ.1, σ.2.1, v, σ.2.2.2)
abbrev sc_sz (σ : CS) (v : Nat → Int32) : CS := (σ.1, σ.2.1, σ.2.2.1, v, σ.2.2.2.2)
abbrev sc_tk (σ : CS) (v : Nat → Int32) : CS := (σ.1, σ.2.1, σ.2.2.1, σ.2.2.2.1, v, σ.2.2.2.2.2)
abbrev sc_en (σ : CS) (v : Nat → Int32) : CS := (σ.1, σ.2.1, σ.2.2.1, σ.2.2.2.1, σ.2.2.2.2.1, v, σ.2.2.2.2.2.2)
abbrev sc_ln (σ : CS) (v : Nat → Int32) : CS := (σ.1, σ.2.1, σ.2.2.1, σ.2.2.2.1, σ.2.2.2.2.1, σ.2.2.2.2.2.1, v, σ.2.2.2.2.2.2.2)
abbrev sc_ro (σ : CS) (v : Nat → Int32) : CS := (σ.1, σ.2.1, σ.2.2.1, σ.2.2.2.1, σ.2.2.2.2.1, σ.2.2.2.2.2.1, σ.2.2.2.2.2.2.1, v, σ.2.2.2.2.2.2.2.2)
abbrev sc_rg (σ : CS) (v : Nat → Int32) : CS := (σ.1, σ.2.1, σ.2.2.1, σ.2.2.2.1, σ.2.2.2.2.1, σ.2.2.2.2.2.1, σ.2.2.2.2.2.2.1, σ.2.2.2.2.2.2.2.1, v, σ.2.2.2.2.2.2.2.2.2)
abbrev sc_eo (σ : CS) (v : Nat → Int32) : CS := (σ.1, σ.2.1, σ.2.2.1, σ.2.2.2.1, σ.2.2.2.2.1, σ.2.2.2.2.2.1, σ.2.2.2.2.2.2.1, σ.2.2.2.2.2.2.2.1, σ.2.2.2.2.2.2.2.2.1, v, σ.2.2.2.2.2.2.2.2.2.2)
abbrev sc_rl (σ : CS) (v : Nat → Int32) : CS := (σ.1, σ.2.1, σ.2.2.1, σ.2.2.2.1, σ.2.2.2.2.1, σ.2.2.2.2.2.1, σ.2.2.2.2.2.2.1, σ.2.2.2.2.2.2.2.1, σ.2.2.2.2.2.2.2.2.1, σ.2.2.2.2.2.2.2.2.2.1, v, σ.2.2.2.2.2.2.2.2.2.2.2)
abbrev sc_mv (σ : CS) (v : Int32) : CS := (σ.1, σ.2.1, σ.2.2.1, σ.2.2.2.1, σ.2.2.2.2.1, σ.2.2.2.2.2.1, σ.2.2.2.2.2.2.1, σ.2.2.2.2.2.2.2.1, σ.2.2.2.2.2.2.2.2.1, σ.2.2.2.2.2.2.2.2.2.1, σ.2.2.2.2.2.2.2.2.2.2.1, v)
def wd_C (q : Nat → Nat) (cI cZ : ClassId) (σ : CS) : va_W := [(q 0, .inr (5, [.ref (q 1), .ref (q 2), .ref (q 3), .ref (q 4), .ref (q 5)])),
  (q 1, .inr (0, [.ref (q 6), .ref (q 7), .long (gc_fb σ)])),
  (q 2, .inr (3, [.ref (q 1), .ref (q 8), .ref (q 9)])),
  (q 3, .inr (1, [.ref (q 1), .ref (q 10), .ref (q 11)])),
  (q 4, .inr (4, [.ref (q 1), .ref (q 12), .ref (q 13), .ref (q 14)])),
  (q 5, .inr (2, [.ref (q 1), .ref (q 4), .ref (q 15), .int (gc_mv σ)])),
  (q 6, .inl (cI, 64, .inl (gc_o σ))),
  (q 7, .inl (cI, 1024, .inl (gc_w σ))),
  (q 8, .inl (cI, 64, .inl (gc_sz σ))),
  (q 9, .inl (cI, 64, .inl (gc_tk σ))),
  (q 10, .inl (cI, 64, .inl (gc_en σ))),
  (q 11, .inl (cI, 64, .inl (gc_ln σ))),
  (q 12, .inl (cI, 4, .inl (gc_ro σ))),
  (q 13, .inl (cZ, 1024, .inl (gc_rg σ))),
  (q 14, .inl (cI, 64, .inl (gc_eo σ))),
  (q 15, .inl (cI, 64, .inl (gc_rl σ)))]
def mc_sizeFor (x0 : Int32) : Option (Int32) :=
  if (2 : Int32) < x0 then
    if (4 : Int32) < x0 then
      some (8 : Int32)
    else
      some (4 : Int32)
  else
    some (2 : Int32)
def mc_Slabs_bitOf (σ : CS) (x1 : Int32) : Option (Int32) :=
  mi_gd (x1 / (16 : Int32) < 0 ∨ 64 ≤ (x1 / (16 : Int32)).toNatClampNeg) <|
  if ((gc_sz σ) (x1 / (16 : Int32)).toNatClampNeg) = (0 : Int32) then
    some (0 : Int32)
  else
    mi_gd (((gc_sz σ) (x1 / (16 : Int32)).toNatClampNeg) = 0) <|
    some ((1 : Int32) <<< (((x1 - x1 / (16 : Int32) * (16 : Int32)) / ((gc_sz σ) (x1 / (16 : Int32)).toNatClampNeg)) &&& 31))
def mc_Slabs_placeAt (σ : CS) (x1 : Int32) : Option (Int32) :=
  if x1 < (0 : Int32) then
    some (-1 : Int32)
  else
    if (1024 : Int32) ≤ x1 then
      some (-1 : Int32)
    else
      mi_gd (x1 / (16 : Int32) < 0 ∨ 64 ≤ (x1 / (16 : Int32)).toNatClampNeg) <|
      if ((gc_sz σ) (x1 / (16 : Int32)).toNatClampNeg) = (0 : Int32) then
        some (-1 : Int32)
      else
        mi_gd (x1 / (16 : Int32) < 0 ∨ 64 ≤ (x1 / (16 : Int32)).toNatClampNeg) <|
        mi_cp (mc_Slabs_bitOf σ x1) fun r1 =>
        if (((gc_tk σ) (x1 / (16 : Int32)).toNatClampNeg) &&& r1) = (0 : Int32) then
          some (-1 : Int32)
        else
          some x1
def mc_Slabs_lowestRoom_b2 (k2 : Int32 → Int32 → CS → Option (Int32)) (x1 : Int32) (x2 : Int32) (σ : CS) : Option (Int32) :=
  if (16 : Int32) ≤ x2 then
    some (-1 : Int32)
  else
    mi_cp (mc_Slabs_placeAt σ ((x1 * (16 : Int32)) + x2)) fun r1 =>
    if r1 = (-1 : Int32) then
      some ((x1 * (16 : Int32)) + x2)
    else
      k2 x1 (x2 + (1 : Int32)) σ
def mc_Slabs_lowestRoom_l2 : Nat → Int32 → Int32 → CS → Option (Int32)
  | 0, _, _, _ => none
  | n + 1, a0, a1, a2 => mc_Slabs_lowestRoom_b2 (mc_Slabs_lowestRoom_l2 n) a0 a1 a2
def mc_Slabs_lowestRoom (σ : CS) (x1 : Int32) : Option (Int32) :=
  mc_Slabs_lowestRoom_l2 FU x1 (0 : Int32) σ
def mc_Slabs_lowestSlabWithRoom_b2 (k2 : Int32 → Int32 → CS → Option (Int32)) (x1 : Int32) (x2 : Int32) (σ : CS) : Option (Int32) :=
  if (64 : Int32) ≤ x2 then
    some (-1 : Int32)
  else
    mi_gd (x2 < 0 ∨ 64 ≤ x2.toNatClampNeg) <|
    if ((gc_sz σ) x2.toNatClampNeg) = x1 then
      mi_cp (mc_Slabs_lowestRoom σ x2) fun r1 =>
      if r1 = (-1 : Int32) then
        k2 x1 (x2 + (1 : Int32)) σ
      else
        some x2
    else
      k2 x1 (x2 + (1 : Int32)) σ
def mc_Slabs_lowestSlabWithRoom_l2 : Nat → Int32 → Int32 → CS → Option (Int32)
  | 0, _, _, _ => none
  | n + 1, a0, a1, a2 => mc_Slabs_lowestSlabWithRoom_b2 (mc_Slabs_lowestSlabWithRoom_l2 n) a0 a1 a2
def mc_Slabs_lowestSlabWithRoom (σ : CS) (x1 : Int32) : Option (Int32) :=
  mc_Slabs_lowestSlabWithRoom_l2 FU x1 (0 : Int32) σ
def mc_Frames_isAllFree (σ : CS) (x1 : Int32) (x2 : Int32) : Option (Int32) :=
  if (lg_cmp ((gc_fb σ) &&& ((((-1 : Int64).toUInt64 >>> (((64 : Int32) - ((1 : Int32) <<< (x2 &&& 31))).toInt64.toUInt64 &&& Int64.toUInt64 63)).toInt64) <<< (x1.toInt64 &&& 63))) ((((-1 : Int64).toUInt64 >>> (((64 : Int32) - ((1 : Int32) <<< (x2 &&& 31))).toInt64.toUInt64 &&& Int64.toUInt64 63)).toInt64) <<< (x1.toInt64 &&& 63))) = (0 : Int32) then
    some (1 : Int32)
  else
    some (0 : Int32)
def mc_Frames_isFreeBlock (σ : CS) (x1 : Int32) (x2 : Int32) : Option (Int32) :=
  mi_cp (mc_Frames_isAllFree σ x1 x2) fun r1 =>
  if r1 = (0 : Int32) then
    some (0 : Int32)
  else
    if x2 = (6 : Int32) then
      some (1 : Int32)
    else
      mi_cp (mc_Frames_isAllFree σ ((x1 >>> ((x2 + (1 : Int32)) &&& 31)) <<< ((x2 + (1 : Int32)) &&& 31)) (x2 + (1 : Int32))) fun r2 =>
      if r2 = (0 : Int32) then
        some (1 : Int32)
      else
        some (0 : Int32)
def mc_isFrame (x0 : Int32) : Option (Int32) :=
  if x0 < (0 : Int32) then
    some (0 : Int32)
  else
    if (64 : Int32) ≤ x0 then
      some (0 : Int32)
    else
      some (1 : Int32)
def mc_Frames_giveTo_b32 (k32 : Int32 → Int32 → CS → Option (CS)) (x1 : Int32) (x3 : Int32) (σ : CS) : Option (CS) :=
  if (16 : Int32) ≤ x3 then
    some σ
  else
    mi_gd ((x1 * (16 : Int32)) + x3 < 0 ∨ 1024 ≤ ((x1 * (16 : Int32)) + x3).toNatClampNeg) <|
    mi_wr (sc_w σ (upd (gc_w σ) ((x1 * (16 : Int32)) + x3).toNatClampNeg (0 : Int32))) fun σ4 =>
    k32 x1 (x3 + (1 : Int32)) σ4
def mc_Frames_giveTo_l32 : Nat → Int32 → Int32 → CS → Option (CS)
  | 0, _, _, _ => none
  | n + 1, a0, a1, a2 => mc_Frames_giveTo_b32 (mc_Frames_giveTo_l32 n) a0 a1 a2
def mc_Frames_giveTo (σ : CS) (x1 : Int32) (x2 : Int32) : Option (CS) :=
  mi_cp (mc_isFrame x1) fun r1 =>
  if r1 = (0 : Int32) then
    some σ
  else
    mi_gd (x1 < 0 ∨ 64 ≤ x1.toNatClampNeg) <|
    mi_wr (sc_o σ (upd (gc_o σ) x1.toNatClampNeg x2)) fun σ2 =>
    mi_wr (sc_fb σ2 ((gc_fb σ2) &&& (((1 : Int64) <<< (x1.toInt64 &&& 63)) ^^^ (-1 : Int64)))) fun σ3 =>
    mc_Frames_giveTo_l32 FU x1 (0 : Int32) σ3
def mc_Frames_giveOne_b10 (k2 : Int32 → Int32 → CS → Option (Int32 × CS)) (k10 : Int32 → Int32 → Int32 → CS → Option (Int32 × CS)) (x1 : Int32) (x2 : Int32) (x3 : Int32) (σ : CS) : Option (Int32 × CS) :=
  if ((64 : Int32) >>> (x2 &&& 31)) ≤ x3 then
    k2 x1 (x2 + (1 : Int32)) σ
  else
    mi_cp (mc_Frames_isFreeBlock σ (x3 <<< (x2 &&& 31)) x2) fun r1 =>
    if r1 = (0 : Int32) then
      k10 x1 x2 (x3 + (1 : Int32)) σ
    else
      mi_cv (mc_Frames_giveTo σ (x3 <<< (x2 &&& 31)) x1) fun σ2 =>
      some (x3 <<< (x2 &&& 31), σ2)
def mc_Frames_giveOne_l10 (k2 : Int32 → Int32 → CS → Option (Int32 × CS)) : Nat → Int32 → Int32 → Int32 → CS → Option (Int32 × CS)
  | 0, _, _, _, _ => none
  | n + 1, a0, a1, a2, a3 => mc_Frames_giveOne_b10 k2 (mc_Frames_giveOne_l10 k2 n) a0 a1 a2 a3
def mc_Frames_giveOne_b2 (k2 : Int32 → Int32 → CS → Option (Int32 × CS)) (x1 : Int32) (x2 : Int32) (σ : CS) : Option (Int32 × CS) :=
  if (6 : Int32) < x2 then
    some ((-1 : Int32), σ)
  else
    mc_Frames_giveOne_l10 k2 FU x1 x2 (0 : Int32) σ
def mc_Frames_giveOne_l2 : Nat → Int32 → Int32 → CS → Option (Int32 × CS)
  | 0, _, _, _ => none
  | n + 1, a0, a1, a2 => mc_Frames_giveOne_b2 (mc_Frames_giveOne_l2 n) a0 a1 a2
def mc_Frames_giveOne (σ : CS) (x1 : Int32) : Option (Int32 × CS) :=
  mc_Frames_giveOne_l2 FU x1 (0 : Int32) σ
def mc_Slabs_newSlab (σ : CS) (x1 : Int32) : Option (Int32 × CS) :=
  mi_cw (mc_Frames_giveOne σ (2 : Int32)) fun r2 σ1 =>
  if r2 = (-1 : Int32) then
    some (r2, σ1)
  else
    mi_gd (r2 < 0 ∨ 64 ≤ r2.toNatClampNeg) <|
    mi_wr (sc_sz σ1 (upd (gc_sz σ1) r2.toNatClampNeg x1)) fun σ3 =>
    some (r2, σ3)
def mc_Frames_write (σ : CS) (x1 : Int32) (x2 : Int32) : Option (CS) :=
  if x1 < (0 : Int32) then
    some σ
  else
    if (1024 : Int32) ≤ x1 then
      some σ
    else
      mi_gd (x1 < 0 ∨ 1024 ≤ x1.toNatClampNeg) <|
      mi_wr (sc_w σ (upd (gc_w σ) x1.toNatClampNeg x2)) fun σ1 =>
      some σ1
def mc_Frames_clear_b2 (k2 : Int32 → Int32 → Int32 → CS → Option (CS)) (x1 : Int32) (x2 : Int32) (x3 : Int32) (σ : CS) : Option (CS) :=
  if x2 ≤ x3 then
    some σ
  else
    mi_cv (mc_Frames_write σ (x1 + x3) (0 : Int32)) fun σ1 =>
    k2 x1 x2 (x3 + (1 : Int32)) σ1
def mc_Frames_clear_l2 : Nat → Int32 → Int32 → Int32 → CS → Option (CS)
  | 0, _, _, _, _ => none
  | n + 1, a0, a1, a2, a3 => mc_Frames_clear_b2 (mc_Frames_clear_l2 n) a0 a1 a2 a3
def mc_Frames_clear (σ : CS) (x1 : Int32) (x2 : Int32) : Option (CS) :=
  mc_Frames_clear_l2 FU x1 x2 (0 : Int32) σ
def mc_Slabs_takeLowest (σ : CS) (x1 : Int32) (x2 : Int32) : Option (Int32 × CS) :=
  mi_cp (mc_Slabs_lowestRoom σ x1) fun r1 =>
  if r1 = (-1 : Int32) then
    some (r1, σ)
  else
    mi_gd (x1 < 0 ∨ 64 ≤ x1.toNatClampNeg) <|
    mi_cp (mc_Slabs_bitOf σ r1) fun r2 =>
    mi_gd (x1 < 0 ∨ 64 ≤ x1.toNatClampNeg) <|
    mi_wr (sc_tk σ (upd (gc_tk σ) x1.toNatClampNeg (((gc_tk σ) x1.toNatClampNeg) ||| r2))) fun σ3 =>
    mi_cv (mc_Frames_clear σ3 r1 x2) fun σ4 =>
    some (r1, σ4)
def mc_Slabs_add_b17 (x1 : Int32) (x2 : Int32) (σ : CS) : Option (Int32 × CS) :=
  if x2 = (-1 : Int32) then
    some ((-1 : Int32), σ)
  else
    mi_cw (mc_Slabs_takeLowest σ x2 x1) fun r3 σ2 =>
    some (r3, σ2)
def mc_Slabs_add (σ : CS) (x1 : Int32) : Option (Int32 × CS) :=
  mi_cp (mc_Slabs_lowestSlabWithRoom σ x1) fun r1 =>
  if r1 = (-1 : Int32) then
    mi_cw (mc_Slabs_newSlab σ x1) fun r5 σ4 =>
    mc_Slabs_add_b17 x1 r5 σ4
  else
    mc_Slabs_add_b17 x1 r1 σ
def mc_orNotEnough (x0 : Int32) : Option (Int32 × Nat) :=
  if x0 = (-1 : Int32) then
    some (0, 3)
  else
    some (x0, 0)
def mc_kmalloc_b11 (σ : CS) : Option (Int32 × Nat × CS) :=
  some (0, 1, σ)
def mc_kmalloc (σ : CS) (x1 : Int32) : Option (Int32 × Nat × CS) :=
  if x1 < (1 : Int32) then
    mc_kmalloc_b11 σ
  else
    if x1 ≤ (8 : Int32) then
      mi_cp (mc_sizeFor x1) fun r1 =>
      mi_cw (mc_Slabs_add σ r1) fun r3 σ2 =>
      mi_tq (mc_orNotEnough r3) σ2 fun r4 =>
      some (r4, 0, σ2)
    else
      mc_kmalloc_b11 σ
def mc_Frames_makeFree (σ : CS) (x1 : Int32) : Option (CS) :=
  mi_cp (mc_isFrame x1) fun r1 =>
  if r1 = (0 : Int32) then
    some σ
  else
    mi_gd (x1 < 0 ∨ 64 ≤ x1.toNatClampNeg) <|
    mi_wr (sc_o σ (upd (gc_o σ) x1.toNatClampNeg (0 : Int32))) fun σ2 =>
    mi_wr (sc_fb σ2 ((gc_fb σ2) ||| ((1 : Int64) <<< (x1.toInt64 &&& 63)))) fun σ3 =>
    some σ3
def mc_Slabs_remove (σ : CS) (x1 : Int32) : Option (Int32 × CS) :=
  mi_cp (mc_Slabs_placeAt σ x1) fun r1 =>
  if r1 = (-1 : Int32) then
    some ((-1 : Int32), σ)
  else
    mi_gd (x1 / (16 : Int32) < 0 ∨ 64 ≤ (x1 / (16 : Int32)).toNatClampNeg) <|
    if ((gc_sz σ) (x1 / (16 : Int32)).toNatClampNeg) = (0 : Int32) then
      some ((-1 : Int32), σ)
    else
      mi_gd (((gc_sz σ) (x1 / (16 : Int32)).toNatClampNeg) = 0) <|
      if (x1 - x1 / ((gc_sz σ) (x1 / (16 : Int32)).toNatClampNeg) * ((gc_sz σ) (x1 / (16 : Int32)).toNatClampNeg)) = (0 : Int32) then
        mi_gd (x1 / (16 : Int32) < 0 ∨ 64 ≤ (x1 / (16 : Int32)).toNatClampNeg) <|
        mi_cp (mc_Slabs_bitOf σ x1) fun r2 =>
        mi_gd (x1 / (16 : Int32) < 0 ∨ 64 ≤ (x1 / (16 : Int32)).toNatClampNeg) <|
        mi_wr (sc_tk σ (upd (gc_tk σ) (x1 / (16 : Int32)).toNatClampNeg (((gc_tk σ) (x1 / (16 : Int32)).toNatClampNeg) &&& (r2 ^^^ (-1 : Int32))))) fun σ3 =>
        mi_gd (x1 / (16 : Int32) < 0 ∨ 64 ≤ (x1 / (16 : Int32)).toNatClampNeg) <|
        if ((gc_tk σ3) (x1 / (16 : Int32)).toNatClampNeg) = (0 : Int32) then
          mi_gd (x1 / (16 : Int32) < 0 ∨ 64 ≤ (x1 / (16 : Int32)).toNatClampNeg) <|
          mi_wr (sc_sz σ3 (upd (gc_sz σ3) (x1 / (16 : Int32)).toNatClampNeg (0 : Int32))) fun σ4 =>
          mi_cv (mc_Frames_makeFree σ4 (x1 / (16 : Int32))) fun σ5 =>
          some ((gc_sz σ) (x1 / (16 : Int32)).toNatClampNeg, σ5)
        else
          some ((gc_sz σ) (x1 / (16 : Int32)).toNatClampNeg, σ3)
      else
        some ((-1 : Int32), σ)
def mc_orNotAsTold (x0 : Int32) : Option (Int32 × Nat) :=
  if x0 = (-1 : Int32) then
    some (0, 1)
  else
    some (x0, 0)
def mc_kfree (σ : CS) (x1 : Int32) : Option (Int32 × Nat × CS) :=
  mi_cw (mc_Slabs_remove σ x1) fun r2 σ1 =>
  mi_tq (mc_orNotAsTold r2) σ1 fun r3 =>
  some (0, 0, σ1)
def mc_Ranges_lowestRoom_b26 (k4 : Int32 → Int32 → Int32 → CS → Option (Int32)) (x1 : Int32) (x3 : Int32) (y0 : Int32) (σ : CS) : Option (Int32) :=
  if y0 = x1 then
    some ((x3 - x1) + (1 : Int32))
  else
    k4 x1 y0 (x3 + (1 : Int32)) σ
def mc_Ranges_lowestRoom_b4 (k4 : Int32 → Int32 → Int32 → CS → Option (Int32)) (x1 : Int32) (x2 : Int32) (x3 : Int32) (σ : CS) : Option (Int32) :=
  if (64 : Int32) ≤ x3 then
    some (-1 : Int32)
  else
    mi_gd (x3 < 0 ∨ 64 ≤ x3.toNatClampNeg) <|
    if ((gc_en σ) x3.toNatClampNeg) = (0 : Int32) then
      mc_Ranges_lowestRoom_b26 k4 x1 x3 (x2 + (1 : Int32)) σ
    else
      mc_Ranges_lowestRoom_b26 k4 x1 x3 (0 : Int32) σ
def mc_Ranges_lowestRoom_l4 : Nat → Int32 → Int32 → Int32 → CS → Option (Int32)
  | 0, _, _, _, _ => none
  | n + 1, a0, a1, a2, a3 => mc_Ranges_lowestRoom_b4 (mc_Ranges_lowestRoom_l4 n) a0 a1 a2 a3
def mc_Ranges_lowestRoom (σ : CS) (x1 : Int32) : Option (Int32) :=
  mc_Ranges_lowestRoom_l4 FU x1 (0 : Int32) (0 : Int32) σ
def mc_bitCount (x0 : Int64) : Option (Int32) :=
  some ((((((((((x0 - (((x0.toUInt64 >>> ((1 : Int32).toInt64.toUInt64 &&& Int64.toUInt64 63)).toInt64) &&& (6148914691236517205 : Int64))) &&& (3689348814741910323 : Int64)) + ((((x0 - (((x0.toUInt64 >>> ((1 : Int32).toInt64.toUInt64 &&& Int64.toUInt64 63)).toInt64) &&& (6148914691236517205 : Int64))).toUInt64 >>> ((2 : Int32).toInt64.toUInt64 &&& Int64.toUInt64 63)).toInt64) &&& (3689348814741910323 : Int64))) + (((((x0 - (((x0.toUInt64 >>> ((1 : Int32).toInt64.toUInt64 &&& Int64.toUInt64 63)).toInt64) &&& (6148914691236517205 : Int64))) &&& (3689348814741910323 : Int64)) + ((((x0 - (((x0.toUInt64 >>> ((1 : Int32).toInt64.toUInt64 &&& Int64.toUInt64 63)).toInt64) &&& (6148914691236517205 : Int64))).toUInt64 >>> ((2 : Int32).toInt64.toUInt64 &&& Int64.toUInt64 63)).toInt64) &&& (3689348814741910323 : Int64))).toUInt64 >>> ((4 : Int32).toInt64.toUInt64 &&& Int64.toUInt64 63)).toInt64)) &&& (1085102592571150095 : Int64)) + (((((((x0 - (((x0.toUInt64 >>> ((1 : Int32).toInt64.toUInt64 &&& Int64.toUInt64 63)).toInt64) &&& (6148914691236517205 : Int64))) &&& (3689348814741910323 : Int64)) + ((((x0 - (((x0.toUInt64 >>> ((1 : Int32).toInt64.toUInt64 &&& Int64.toUInt64 63)).toInt64) &&& (6148914691236517205 : Int64))).toUInt64 >>> ((2 : Int32).toInt64.toUInt64 &&& Int64.toUInt64 63)).toInt64) &&& (3689348814741910323 : Int64))) + (((((x0 - (((x0.toUInt64 >>> ((1 : Int32).toInt64.toUInt64 &&& Int64.toUInt64 63)).toInt64) &&& (6148914691236517205 : Int64))) &&& (3689348814741910323 : Int64)) + ((((x0 - (((x0.toUInt64 >>> ((1 : Int32).toInt64.toUInt64 &&& Int64.toUInt64 63)).toInt64) &&& (6148914691236517205 : Int64))).toUInt64 >>> ((2 : Int32).toInt64.toUInt64 &&& Int64.toUInt64 63)).toInt64) &&& (3689348814741910323 : Int64))).toUInt64 >>> ((4 : Int32).toInt64.toUInt64 &&& Int64.toUInt64 63)).toInt64)) &&& (1085102592571150095 : Int64)).toUInt64 >>> ((8 : Int32).toInt64.toUInt64 &&& Int64.toUInt64 63)).toInt64)) + ((((((((x0 - (((x0.toUInt64 >>> ((1 : Int32).toInt64.toUInt64 &&& Int64.toUInt64 63)).toInt64) &&& (6148914691236517205 : Int64))) &&& (3689348814741910323 : Int64)) + ((((x0 - (((x0.toUInt64 >>> ((1 : Int32).toInt64.toUInt64 &&& Int64.toUInt64 63)).toInt64) &&& (6148914691236517205 : Int64))).toUInt64 >>> ((2 : Int32).toInt64.toUInt64 &&& Int64.toUInt64 63)).toInt64) &&& (3689348814741910323 : Int64))) + (((((x0 - (((x0.toUInt64 >>> ((1 : Int32).toInt64.toUInt64 &&& Int64.toUInt64 63)).toInt64) &&& (6148914691236517205 : Int64))) &&& (3689348814741910323 : Int64)) + ((((x0 - (((x0.toUInt64 >>> ((1 : Int32).toInt64.toUInt64 &&& Int64.toUInt64 63)).toInt64) &&& (6148914691236517205 : Int64))).toUInt64 >>> ((2 : Int32).toInt64.toUInt64 &&& Int64.toUInt64 63)).toInt64) &&& (3689348814741910323 : Int64))).toUInt64 >>> ((4 : Int32).toInt64.toUInt64 &&& Int64.toUInt64 63)).toInt64)) &&& (1085102592571150095 : Int64)) + (((((((x0 - (((x0.toUInt64 >>> ((1 : Int32).toInt64.toUInt64 &&& Int64.toUInt64 63)).toInt64) &&& (6148914691236517205 : Int64))) &&& (3689348814741910323 : Int64)) + ((((x0 - (((x0.toUInt64 >>> ((1 : Int32).toInt64.toUInt64 &&& Int64.toUInt64 63)).toInt64) &&& (6148914691236517205 : Int64))).toUInt64 >>> ((2 : Int32).toInt64.toUInt64 &&& Int64.toUInt64 63)).toInt64) &&& (3689348814741910323 : Int64))) + (((((x0 - (((x0.toUInt64 >>> ((1 : Int32).toInt64.toUInt64 &&& Int64.toUInt64 63)).toInt64) &&& (6148914691236517205 : Int64))) &&& (3689348814741910323 : Int64)) + ((((x0 - (((x0.toUInt64 >>> ((1 : Int32).toInt64.toUInt64 &&& Int64.toUInt64 63)).toInt64) &&& (6148914691236517205 : Int64))).toUInt64 >>> ((2 : Int32).toInt64.toUInt64 &&& Int64.toUInt64 63)).toInt64) &&& (3689348814741910323 : Int64))).toUInt64 >>> ((4 : Int32).toInt64.toUInt64 &&& Int64.toUInt64 63)).toInt64)) &&& (1085102592571150095 : Int64)).toUInt64 >>> ((8 : Int32).toInt64.toUInt64 &&& Int64.toUInt64 63)).toInt64)).toUInt64 >>> ((16 : Int32).toInt64.toUInt64 &&& Int64.toUInt64 63)).toInt64)) + (((((((((x0 - (((x0.toUInt64 >>> ((1 : Int32).toInt64.toUInt64 &&& Int64.toUInt64 63)).toInt64) &&& (6148914691236517205 : Int64))) &&& (3689348814741910323 : Int64)) + ((((x0 - (((x0.toUInt64 >>> ((1 : Int32).toInt64.toUInt64 &&& Int64.toUInt64 63)).toInt64) &&& (6148914691236517205 : Int64))).toUInt64 >>> ((2 : Int32).toInt64.toUInt64 &&& Int64.toUInt64 63)).toInt64) &&& (3689348814741910323 : Int64))) + (((((x0 - (((x0.toUInt64 >>> ((1 : Int32).toInt64.toUInt64 &&& Int64.toUInt64 63)).toInt64) &&& (6148914691236517205 : Int64))) &&& (3689348814741910323 : Int64)) + ((((x0 - (((x0.toUInt64 >>> ((1 : Int32).toInt64.toUInt64 &&& Int64.toUInt64 63)).toInt64) &&& (6148914691236517205 : Int64))).toUInt64 >>> ((2 : Int32).toInt64.toUInt64 &&& Int64.toUInt64 63)).toInt64) &&& (3689348814741910323 : Int64))).toUInt64 >>> ((4 : Int32).toInt64.toUInt64 &&& Int64.toUInt64 63)).toInt64)) &&& (1085102592571150095 : Int64)) + (((((((x0 - (((x0.toUInt64 >>> ((1 : Int32).toInt64.toUInt64 &&& Int64.toUInt64 63)).toInt64) &&& (6148914691236517205 : Int64))) &&& (3689348814741910323 : Int64)) + ((((x0 - (((x0.toUInt64 >>> ((1 : Int32).toInt64.toUInt64 &&& Int64.toUInt64 63)).toInt64) &&& (6148914691236517205 : Int64))).toUInt64 >>> ((2 : Int32).toInt64.toUInt64 &&& Int64.toUInt64 63)).toInt64) &&& (3689348814741910323 : Int64))) + (((((x0 - (((x0.toUInt64 >>> ((1 : Int32).toInt64.toUInt64 &&& Int64.toUInt64 63)).toInt64) &&& (6148914691236517205 : Int64))) &&& (3689348814741910323 : Int64)) + ((((x0 - (((x0.toUInt64 >>> ((1 : Int32).toInt64.toUInt64 &&& Int64.toUInt64 63)).toInt64) &&& (6148914691236517205 : Int64))).toUInt64 >>> ((2 : Int32).toInt64.toUInt64 &&& Int64.toUInt64 63)).toInt64) &&& (3689348814741910323 : Int64))).toUInt64 >>> ((4 : Int32).toInt64.toUInt64 &&& Int64.toUInt64 63)).toInt64)) &&& (1085102592571150095 : Int64)).toUInt64 >>> ((8 : Int32).toInt64.toUInt64 &&& Int64.toUInt64 63)).toInt64)) + ((((((((x0 - (((x0.toUInt64 >>> ((1 : Int32).toInt64.toUInt64 &&& Int64.toUInt64 63)).toInt64) &&& (6148914691236517205 : Int64))) &&& (3689348814741910323 : Int64)) + ((((x0 - (((x0.toUInt64 >>> ((1 : Int32).toInt64.toUInt64 &&& Int64.toUInt64 63)).toInt64) &&& (6148914691236517205 : Int64))).toUInt64 >>> ((2 : Int32).toInt64.toUInt64 &&& Int64.toUInt64 63)).toInt64) &&& (3689348814741910323 : Int64))) + (((((x0 - (((x0.toUInt64 >>> ((1 : Int32).toInt64.toUInt64 &&& Int64.toUInt64 63)).toInt64) &&& (6148914691236517205 : Int64))) &&& (3689348814741910323 : Int64)) + ((((x0 - (((x0.toUInt64 >>> ((1 : Int32).toInt64.toUInt64 &&& Int64.toUInt64 63)).toInt64) &&& (6148914691236517205 : Int64))).toUInt64 >>> ((2 : Int32).toInt64.toUInt64 &&& Int64.toUInt64 63)).toInt64) &&& (3689348814741910323 : Int64))).toUInt64 >>> ((4 : Int32).toInt64.toUInt64 &&& Int64.toUInt64 63)).toInt64)) &&& (1085102592571150095 : Int64)) + (((((((x0 - (((x0.toUInt64 >>> ((1 : Int32).toInt64.toUInt64 &&& Int64.toUInt64 63)).toInt64) &&& (6148914691236517205 : Int64))) &&& (3689348814741910323 : Int64)) + ((((x0 - (((x0.toUInt64 >>> ((1 : Int32).toInt64.toUInt64 &&& Int64.toUInt64 63)).toInt64) &&& (6148914691236517205 : Int64))).toUInt64 >>> ((2 : Int32).toInt64.toUInt64 &&& Int64.toUInt64 63)).toInt64) &&& (3689348814741910323 : Int64))) + (((((x0 - (((x0.toUInt64 >>> ((1 : Int32).toInt64.toUInt64 &&& Int64.toUInt64 63)).toInt64) &&& (6148914691236517205 : Int64))) &&& (3689348814741910323 : Int64)) + ((((x0 - (((x0.toUInt64 >>> ((1 : Int32).toInt64.toUInt64 &&& Int64.toUInt64 63)).toInt64) &&& (6148914691236517205 : Int64))).toUInt64 >>> ((2 : Int32).toInt64.toUInt64 &&& Int64.toUInt64 63)).toInt64) &&& (3689348814741910323 : Int64))).toUInt64 >>> ((4 : Int32).toInt64.toUInt64 &&& Int64.toUInt64 63)).toInt64)) &&& (1085102592571150095 : Int64)).toUInt64 >>> ((8 : Int32).toInt64.toUInt64 &&& Int64.toUInt64 63)).toInt64)).toUInt64 >>> ((16 : Int32).toInt64.toUInt64 &&& Int64.toUInt64 63)).toInt64)).toUInt64 >>> ((32 : Int32).toInt64.toUInt64 &&& Int64.toUInt64 63)).toInt64)).toInt32) &&& (127 : Int32))
def mc_Frames_countFree (σ : CS) : Option (Int32) :=
  mi_cp (mc_bitCount (gc_fb σ)) fun r1 =>
  some r1
def mc_Ranges_add_b55 (x1 : Int32) (x2 : Int32) (σ : CS) : Option (Int32 × CS) :=
  mi_gd (x2 < 0 ∨ 64 ≤ x2.toNatClampNeg) <|
  mi_wr (sc_ln σ (upd (gc_ln σ) x2.toNatClampNeg x1)) fun σ3 =>
  some (x2 * (16 : Int32), σ3)
def mc_Ranges_add_b26 (k26 : Int32 → Int32 → Int32 → CS → Option (Int32 × CS)) (x1 : Int32) (x2 : Int32) (x3 : Int32) (σ : CS) : Option (Int32 × CS) :=
  if (x2 + x1) ≤ x3 then
    mc_Ranges_add_b55 x1 x2 σ
  else
    mi_cw (mc_Frames_giveOne σ (3 : Int32)) fun r5 σ4 =>
    mi_gd (x3 < 0 ∨ 64 ≤ x3.toNatClampNeg) <|
    mi_wr (sc_en σ4 (upd (gc_en σ4) x3.toNatClampNeg ((1 : Int32) + r5))) fun σ6 =>
    k26 x1 x2 (x3 + (1 : Int32)) σ6
def mc_Ranges_add_l26 : Nat → Int32 → Int32 → Int32 → CS → Option (Int32 × CS)
  | 0, _, _, _, _ => none
  | n + 1, a0, a1, a2, a3 => mc_Ranges_add_b26 (mc_Ranges_add_l26 n) a0 a1 a2 a3
def mc_Ranges_add (σ : CS) (x1 : Int32) : Option (Int32 × CS) :=
  mi_cp (mc_Ranges_lowestRoom σ x1) fun r1 =>
  if r1 = (-1 : Int32) then
    some ((-1 : Int32), σ)
  else
    mi_cp (mc_Frames_countFree σ) fun r2 =>
    if x1 ≤ r2 then
      mc_Ranges_add_l26 FU x1 r1 r1 σ
    else
      some ((-1 : Int32), σ)
def mc_vmalloc_b11 (σ : CS) : Option (Int32 × Nat × CS) :=
  some (0, 1, σ)
def mc_vmalloc (σ : CS) (x1 : Int32) : Option (Int32 × Nat × CS) :=
  if x1 < (1 : Int32) then
    mc_vmalloc_b11 σ
  else
    if x1 ≤ (8 : Int32) then
      mi_cw (mc_Ranges_add σ x1) fun r2 σ1 =>
      mi_tq (mc_orNotEnough r2) σ1 fun r3 =>
      some (r3, 0, σ1)
    else
      mc_vmalloc_b11 σ
def mc_Ranges_remove_b79 (x2 : Int32) (x3 : Int32) (σ : CS) : Option (Int32 × CS) :=
  mi_gd (x2 < 0 ∨ 64 ≤ x2.toNatClampNeg) <|
  mi_wr (sc_ln σ (upd (gc_ln σ) x2.toNatClampNeg (0 : Int32))) fun σ1 =>
  some (x3, σ1)
def mc_Ranges_remove_b41 (k41 : Int32 → Int32 → Int32 → CS → Option (Int32 × CS)) (x2 : Int32) (x3 : Int32) (x4 : Int32) (σ : CS) : Option (Int32 × CS) :=
  if (x2 + x3) ≤ x4 then
    mc_Ranges_remove_b79 x2 x3 σ
  else
    mi_gd (x4 < 0 ∨ 64 ≤ x4.toNatClampNeg) <|
    mi_cv (mc_Frames_makeFree σ (((gc_en σ) x4.toNatClampNeg) - (1 : Int32))) fun σ2 =>
    mi_gd (x4 < 0 ∨ 64 ≤ x4.toNatClampNeg) <|
    mi_wr (sc_en σ2 (upd (gc_en σ2) x4.toNatClampNeg (0 : Int32))) fun σ3 =>
    k41 x2 x3 (x4 + (1 : Int32)) σ3
def mc_Ranges_remove_l41 : Nat → Int32 → Int32 → Int32 → CS → Option (Int32 × CS)
  | 0, _, _, _, _ => none
  | n + 1, a0, a1, a2, a3 => mc_Ranges_remove_b41 (mc_Ranges_remove_l41 n) a0 a1 a2 a3
def mc_Ranges_remove (σ : CS) (x1 : Int32) : Option (Int32 × CS) :=
  if x1 < (0 : Int32) then
    some ((-1 : Int32), σ)
  else
    if (1024 : Int32) ≤ x1 then
      some ((-1 : Int32), σ)
    else
      if (x1 - x1 / (16 : Int32) * (16 : Int32)) = (0 : Int32) then
        mi_gd (x1 / (16 : Int32) < 0 ∨ 64 ≤ (x1 / (16 : Int32)).toNatClampNeg) <|
        if ((gc_ln σ) (x1 / (16 : Int32)).toNatClampNeg) = (0 : Int32) then
          some ((-1 : Int32), σ)
        else
          mc_Ranges_remove_l41 FU (x1 / (16 : Int32)) ((gc_ln σ) (x1 / (16 : Int32)).toNatClampNeg) (x1 / (16 : Int32)) σ
      else
        some ((-1 : Int32), σ)
def mc_vfree (σ : CS) (x1 : Int32) : Option (Int32 × Nat × CS) :=
  mi_cw (mc_Ranges_remove σ x1) fun r2 σ1 =>
  mi_tq (mc_orNotAsTold r2) σ1 fun r3 =>
  some (r3, 0, σ1)
def mc_Spaces_add_b2 (k2 : Int32 → CS → Option (Int32 × CS)) (x1 : Int32) (σ : CS) : Option (Int32 × CS) :=
  if (4 : Int32) ≤ x1 then
    some ((-1 : Int32), σ)
  else
    mi_gd (x1 < 0 ∨ 4 ≤ x1.toNatClampNeg) <|
    if ((gc_ro σ) x1.toNatClampNeg) = (0 : Int32) then
      mi_cw (mc_Frames_giveOne σ (1 : Int32)) fun r2 σ1 =>
      mi_gd (x1 < 0 ∨ 4 ≤ x1.toNatClampNeg) <|
      mi_wr (sc_ro σ1 (upd (gc_ro σ1) x1.toNatClampNeg ((1 : Int32) + r2))) fun σ3 =>
      mi_gd (x1 < 0 ∨ 4 ≤ x1.toNatClampNeg) <|
      if ((gc_ro σ3) x1.toNatClampNeg) = (0 : Int32) then
        some ((-1 : Int32), σ3)
      else
        some (x1, σ3)
    else
      k2 (x1 + (1 : Int32)) σ
def mc_Spaces_add_l2 : Nat → Int32 → CS → Option (Int32 × CS)
  | 0, _, _ => none
  | n + 1, a0, a1 => mc_Spaces_add_b2 (mc_Spaces_add_l2 n) a0 a1
def mc_Spaces_add (σ : CS) : Option (Int32 × CS) :=
  mc_Spaces_add_l2 FU (0 : Int32) σ
def mc_create (σ : CS) : Option (Int32 × Nat × CS) :=
  mi_cw (mc_Spaces_add σ) fun r2 σ1 =>
  mi_tq (mc_orNotEnough r2) σ1 fun r3 =>
  some (r3, 0, σ1)
def mc_Spaces_isThere (σ : CS) (x1 : Int32) : Option (Int32) :=
  if x1 < (0 : Int32) then
    some (0 : Int32)
  else
    if (4 : Int32) ≤ x1 then
      some (0 : Int32)
    else
      mi_gd (x1 < 0 ∨ 4 ≤ x1.toNatClampNeg) <|
      if ((gc_ro σ) x1.toNatClampNeg) = (0 : Int32) then
        some (0 : Int32)
      else
        some (1 : Int32)
def mc_Frames_read (σ : CS) (x1 : Int32) : Option (Int32) :=
  if x1 < (0 : Int32) then
    some (0 : Int32)
  else
    if (1024 : Int32) ≤ x1 then
      some (0 : Int32)
    else
      mi_gd (x1 < 0 ∨ 1024 ≤ x1.toNatClampNeg) <|
      some ((gc_w σ) x1.toNatClampNeg)
def mc_Spaces_removeTable_b50 (x1 : Int32) (x2 : Int32) (σ : CS) : Option (Int32 × CS) :=
  mi_cv (mc_Frames_makeFree σ x1) fun σ1 =>
  some (x2, σ1)
def mc_Spaces_removeTable_b4 (k4 : Int32 → Int32 → Int32 → CS → Option (Int32 × CS)) (x1 : Int32) (x2 : Int32) (x3 : Int32) (σ : CS) : Option (Int32 × CS) :=
  if (16 : Int32) ≤ x3 then
    mc_Spaces_removeTable_b50 x1 x2 σ
  else
    mi_cp (mc_Frames_read σ ((x1 * (16 : Int32)) + x3)) fun r2 =>
    if r2 = (0 : Int32) then
      k4 x1 x2 (x3 + (1 : Int32)) σ
    else
      mi_cv (mc_Frames_makeFree σ (r2 - (1 : Int32))) fun σ3 =>
      k4 x1 (x2 + (1 : Int32)) (x3 + (1 : Int32)) σ3
def mc_Spaces_removeTable_l4 : Nat → Int32 → Int32 → Int32 → CS → Option (Int32 × CS)
  | 0, _, _, _, _ => none
  | n + 1, a0, a1, a2, a3 => mc_Spaces_removeTable_b4 (mc_Spaces_removeTable_l4 n) a0 a1 a2 a3
def mc_Spaces_removeTable (σ : CS) (x1 : Int32) : Option (Int32 × CS) :=
  mc_Spaces_removeTable_l4 FU x1 (1 : Int32) (0 : Int32) σ
def mc_Spaces_removeTree_b47 (x1 : Int32) (x2 : Int32) (σ : CS) : Option (Int32 × CS) :=
  mi_cv (mc_Frames_makeFree σ x1) fun σ1 =>
  some (x2, σ1)
def mc_Spaces_removeTree_b4 (k4 : Int32 → Int32 → Int32 → CS → Option (Int32 × CS)) (x1 : Int32) (x2 : Int32) (x3 : Int32) (σ : CS) : Option (Int32 × CS) :=
  if (16 : Int32) ≤ x3 then
    mc_Spaces_removeTree_b47 x1 x2 σ
  else
    mi_cp (mc_Frames_read σ ((x1 * (16 : Int32)) + x3)) fun r2 =>
    if r2 = (0 : Int32) then
      k4 x1 x2 (x3 + (1 : Int32)) σ
    else
      mi_cw (mc_Spaces_removeTable σ (r2 - (1 : Int32))) fun r4 σ3 =>
      k4 x1 (x2 + r4) (x3 + (1 : Int32)) σ3
def mc_Spaces_removeTree_l4 : Nat → Int32 → Int32 → Int32 → CS → Option (Int32 × CS)
  | 0, _, _, _, _ => none
  | n + 1, a0, a1, a2, a3 => mc_Spaces_removeTree_b4 (mc_Spaces_removeTree_l4 n) a0 a1 a2 a3
def mc_Spaces_removeTree (σ : CS) (x1 : Int32) : Option (Int32 × CS) :=
  mc_Spaces_removeTree_l4 FU x1 (1 : Int32) (0 : Int32) σ
def mc_Spaces_remove_b32 (k32 : Int32 → Int32 → Int32 → CS → Option (Int32 × CS)) (x1 : Int32) (x2 : Int32) (x3 : Int32) (σ : CS) : Option (Int32 × CS) :=
  if (256 : Int32) ≤ x3 then
    some (x2, σ)
  else
    mi_gd ((x1 * (256 : Int32)) + x3 < 0 ∨ 1024 ≤ ((x1 * (256 : Int32)) + x3).toNatClampNeg) <|
    mi_wr (sc_rg σ (upd (gc_rg σ) ((x1 * (256 : Int32)) + x3).toNatClampNeg (vp_nar .boolean (0 : Int32)))) fun σ5 =>
    k32 x1 x2 (x3 + (1 : Int32)) σ5
def mc_Spaces_remove_l32 : Nat → Int32 → Int32 → Int32 → CS → Option (Int32 × CS)
  | 0, _, _, _, _ => none
  | n + 1, a0, a1, a2, a3 => mc_Spaces_remove_b32 (mc_Spaces_remove_l32 n) a0 a1 a2 a3
def mc_Spaces_remove (σ : CS) (x1 : Int32) : Option (Int32 × CS) :=
  mi_cp (mc_Spaces_isThere σ x1) fun r1 =>
  if r1 = (0 : Int32) then
    some ((-1 : Int32), σ)
  else
    mi_gd (x1 < 0 ∨ 4 ≤ x1.toNatClampNeg) <|
    mi_cw (mc_Spaces_removeTree σ (((gc_ro σ) x1.toNatClampNeg) - (1 : Int32))) fun r3 σ2 =>
    mi_gd (x1 < 0 ∨ 4 ≤ x1.toNatClampNeg) <|
    mi_wr (sc_ro σ2 (upd (gc_ro σ2) x1.toNatClampNeg (0 : Int32))) fun σ4 =>
    mc_Spaces_remove_l32 FU x1 r3 (0 : Int32) σ4
def mc_destroy (σ : CS) (x1 : Int32) : Option (Int32 × Nat × CS) :=
  mi_cw (mc_Spaces_remove σ x1) fun r2 σ1 =>
  mi_tq (mc_orNotAsTold r2) σ1 fun r3 =>
  some (r3, 0, σ1)
def mc_checkSpace (σ : CS) (x1 : Int32) : Option (Int32 × Nat) :=
  mi_cp (mc_Spaces_isThere σ x1) fun r1 =>
  if r1 = (0 : Int32) then
    some (0, 1)
  else
    some (0, 0)
def mc_checkPages_b16 (σ : CS) : Option (Int32 × Nat) :=
  some (0, 1)
def mc_checkPages_b39 (σ : CS) : Option (Int32 × Nat) :=
  some (0, 1)
def mc_checkPages (σ : CS) (x1 : Int32) (x2 : Int32) (x3 : Int32) : Option (Int32 × Nat) :=
  mi_tp (mc_checkSpace σ x1) fun _ =>
  if x3 < (1 : Int32) then
    mc_checkPages_b16 σ
  else
    if x3 ≤ (64 : Int32) then
      if x2 < (0 : Int32) then
        mc_checkPages_b39 σ
      else
        if x2 ≤ ((256 : Int32) - x3) then
          some (0, 0)
        else
          mc_checkPages_b39 σ
    else
      mc_checkPages_b16 σ
def mc_Spaces_isPage (x0 : Int32) : Option (Int32) :=
  if x0 < (0 : Int32) then
    some (0 : Int32)
  else
    if (256 : Int32) ≤ x0 then
      some (0 : Int32)
    else
      some (1 : Int32)
def mc_Spaces_isInRegion (σ : CS) (x1 : Int32) (x2 : Int32) : Option (Int32) :=
  mi_cp (mc_Spaces_isThere σ x1) fun r1 =>
  if r1 = (0 : Int32) then
    some (0 : Int32)
  else
    mi_cp (mc_Spaces_isPage x2) fun r2 =>
    if r2 = (0 : Int32) then
      some (0 : Int32)
    else
      mi_gd ((x1 * (256 : Int32)) + x2 < 0 ∨ 1024 ≤ ((x1 * (256 : Int32)) + x2).toNatClampNeg) <|
      if ((gc_rg σ) ((x1 * (256 : Int32)) + x2).toNatClampNeg) = (0 : Int32) then
        some (0 : Int32)
      else
        some (1 : Int32)
def mc_Spaces_anyInRegion_b3 (k3 : Int32 → Int32 → Int32 → Int32 → CS → Option (Int32)) (x1 : Int32) (x2 : Int32) (x3 : Int32) (x4 : Int32) (σ : CS) : Option (Int32) :=
  if (x2 + x3) ≤ x4 then
    some (0 : Int32)
  else
    mi_cp (mc_Spaces_isInRegion σ x1 x4) fun r1 =>
    if r1 = (0 : Int32) then
      k3 x1 x2 x3 (x4 + (1 : Int32)) σ
    else
      some (1 : Int32)
def mc_Spaces_anyInRegion_l3 : Nat → Int32 → Int32 → Int32 → Int32 → CS → Option (Int32)
  | 0, _, _, _, _, _ => none
  | n + 1, a0, a1, a2, a3, a4 => mc_Spaces_anyInRegion_b3 (mc_Spaces_anyInRegion_l3 n) a0 a1 a2 a3 a4
def mc_Spaces_anyInRegion (σ : CS) (x1 : Int32) (x2 : Int32) (x3 : Int32) : Option (Int32) :=
  mc_Spaces_anyInRegion_l3 FU x1 x2 x3 x2 σ
def mc_Spaces_setRegion (σ : CS) (x1 : Int32) (x2 : Int32) (x3 : Int32) : Option (CS) :=
  mi_cp (mc_Spaces_isThere σ x1) fun r1 =>
  if r1 = (0 : Int32) then
    some σ
  else
    mi_cp (mc_Spaces_isPage x2) fun r2 =>
    if r2 = (0 : Int32) then
      some σ
    else
      mi_gd ((x1 * (256 : Int32)) + x2 < 0 ∨ 1024 ≤ ((x1 * (256 : Int32)) + x2).toNatClampNeg) <|
      mi_wr (sc_rg σ (upd (gc_rg σ) ((x1 * (256 : Int32)) + x2).toNatClampNeg (vp_nar .boolean x3))) fun σ3 =>
      some σ3
def mc_Spaces_putInRegion_b3 (k3 : Int32 → Int32 → Int32 → Int32 → CS → Option (CS)) (x1 : Int32) (x2 : Int32) (x3 : Int32) (x4 : Int32) (σ : CS) : Option (CS) :=
  if (x2 + x3) ≤ x4 then
    some σ
  else
    mi_cv (mc_Spaces_setRegion σ x1 x4 (1 : Int32)) fun σ1 =>
    k3 x1 x2 x3 (x4 + (1 : Int32)) σ1
def mc_Spaces_putInRegion_l3 : Nat → Int32 → Int32 → Int32 → Int32 → CS → Option (CS)
  | 0, _, _, _, _, _ => none
  | n + 1, a0, a1, a2, a3, a4 => mc_Spaces_putInRegion_b3 (mc_Spaces_putInRegion_l3 n) a0 a1 a2 a3 a4
def mc_Spaces_putInRegion (σ : CS) (x1 : Int32) (x2 : Int32) (x3 : Int32) : Option (CS) :=
  mc_Spaces_putInRegion_l3 FU x1 x2 x3 x2 σ
def mc_mmap (σ : CS) (x1 : Int32) (x2 : Int32) (x3 : Int32) : Option (Int32 × Nat × CS) :=
  mi_tq (mc_checkPages σ x1 x2 x3) σ fun _ =>
  mi_cp (mc_Spaces_anyInRegion σ x1 x2 x3) fun r1 =>
  if r1 = (0 : Int32) then
    mi_cv (mc_Spaces_putInRegion σ x1 x2 x3) fun σ2 =>
    some (0, 0, σ2)
  else
    some (0, 1, σ)
def mc_Spaces_rootEntry (σ : CS) (x1 : Int32) (x2 : Int32) : Option (Int32) :=
  mi_gd (x1 < 0 ∨ 4 ≤ x1.toNatClampNeg) <|
  some (((((gc_ro σ) x1.toNatClampNeg) - (1 : Int32)) * (16 : Int32)) + (x2 / (16 : Int32)))
def mc_Spaces_tableOf (σ : CS) (x1 : Int32) (x2 : Int32) : Option (Int32) :=
  mi_cp (mc_Spaces_isThere σ x1) fun r1 =>
  if r1 = (0 : Int32) then
    some (-1 : Int32)
  else
    mi_cp (mc_Spaces_isPage x2) fun r2 =>
    if r2 = (0 : Int32) then
      some (-1 : Int32)
    else
      mi_cp (mc_Spaces_rootEntry σ x1 x2) fun r3 =>
      mi_cp (mc_Frames_read σ r3) fun r4 =>
      some (r4 - (1 : Int32))
def mc_Spaces_frameOf (σ : CS) (x1 : Int32) (x2 : Int32) : Option (Int32) :=
  mi_cp (mc_Spaces_tableOf σ x1 x2) fun r1 =>
  if r1 = (-1 : Int32) then
    some (-1 : Int32)
  else
    mi_cp (mc_Frames_read σ ((r1 * (16 : Int32)) + (x2 - x2 / (16 : Int32) * (16 : Int32)))) fun r2 =>
    some (r2 - (1 : Int32))
def mc_Spaces_isEmptyTable_b2 (k2 : Int32 → Int32 → CS → Option (Int32)) (x1 : Int32) (x2 : Int32) (σ : CS) : Option (Int32) :=
  if (16 : Int32) ≤ x2 then
    some (1 : Int32)
  else
    mi_cp (mc_Frames_read σ ((x1 * (16 : Int32)) + x2)) fun r1 =>
    if r1 = (0 : Int32) then
      k2 x1 (x2 + (1 : Int32)) σ
    else
      some (0 : Int32)
def mc_Spaces_isEmptyTable_l2 : Nat → Int32 → Int32 → CS → Option (Int32)
  | 0, _, _, _ => none
  | n + 1, a0, a1, a2 => mc_Spaces_isEmptyTable_b2 (mc_Spaces_isEmptyTable_l2 n) a0 a1 a2
def mc_Spaces_isEmptyTable (σ : CS) (x1 : Int32) : Option (Int32) :=
  mc_Spaces_isEmptyTable_l2 FU x1 (0 : Int32) σ
def mc_Spaces_removePage (σ : CS) (x1 : Int32) (x2 : Int32) : Option (CS) :=
  mi_cp (mc_Spaces_tableOf σ x1 x2) fun r1 =>
  mi_cp (mc_Spaces_frameOf σ x1 x2) fun r2 =>
  mi_cv (mc_Frames_makeFree σ r2) fun σ3 =>
  mi_cv (mc_Frames_write σ3 ((r1 * (16 : Int32)) + (x2 - x2 / (16 : Int32) * (16 : Int32))) (0 : Int32)) fun σ4 =>
  mi_cp (mc_Spaces_isEmptyTable σ4 r1) fun r5 =>
  if r5 = (0 : Int32) then
    some σ4
  else
    mi_cv (mc_Frames_makeFree σ4 r1) fun σ6 =>
    mi_cp (mc_Spaces_rootEntry σ6 x1 x2) fun r7 =>
    mi_cv (mc_Frames_write σ6 r7 (0 : Int32)) fun σ8 =>
    some σ8
def mc_Spaces_takeFromRegion_b6 (k6 : Int32 → Int32 → Int32 → Int32 → Int32 → CS → Option (Int32 × CS)) (x1 : Int32) (x2 : Int32) (x3 : Int32) (x4 : Int32) (x5 : Int32) (σ : CS) : Option (Int32 × CS) :=
  if (x2 + x3) ≤ x5 then
    some (x4, σ)
  else
    mi_cv (mc_Spaces_setRegion σ x1 x5 (0 : Int32)) fun σ1 =>
    mi_cp (mc_Spaces_frameOf σ1 x1 x5) fun r2 =>
    if r2 = (-1 : Int32) then
      k6 x1 x2 x3 x4 (x5 + (1 : Int32)) σ1
    else
      mi_cv (mc_Spaces_removePage σ1 x1 x5) fun σ3 =>
      k6 x1 x2 x3 (x4 + (1 : Int32)) (x5 + (1 : Int32)) σ3
def mc_Spaces_takeFromRegion_l6 : Nat → Int32 → Int32 → Int32 → Int32 → Int32 → CS → Option (Int32 × CS)
  | 0, _, _, _, _, _, _ => none
  | n + 1, a0, a1, a2, a3, a4, a5 => mc_Spaces_takeFromRegion_b6 (mc_Spaces_takeFromRegion_l6 n) a0 a1 a2 a3 a4 a5
def mc_Spaces_takeFromRegion (σ : CS) (x1 : Int32) (x2 : Int32) (x3 : Int32) : Option (Int32 × CS) :=
  mc_Spaces_takeFromRegion_l6 FU x1 x2 x3 (0 : Int32) x2 σ
def mc_munmap (σ : CS) (x1 : Int32) (x2 : Int32) (x3 : Int32) : Option (Int32 × Nat × CS) :=
  mi_tq (mc_checkPages σ x1 x2 x3) σ fun _ =>
  mi_cw (mc_Spaces_takeFromRegion σ x1 x2 x3) fun r2 σ1 =>
  some (r2, 0, σ1)
def mc_orFault (x0 : Int32) : Option (Int32 × Nat) :=
  if x0 = (-1 : Int32) then
    some (0, 2)
  else
    some (x0, 0)
def mc_floorDiv (x0 : Int32) (x1 : Int32) : Option (Int32) :=
  mi_gd (x1 = 0) <|
  if (0 : Int32) ≤ (x0 ^^^ x1) then
    some (x0 / x1)
  else
    if ((x0 / x1) * x1) = x0 then
      some (x0 / x1)
    else
      some ((x0 / x1) - (1 : Int32))
def mc_Ranges_frameOf (σ : CS) (x1 : Int32) : Option (Int32) :=
  if x1 < (0 : Int32) then
    some (-1 : Int32)
  else
    if (64 : Int32) ≤ x1 then
      some (-1 : Int32)
    else
      mi_gd (x1 < 0 ∨ 64 ≤ x1.toNatClampNeg) <|
      some (((gc_en σ) x1.toNatClampNeg) - (1 : Int32))
def mc_floorMod (x0 : Int32) (x1 : Int32) : Option (Int32) :=
  mi_gd (x1 = 0) <|
  if (0 : Int32) ≤ (x0 ^^^ x1) then
    some (x0 - x0 / x1 * x1)
  else
    if (x0 - x0 / x1 * x1) = (0 : Int32) then
      some (x0 - x0 / x1 * x1)
    else
      some ((x0 - x0 / x1 * x1) + x1)
def mc_Ranges_placeAt (σ : CS) (x1 : Int32) : Option (Int32) :=
  mi_cp (mc_floorDiv x1 (16 : Int32)) fun r1 =>
  mi_cp (mc_Ranges_frameOf σ r1) fun r2 =>
  if r2 = (-1 : Int32) then
    some (-1 : Int32)
  else
    mi_cp (mc_floorMod x1 (16 : Int32)) fun r3 =>
    some ((r2 * (16 : Int32)) + r3)
def mc_Spaces_link (σ : CS) (x1 : Int32) (x2 : Int32) : Option (CS) :=
  mi_cp (mc_isFrame x2) fun r1 =>
  if r1 = (0 : Int32) then
    some σ
  else
    mi_cv (mc_Frames_write σ x1 ((1 : Int32) + x2)) fun σ2 =>
    mi_gd (x2 < 0 ∨ 64 ≤ x2.toNatClampNeg) <|
    mi_wr (sc_eo σ2 (upd (gc_eo σ2) x2.toNatClampNeg x1)) fun σ3 =>
    some σ3
def mc_Spaces_touch_b87 (x2 : Int32) (x4 : Int32) (σ : CS) : Option (Int32 × CS) :=
  mi_cw (mc_Frames_giveOne σ (4 : Int32)) fun r6 σ5 =>
  mi_cv (mc_Spaces_link σ5 ((x4 * (16 : Int32)) + (x2 - x2 / (16 : Int32) * (16 : Int32))) r6) fun σ7 =>
  some (r6, σ7)
def mc_Spaces_touch_b49 (x1 : Int32) (x2 : Int32) (x4 : Int32) (y0 : Int32) (y1 : Int32) (σ : CS) : Option (Int32 × CS) :=
  if y1 ≤ y0 then
    if x4 = (-1 : Int32) then
      mi_cw (mc_Frames_giveOne σ (1 : Int32)) fun r9 σ8 =>
      mi_cp (mc_Spaces_rootEntry σ8 x1 x2) fun r10 =>
      mi_cv (mc_Frames_write σ8 r10 ((1 : Int32) + r9)) fun σ11 =>
      mi_cw (mc_Frames_giveOne σ11 (4 : Int32)) fun r13 σ12 =>
      mi_cv (mc_Spaces_link σ12 ((r9 * (16 : Int32)) + (x2 - x2 / (16 : Int32) * (16 : Int32))) r13) fun σ14 =>
      some (r13, σ14)
    else
      mc_Spaces_touch_b87 x2 x4 σ
  else
    some ((-1 : Int32), σ)
def mc_Spaces_touch (σ : CS) (x1 : Int32) (x2 : Int32) : Option (Int32 × CS) :=
  mi_cp (mc_Spaces_frameOf σ x1 x2) fun r1 =>
  if r1 = (-1 : Int32) then
    mi_cp (mc_Spaces_isInRegion σ x1 x2) fun r2 =>
    if r2 = (0 : Int32) then
      some (r1, σ)
    else
      mi_cp (mc_Spaces_tableOf σ x1 x2) fun r3 =>
      mi_cp (mc_Frames_countFree σ) fun r4 =>
      if r3 = (-1 : Int32) then
        mc_Spaces_touch_b49 x1 x2 r3 r4 (2 : Int32) σ
      else
        mc_Spaces_touch_b49 x1 x2 r3 r4 (1 : Int32) σ
  else
    some (r1, σ)
def mc_placeInSpace (σ : CS) (x1 : Int32) (x2 : Int32) : Option (Int32 × Nat × CS) :=
  mi_cp (mc_floorDiv x2 (16 : Int32)) fun r1 =>
  mi_cp (mc_Spaces_isInRegion σ x1 r1) fun r2 =>
  if r2 = (0 : Int32) then
    some (0, 2, σ)
  else
    mi_cw (mc_Spaces_touch σ x1 r1) fun r4 σ3 =>
    mi_tq (mc_orNotEnough r4) σ3 fun r5 =>
    mi_cp (mc_floorMod x2 (16 : Int32)) fun r6 =>
    some ((r5 * (16 : Int32)) + r6, 0, σ3)
def mc_placeOf (σ : CS) (x1 : Int32) (x2 : Int32) : Option (Int32 × Nat × CS) :=
  if x1 = (-1 : Int32) then
    mi_cp (mc_Slabs_placeAt σ x2) fun r5 =>
    mi_tq (mc_orFault r5) σ fun r6 =>
    some (r6, 0, σ)
  else
    if x1 = (-2 : Int32) then
      mi_cp (mc_Ranges_placeAt σ x2) fun r3 =>
      mi_tq (mc_orFault r3) σ fun r4 =>
      some (r4, 0, σ)
    else
      mi_tq (mc_checkSpace σ x1) σ fun _ =>
      mi_tw (mc_placeInSpace σ x1 x2) fun r2 σ1 =>
      some (r2, 0, σ1)
def mc_load (σ : CS) (x1 : Int32) (x2 : Int32) : Option (Int32 × Nat × CS) :=
  mi_tw (mc_placeOf σ x1 x2) fun r2 σ1 =>
  mi_cp (mc_Frames_read σ1 r2) fun r3 =>
  some (r3, 0, σ1)
def mc_store (σ : CS) (x1 : Int32) (x2 : Int32) (x3 : Int32) : Option (Int32 × Nat × CS) :=
  mi_tw (mc_placeOf σ x1 x2) fun r2 σ1 =>
  mi_cv (mc_Frames_write σ1 r2 x3) fun σ3 =>
  some (0, 0, σ3)
def mc_Frames_ownerOf (σ : CS) (x1 : Int32) : Option (Int32) :=
  mi_cp (mc_isFrame x1) fun r1 =>
  if r1 = (0 : Int32) then
    some (-1 : Int32)
  else
    mi_gd (x1 < 0 ∨ 64 ≤ x1.toNatClampNeg) <|
    some ((gc_o σ) x1.toNatClampNeg)
def mc_Frames_countOwned_b6 (k6 : Int32 → Int32 → Int32 → Int32 → Int32 → CS → Option (Int32)) (x1 : Int32) (x2 : Int32) (x3 : Int32) (x4 : Int32) (x5 : Int32) (σ : CS) : Option (Int32) :=
  if (x2 + x3) ≤ x5 then
    some x4
  else
    mi_cp (mc_Frames_ownerOf σ x5) fun r1 =>
    if r1 = x1 then
      k6 x1 x2 x3 (x4 + (1 : Int32)) (x5 + (1 : Int32)) σ
    else
      k6 x1 x2 x3 x4 (x5 + (1 : Int32)) σ
def mc_Frames_countOwned_l6 : Nat → Int32 → Int32 → Int32 → Int32 → Int32 → CS → Option (Int32)
  | 0, _, _, _, _, _, _ => none
  | n + 1, a0, a1, a2, a3, a4, a5 => mc_Frames_countOwned_b6 (mc_Frames_countOwned_l6 n) a0 a1 a2 a3 a4 a5
def mc_Frames_countOwned (σ : CS) (x1 : Int32) (x2 : Int32) (x3 : Int32) : Option (Int32) :=
  mc_Frames_countOwned_l6 FU x1 x2 x3 (0 : Int32) x2 σ
def mc_Runs_isAble (σ : CS) (x1 : Int32) (x2 : Int32) : Option (Int32) :=
  mi_cp (mc_Frames_countOwned σ (0 : Int32) x1 x2) fun r1 =>
  mi_cp (mc_Frames_countOwned σ (4 : Int32) x1 x2) fun r2 =>
  if (r1 + r2) = x2 then
    mi_cp (mc_Frames_countFree σ) fun r3 =>
    if (r3 - r1) < r2 then
      some (0 : Int32)
    else
      some (1 : Int32)
  else
    some (0 : Int32)
def mc_Runs_lowestAble_b2 (k2 : Int32 → Int32 → CS → Option (Int32)) (x1 : Int32) (x2 : Int32) (σ : CS) : Option (Int32) :=
  if ((64 : Int32) >>> (x1 &&& 31)) ≤ x2 then
    some (-1 : Int32)
  else
    mi_cp (mc_Runs_isAble σ (x2 <<< (x1 &&& 31)) ((1 : Int32) <<< (x1 &&& 31))) fun r1 =>
    if r1 = (0 : Int32) then
      k2 x1 (x2 + (1 : Int32)) σ
    else
      some (x2 <<< (x1 &&& 31))
def mc_Runs_lowestAble_l2 : Nat → Int32 → Int32 → CS → Option (Int32)
  | 0, _, _, _ => none
  | n + 1, a0, a1, a2 => mc_Runs_lowestAble_b2 (mc_Runs_lowestAble_l2 n) a0 a1 a2
def mc_Runs_lowestAble (σ : CS) (x1 : Int32) : Option (Int32) :=
  mc_Runs_lowestAble_l2 FU x1 (0 : Int32) σ
def mc_Runs_lowestFreeOutside_b25 (k2 : Int32 → Int32 → Int32 → CS → Option (Int32)) (x1 : Int32) (x2 : Int32) (x3 : Int32) (y0 : Int32) (σ : CS) : Option (Int32) :=
  if y0 = (0 : Int32) then
    mi_cp (mc_Frames_ownerOf σ x3) fun r1 =>
    if r1 = (0 : Int32) then
      some x3
    else
      k2 x1 x2 (x3 + (1 : Int32)) σ
  else
    k2 x1 x2 (x3 + (1 : Int32)) σ
def mc_Runs_lowestFreeOutside_b24 (k2 : Int32 → Int32 → Int32 → CS → Option (Int32)) (x1 : Int32) (x2 : Int32) (x3 : Int32) (σ : CS) : Option (Int32) :=
  mc_Runs_lowestFreeOutside_b25 k2 x1 x2 x3 (0 : Int32) σ
def mc_Runs_lowestFreeOutside_b2 (k2 : Int32 → Int32 → Int32 → CS → Option (Int32)) (x1 : Int32) (x2 : Int32) (x3 : Int32) (σ : CS) : Option (Int32) :=
  if (64 : Int32) ≤ x3 then
    some (-1 : Int32)
  else
    if x3 < x1 then
      mc_Runs_lowestFreeOutside_b24 k2 x1 x2 x3 σ
    else
      if (x1 + x2) ≤ x3 then
        mc_Runs_lowestFreeOutside_b24 k2 x1 x2 x3 σ
      else
        mc_Runs_lowestFreeOutside_b25 k2 x1 x2 x3 (1 : Int32) σ
def mc_Runs_lowestFreeOutside_l2 : Nat → Int32 → Int32 → Int32 → CS → Option (Int32)
  | 0, _, _, _, _ => none
  | n + 1, a0, a1, a2, a3 => mc_Runs_lowestFreeOutside_b2 (mc_Runs_lowestFreeOutside_l2 n) a0 a1 a2 a3
def mc_Runs_lowestFreeOutside (σ : CS) (x1 : Int32) (x2 : Int32) : Option (Int32) :=
  mc_Runs_lowestFreeOutside_l2 FU x1 x2 (0 : Int32) σ
def mc_Frames_copyWords_b2 (k2 : Int32 → Int32 → Int32 → CS → Option (CS)) (x1 : Int32) (x2 : Int32) (x3 : Int32) (σ : CS) : Option (CS) :=
  if (16 : Int32) ≤ x3 then
    some σ
  else
    mi_cp (mc_Frames_read σ ((x1 * (16 : Int32)) + x3)) fun r1 =>
    mi_cv (mc_Frames_write σ ((x2 * (16 : Int32)) + x3) r1) fun σ2 =>
    k2 x1 x2 (x3 + (1 : Int32)) σ2
def mc_Frames_copyWords_l2 : Nat → Int32 → Int32 → Int32 → CS → Option (CS)
  | 0, _, _, _, _ => none
  | n + 1, a0, a1, a2, a3 => mc_Frames_copyWords_b2 (mc_Frames_copyWords_l2 n) a0 a1 a2 a3
def mc_Frames_copyWords (σ : CS) (x1 : Int32) (x2 : Int32) : Option (CS) :=
  mc_Frames_copyWords_l2 FU x1 x2 (0 : Int32) σ
def mc_Spaces_movePage (σ : CS) (x1 : Int32) (x2 : Int32) : Option (CS) :=
  mi_cp (mc_isFrame x1) fun r1 =>
  if r1 = (0 : Int32) then
    some σ
  else
    mi_cp (mc_isFrame x2) fun r2 =>
    if r2 = (0 : Int32) then
      some σ
    else
      mi_cv (mc_Frames_giveTo σ x2 (4 : Int32)) fun σ3 =>
      mi_cv (mc_Frames_copyWords σ3 x1 x2) fun σ4 =>
      mi_cv (mc_Frames_makeFree σ4 x1) fun σ5 =>
      mi_gd (x1 < 0 ∨ 64 ≤ x1.toNatClampNeg) <|
      mi_cv (mc_Spaces_link σ5 ((gc_eo σ5) x1.toNatClampNeg) x2) fun σ6 =>
      some σ6
def mc_Runs_movePagesOut_b2 (k2 : Int32 → Int32 → Int32 → CS → Option (CS)) (x1 : Int32) (x2 : Int32) (x3 : Int32) (σ : CS) : Option (CS) :=
  if (x1 + x2) ≤ x3 then
    some σ
  else
    mi_cp (mc_Frames_ownerOf σ x3) fun r1 =>
    if r1 = (4 : Int32) then
      mi_cp (mc_Runs_lowestFreeOutside σ x1 x2) fun r2 =>
      mi_cv (mc_Spaces_movePage σ x3 r2) fun σ3 =>
      mi_wr (sc_mv σ3 ((gc_mv σ3) + (1 : Int32))) fun σ4 =>
      k2 x1 x2 (x3 + (1 : Int32)) σ4
    else
      k2 x1 x2 (x3 + (1 : Int32)) σ
def mc_Runs_movePagesOut_l2 : Nat → Int32 → Int32 → Int32 → CS → Option (CS)
  | 0, _, _, _, _ => none
  | n + 1, a0, a1, a2, a3 => mc_Runs_movePagesOut_b2 (mc_Runs_movePagesOut_l2 n) a0 a1 a2 a3
def mc_Runs_movePagesOut (σ : CS) (x1 : Int32) (x2 : Int32) : Option (CS) :=
  mc_Runs_movePagesOut_l2 FU x1 x2 x1 σ
def mc_Runs_add_b50 (x2 : Int32) (x3 : Int32) (σ : CS) : Option (Int32 × CS) :=
  mi_gd (x3 < 0 ∨ 64 ≤ x3.toNatClampNeg) <|
  mi_wr (sc_rl σ (upd (gc_rl σ) x3.toNatClampNeg x2)) fun σ3 =>
  some (x3, σ3)
def mc_Runs_add_b26 (k26 : Int32 → Int32 → Int32 → CS → Option (Int32 × CS)) (x2 : Int32) (x3 : Int32) (x4 : Int32) (σ : CS) : Option (Int32 × CS) :=
  if (x3 + x2) ≤ x4 then
    mc_Runs_add_b50 x2 x3 σ
  else
    mi_cv (mc_Frames_giveTo σ x4 (5 : Int32)) fun σ4 =>
    k26 x2 x3 (x4 + (1 : Int32)) σ4
def mc_Runs_add_l26 : Nat → Int32 → Int32 → Int32 → CS → Option (Int32 × CS)
  | 0, _, _, _, _ => none
  | n + 1, a0, a1, a2, a3 => mc_Runs_add_b26 (mc_Runs_add_l26 n) a0 a1 a2 a3
def mc_Runs_add (σ : CS) (x1 : Int32) : Option (Int32 × CS) :=
  mi_cp (mc_Runs_lowestAble σ x1) fun r1 =>
  if r1 = (-1 : Int32) then
    some ((-1 : Int32), σ)
  else
    mi_cv (mc_Runs_movePagesOut σ r1 ((1 : Int32) <<< (x1 &&& 31))) fun σ2 =>
    mc_Runs_add_l26 FU ((1 : Int32) <<< (x1 &&& 31)) r1 r1 σ2
def mc_contig_b9 (σ : CS) : Option (Int32 × Nat × CS) :=
  some (0, 1, σ)
def mc_contig (σ : CS) (x1 : Int32) : Option (Int32 × Nat × CS) :=
  if x1 < (0 : Int32) then
    mc_contig_b9 σ
  else
    if x1 ≤ (5 : Int32) then
      mi_cw (mc_Runs_add σ x1) fun r2 σ1 =>
      mi_tq (mc_orNotEnough r2) σ1 fun r3 =>
      some (r3, 0, σ1)
    else
      mc_contig_b9 σ
def mc_Runs_remove_b48 (x1 : Int32) (x2 : Int32) (σ : CS) : Option (Int32 × CS) :=
  mi_gd (x1 < 0 ∨ 64 ≤ x1.toNatClampNeg) <|
  mi_wr (sc_rl σ (upd (gc_rl σ) x1.toNatClampNeg (0 : Int32))) fun σ2 =>
  some (x2, σ2)
def mc_Runs_remove_b27 (k27 : Int32 → Int32 → Int32 → CS → Option (Int32 × CS)) (x1 : Int32) (x2 : Int32) (x3 : Int32) (σ : CS) : Option (Int32 × CS) :=
  if (x1 + x2) ≤ x3 then
    mc_Runs_remove_b48 x1 x2 σ
  else
    mi_cv (mc_Frames_makeFree σ x3) fun σ3 =>
    k27 x1 x2 (x3 + (1 : Int32)) σ3
def mc_Runs_remove_l27 : Nat → Int32 → Int32 → Int32 → CS → Option (Int32 × CS)
  | 0, _, _, _, _ => none
  | n + 1, a0, a1, a2, a3 => mc_Runs_remove_b27 (mc_Runs_remove_l27 n) a0 a1 a2 a3
def mc_Runs_remove (σ : CS) (x1 : Int32) : Option (Int32 × CS) :=
  mi_cp (mc_isFrame x1) fun r1 =>
  if r1 = (0 : Int32) then
    some ((-1 : Int32), σ)
  else
    mi_gd (x1 < 0 ∨ 64 ≤ x1.toNatClampNeg) <|
    if ((gc_rl σ) x1.toNatClampNeg) = (0 : Int32) then
      some ((-1 : Int32), σ)
    else
      mi_gd (x1 < 0 ∨ 64 ≤ x1.toNatClampNeg) <|
      mc_Runs_remove_l27 FU x1 ((gc_rl σ) x1.toNatClampNeg) x1 σ
def mc_release (σ : CS) (x1 : Int32) : Option (Int32 × Nat × CS) :=
  mi_cw (mc_Runs_remove σ x1) fun r2 σ1 =>
  mi_tq (mc_orNotAsTold r2) σ1 fun r3 =>
  some (r3, 0, σ1)
def mc_owner (σ : CS) (x1 : Int32) : Option (Int32) :=
  mi_cp (mc_Frames_ownerOf σ x1) fun r1 =>
  some r1
def mc_frame (σ : CS) (x1 : Int32) (x2 : Int32) : Option (Int32) :=
  if x1 = (-2 : Int32) then
    mi_cp (mc_Ranges_frameOf σ x2) fun r2 =>
    some r2
  else
    mi_cp (mc_Spaces_frameOf σ x1 x2) fun r1 =>
    some r1
def mc_word (σ : CS) (x1 : Int32) (x2 : Int32) : Option (Int32) :=
  mi_cp (mc_isFrame x1) fun r1 =>
  if r1 = (0 : Int32) then
    some (0 : Int32)
  else
    if x2 < (0 : Int32) then
      some (0 : Int32)
    else
      if (16 : Int32) ≤ x2 then
        some (0 : Int32)
      else
        mi_cp (mc_Frames_read σ ((x1 * (16 : Int32)) + x2)) fun r2 =>
        some r2
def mc_Frames_countFreeBlocks_b4 (k4 : Int32 → Int32 → Int32 → CS → Option (Int32)) (x1 : Int32) (x2 : Int32) (x3 : Int32) (σ : CS) : Option (Int32) :=
  if ((64 : Int32) >>> (x1 &&& 31)) ≤ x3 then
    some x2
  else
    mi_cp (mc_Frames_isFreeBlock σ (x3 <<< (x1 &&& 31)) x1) fun r1 =>
    if r1 = (0 : Int32) then
      k4 x1 x2 (x3 + (1 : Int32)) σ
    else
      k4 x1 (x2 + (1 : Int32)) (x3 + (1 : Int32)) σ
def mc_Frames_countFreeBlocks_l4 : Nat → Int32 → Int32 → Int32 → CS → Option (Int32)
  | 0, _, _, _, _ => none
  | n + 1, a0, a1, a2, a3 => mc_Frames_countFreeBlocks_b4 (mc_Frames_countFreeBlocks_l4 n) a0 a1 a2 a3
def mc_Frames_countFreeBlocks (σ : CS) (x1 : Int32) : Option (Int32) :=
  mc_Frames_countFreeBlocks_l4 FU x1 (0 : Int32) (0 : Int32) σ
def mc_blocks (σ : CS) (x1 : Int32) : Option (Int32) :=
  if x1 < (0 : Int32) then
    some (0 : Int32)
  else
    if x1 ≤ (6 : Int32) then
      mi_cp (mc_Frames_countFreeBlocks σ x1) fun r1 =>
      some r1
    else
      some (0 : Int32)
def mc_free (σ : CS) : Option (Int32) :=
  mi_cp (mc_Frames_countFree σ) fun r1 =>
  some r1
def mc_Runs_movedSoFar (σ : CS) : Option (Int32) :=
  some (gc_mv σ)
def mc_moved (σ : CS) : Option (Int32) :=
  mi_cp (mc_Runs_movedSoFar σ) fun r1 =>
  some r1
