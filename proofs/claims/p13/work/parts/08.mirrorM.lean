abbrev MS : Type := (Int32) × (Nat → Int32) × (Nat → Int32) × (Nat → Int32) × (Nat → Int32) × (Nat → Int32) × (Nat → Int32) × (Nat → Int32) × (Nat → Int32) × (Nat → Int32) × (Int32)
abbrev gm_th (σ : MS) : Int32 := σ.1
abbrev gm_o (σ : MS) : Nat → Int32 := σ.2.1
abbrev gm_w (σ : MS) : Nat → Int32 := σ.2.2.1
abbrev gm_sz (σ : MS) : Nat → Int32 := σ.2.2.2.1
abbrev gm_tk (σ : MS) : Nat → Int32 := σ.2.2.2.2.1
abbrev gm_rl (σ : MS) : Nat → Int32 := σ.2.2.2.2.2.1
abbrev gm_en (σ : MS) : Nat → Int32 := σ.2.2.2.2.2.2.1
abbrev gm_ln (σ : MS) : Nat → Int32 := σ.2.2.2.2.2.2.2.1
abbrev gm_ro (σ : MS) : Nat → Int32 := σ.2.2.2.2.2.2.2.2.1
abbrev gm_rg (σ : MS) : Nat → Int32 := σ.2.2.2.2.2.2.2.2.2.1
abbrev gm_mv (σ : MS) : Int32 := σ.2.2.2.2.2.2.2.2.2.2
abbrev sm_th (σ : MS) (v : Int32) : MS := (v, σ.2)
abbrev sm_o (σ : MS) (v : Nat → Int32) : MS := (σ.1, v, σ.2.2)
abbrev sm_w (σ : MS) (v : Nat → Int32) : MS := (σ.1, σ.2.1, v, σ.2.2.2)
abbrev sm_sz (σ : MS) (v : Nat → Int32) : MS := (σ.1, σ.2.1, σ.2.2.1, v, σ.2.2.2.2)
abbrev sm_tk (σ : MS) (v : Nat → Int32) : MS := (σ.1, σ.2.1, σ.2.2.1, σ.2.2.2.1, v, σ.2.2.2.2.2)
abbrev sm_rl (σ : MS) (v : Nat → Int32) : MS := (σ.1, σ.2.1, σ.2.2.1, σ.2.2.2.1, σ.2.2.2.2.1, v, σ.2.2.2.2.2.2)
abbrev sm_en (σ : MS) (v : Nat → Int32) : MS := (σ.1, σ.2.1, σ.2.2.1, σ.2.2.2.1, σ.2.2.2.2.1, σ.2.2.2.2.2.1, v, σ.2.2.2.2.2.2.2)
abbrev sm_ln (σ : MS) (v : Nat → Int32) : MS := (σ.1, σ.2.1, σ.2.2.1, σ.2.2.2.1, σ.2.2.2.2.1, σ.2.2.2.2.2.1, σ.2.2.2.2.2.2.1, v, σ.2.2.2.2.2.2.2.2)
abbrev sm_ro (σ : MS) (v : Nat → Int32) : MS := (σ.1, σ.2.1, σ.2.2.1, σ.2.2.2.1, σ.2.2.2.2.1, σ.2.2.2.2.2.1, σ.2.2.2.2.2.2.1, σ.2.2.2.2.2.2.2.1, v, σ.2.2.2.2.2.2.2.2.2)
abbrev sm_rg (σ : MS) (v : Nat → Int32) : MS := (σ.1, σ.2.1, σ.2.2.1, σ.2.2.2.1, σ.2.2.2.2.1, σ.2.2.2.2.2.1, σ.2.2.2.2.2.2.1, σ.2.2.2.2.2.2.2.1, σ.2.2.2.2.2.2.2.2.1, v, σ.2.2.2.2.2.2.2.2.2.2)
abbrev sm_mv (σ : MS) (v : Int32) : MS := (σ.1, σ.2.1, σ.2.2.1, σ.2.2.2.1, σ.2.2.2.2.1, σ.2.2.2.2.2.1, σ.2.2.2.2.2.2.1, σ.2.2.2.2.2.2.2.1, σ.2.2.2.2.2.2.2.2.1, σ.2.2.2.2.2.2.2.2.2.1, v)
def wd_M (r : Nat → Nat) (cI cZ : ClassId) (σ : MS) : va_W := [(r 0, .inr (6, [.int (gm_th σ), .ref (r 1), .ref (r 2), .ref (r 3), .ref (r 4), .ref (r 5), .ref (r 6), .ref (r 7), .ref (r 8), .ref (r 9), .int (gm_mv σ)])),
  (r 1, .inl (cI, 64, .inl (gm_o σ))),
  (r 2, .inl (cI, 1024, .inl (gm_w σ))),
  (r 3, .inl (cI, 64, .inl (gm_sz σ))),
  (r 4, .inl (cI, 64, .inl (gm_tk σ))),
  (r 5, .inl (cI, 64, .inl (gm_rl σ))),
  (r 6, .inl (cI, 64, .inl (gm_en σ))),
  (r 7, .inl (cI, 64, .inl (gm_ln σ))),
  (r 8, .inl (cI, 4, .inl (gm_ro σ))),
  (r 9, .inl (cZ, 1024, .inl (gm_rg σ)))]
def mm_thrown (σ : MS) : Option (Int32) :=
  some (gm_th σ)
def mm_throwsBy (σ : MS) (x1 : Int32) : Option (Int32 × MS) :=
  mi_wr (sm_th σ x1) fun σ1 =>
  if x1 ≤ (0 : Int32) then
    some ((0 : Int32), σ1)
  else
    some ((1 : Int32), σ1)
def mm_in (x0 : Int32) (x1 : Int32) (x2 : Int32) : Option (Int32) :=
  if x0 < x1 then
    some (0 : Int32)
  else
    if x2 < x0 then
      some (0 : Int32)
    else
      some (1 : Int32)
def mm_countFree_b4 (k4 : Int32 → Int32 → MS → Option (Int32)) (x1 : Int32) (x2 : Int32) (σ : MS) : Option (Int32) :=
  if (64 : Int32) ≤ x2 then
    some x1
  else
    mi_gd (x2 < 0 ∨ 64 ≤ x2.toNatClampNeg) <|
    if ((gm_o σ) x2.toNatClampNeg) = (0 : Int32) then
      k4 (x1 + (1 : Int32)) (x2 + (1 : Int32)) σ
    else
      k4 x1 (x2 + (1 : Int32)) σ
def mm_countFree_l4 : Nat → Int32 → Int32 → MS → Option (Int32)
  | 0, _, _, _ => none
  | n + 1, a0, a1, a2 => mm_countFree_b4 (mm_countFree_l4 n) a0 a1 a2
def mm_countFree (σ : MS) : Option (Int32) :=
  mm_countFree_l4 FU (0 : Int32) (0 : Int32) σ
def mm_isOpen_b5 (k5 : Int32 → Int32 → Int32 → Int32 → MS → Option (Int32)) (x1 : Int32) (x2 : Int32) (x3 : Int32) (x4 : Int32) (σ : MS) : Option (Int32) :=
  if (x1 + x2) ≤ x4 then
    mi_gd (¬ (x3 = 0 ∨ x3 = 1)) <|
    some x3
  else
    if x3 = (0 : Int32) then
      k5 x1 x2 (0 : Int32) (x4 + (1 : Int32)) σ
    else
      mi_gd (x4 < 0 ∨ 64 ≤ x4.toNatClampNeg) <|
      if ((gm_o σ) x4.toNatClampNeg) = (0 : Int32) then
        k5 x1 x2 (1 : Int32) (x4 + (1 : Int32)) σ
      else
        k5 x1 x2 (0 : Int32) (x4 + (1 : Int32)) σ
def mm_isOpen_l5 : Nat → Int32 → Int32 → Int32 → Int32 → MS → Option (Int32)
  | 0, _, _, _, _, _ => none
  | n + 1, a0, a1, a2, a3, a4 => mm_isOpen_b5 (mm_isOpen_l5 n) a0 a1 a2 a3 a4
def mm_isOpen (σ : MS) (x1 : Int32) (x2 : Int32) : Option (Int32) :=
  mm_isOpen_l5 FU x1 x2 (1 : Int32) x1 σ
def mm_isBlock (σ : MS) (x1 : Int32) (x2 : Int32) : Option (Int32) :=
  mi_cp (mm_isOpen σ x1 x2) fun r1 =>
  if r1 = (0 : Int32) then
    some (0 : Int32)
  else
    if x2 = (64 : Int32) then
      some (1 : Int32)
    else
      mi_gd (((2 : Int32) * x2) = 0) <|
      mi_cp (mm_isOpen σ (x1 - (x1 - x1 / ((2 : Int32) * x2) * ((2 : Int32) * x2))) ((2 : Int32) * x2)) fun r2 =>
      if r2 = (0 : Int32) then
        some (1 : Int32)
      else
        some (0 : Int32)
def mm_lowest_b37 (k4 : Int32 → Int32 → MS → Option (Int32)) (k19 : Int32 → Int32 → Int32 → MS → Option (Int32)) (x2 : Int32) (x3 : Int32) (y0 : Int32) (σ : MS) : Option (Int32) :=
  k19 y0 x2 (x3 - x2) σ
def mm_lowest_b19 (k4 : Int32 → Int32 → MS → Option (Int32)) (k19 : Int32 → Int32 → Int32 → MS → Option (Int32)) (x1 : Int32) (x2 : Int32) (x3 : Int32) (σ : MS) : Option (Int32) :=
  if x3 < (0 : Int32) then
    k4 x1 ((2 : Int32) * x2) σ
  else
    mi_cp (mm_isBlock σ x3 x2) fun r1 =>
    if r1 = (0 : Int32) then
      mm_lowest_b37 k4 k19 x2 x3 x1 σ
    else
      mm_lowest_b37 k4 k19 x2 x3 x3 σ
def mm_lowest_l19 (k4 : Int32 → Int32 → MS → Option (Int32)) : Nat → Int32 → Int32 → Int32 → MS → Option (Int32)
  | 0, _, _, _, _ => none
  | n + 1, a0, a1, a2, a3 => mm_lowest_b19 k4 (mm_lowest_l19 k4 n) a0 a1 a2 a3
def mm_lowest_b4 (k4 : Int32 → Int32 → MS → Option (Int32)) (x1 : Int32) (x2 : Int32) (σ : MS) : Option (Int32) :=
  if (64 : Int32) < x2 then
    some x1
  else
    if (0 : Int32) ≤ x1 then
      some x1
    else
      mm_lowest_l19 k4 FU x1 x2 ((64 : Int32) - x2) σ
def mm_lowest_l4 : Nat → Int32 → Int32 → MS → Option (Int32)
  | 0, _, _, _ => none
  | n + 1, a0, a1, a2 => mm_lowest_b4 (mm_lowest_l4 n) a0 a1 a2
def mm_lowest (σ : MS) : Option (Int32) :=
  mm_lowest_l4 FU (-1 : Int32) (1 : Int32) σ
def mm_own_b9 (k9 : Int32 → Int32 → MS → Option (MS)) (x1 : Int32) (x3 : Int32) (σ : MS) : Option (MS) :=
  if (16 : Int32) ≤ x3 then
    some σ
  else
    mi_gd (((16 : Int32) * x1) + x3 < 0 ∨ 1024 ≤ (((16 : Int32) * x1) + x3).toNatClampNeg) <|
    mi_wr (sm_w σ (upd (gm_w σ) (((16 : Int32) * x1) + x3).toNatClampNeg (0 : Int32))) fun σ2 =>
    k9 x1 (x3 + (1 : Int32)) σ2
def mm_own_l9 : Nat → Int32 → Int32 → MS → Option (MS)
  | 0, _, _, _ => none
  | n + 1, a0, a1, a2 => mm_own_b9 (mm_own_l9 n) a0 a1 a2
def mm_own (σ : MS) (x1 : Int32) (x2 : Int32) : Option (MS) :=
  mi_gd (x1 < 0 ∨ 64 ≤ x1.toNatClampNeg) <|
  mi_wr (sm_o σ (upd (gm_o σ) x1.toNatClampNeg x2)) fun σ1 =>
  mm_own_l9 FU x1 (0 : Int32) σ1
def mm_give (σ : MS) (x1 : Int32) : Option (Int32 × MS) :=
  mi_cp (mm_lowest σ) fun r1 =>
  mi_cv (mm_own σ r1 x1) fun σ2 =>
  some (r1, σ2)
def mm_kmalloc_b206 (k206 : Int32 → Int32 → Int32 → MS → Option (Int32 × MS)) (x2 : Int32) (x5 : Int32) (x6 : Int32) (σ : MS) : Option (Int32 × MS) :=
  if x2 ≤ x6 then
    some (x5, σ)
  else
    mi_gd (x5 + x6 < 0 ∨ 1024 ≤ (x5 + x6).toNatClampNeg) <|
    mi_wr (sm_w σ (upd (gm_w σ) (x5 + x6).toNatClampNeg (0 : Int32))) fun σ5 =>
    k206 x2 x5 (x6 + (1 : Int32)) σ5
def mm_kmalloc_l206 : Nat → Int32 → Int32 → Int32 → MS → Option (Int32 × MS)
  | 0, _, _, _, _ => none
  | n + 1, a0, a1, a2, a3 => mm_kmalloc_b206 (mm_kmalloc_l206 n) a0 a1 a2 a3
def mm_kmalloc_b175 (x2 : Int32) (x3 : Int32) (x4 : Int32) (σ : MS) : Option (Int32 × MS) :=
  mi_gd (x3 < 0 ∨ 64 ≤ x3.toNatClampNeg) <|
  mi_gd (x3 < 0 ∨ 64 ≤ x3.toNatClampNeg) <|
  mi_wr (sm_tk σ (upd (gm_tk σ) x3.toNatClampNeg (((gm_tk σ) x3.toNatClampNeg) ||| ((1 : Int32) <<< (x4 &&& 31))))) fun σ4 =>
  mm_kmalloc_l206 FU x2 (((16 : Int32) * x3) + (x2 * x4)) (0 : Int32) σ4
def mm_kmalloc_b151 (k151 : Int32 → Int32 → Int32 → MS → Option (Int32 × MS)) (x2 : Int32) (x3 : Int32) (x4 : Int32) (σ : MS) : Option (Int32 × MS) :=
  mi_gd (x3 < 0 ∨ 64 ≤ x3.toNatClampNeg) <|
  if ((((gm_tk σ) x3.toNatClampNeg) >>> (x4 &&& 31)) &&& (1 : Int32)) = (1 : Int32) then
    k151 x2 x3 (x4 + (1 : Int32)) σ
  else
    mm_kmalloc_b175 x2 x3 x4 σ
def mm_kmalloc_l151 : Nat → Int32 → Int32 → Int32 → MS → Option (Int32 × MS)
  | 0, _, _, _, _ => none
  | n + 1, a0, a1, a2, a3 => mm_kmalloc_b151 (mm_kmalloc_l151 n) a0 a1 a2 a3
def mm_kmalloc_b116 (x2 : Int32) (x3 : Int32) (y1 : Int32) (σ : MS) : Option (Int32 × MS) :=
  mi_cw (mm_throwsBy σ y1) fun r3 σ2 =>
  if r3 = (0 : Int32) then
    if (0 : Int32) ≤ x3 then
      mm_kmalloc_l151 FU x2 x3 (0 : Int32) σ2
    else
      mi_cw (mm_give σ2 (2 : Int32)) fun r7 σ6 =>
      mi_gd (r7 < 0 ∨ 64 ≤ r7.toNatClampNeg) <|
      mi_wr (sm_sz σ6 (upd (gm_sz σ6) r7.toNatClampNeg x2)) fun σ8 =>
      mi_gd (r7 < 0 ∨ 64 ≤ r7.toNatClampNeg) <|
      mi_wr (sm_tk σ8 (upd (gm_tk σ8) r7.toNatClampNeg (0 : Int32))) fun σ9 =>
      mm_kmalloc_l151 FU x2 r7 (0 : Int32) σ9
  else
    some ((0 : Int32), σ2)
def mm_kmalloc_b115 (x2 : Int32) (x3 : Int32) (σ : MS) : Option (Int32 × MS) :=
  mm_kmalloc_b116 x2 x3 (0 : Int32) σ
def mm_kmalloc_b85 (x1 : Int32) (x2 : Int32) (x3 : Int32) (σ : MS) : Option (Int32 × MS) :=
  mi_cp (mm_in x1 (1 : Int32) (8 : Int32)) fun r1 =>
  if r1 = (0 : Int32) then
    mm_kmalloc_b116 x2 x3 (1 : Int32) σ
  else
    if (0 : Int32) ≤ x3 then
      mm_kmalloc_b115 x2 x3 σ
    else
      mi_cp (mm_countFree σ) fun r10 =>
      if r10 = (0 : Int32) then
        mm_kmalloc_b116 x2 x3 (2 : Int32) σ
      else
        mm_kmalloc_b115 x2 x3 σ
def mm_kmalloc_b27 (k27 : Int32 → Int32 → Int32 → Int32 → MS → Option (Int32 × MS)) (x1 : Int32) (x2 : Int32) (x3 : Int32) (x4 : Int32) (σ : MS) : Option (Int32 × MS) :=
  if x4 < (0 : Int32) then
    mm_kmalloc_b85 x1 x2 x3 σ
  else
    mi_gd (x4 < 0 ∨ 64 ≤ x4.toNatClampNeg) <|
    if ((gm_o σ) x4.toNatClampNeg) = (2 : Int32) then
      mi_gd (x4 < 0 ∨ 64 ≤ x4.toNatClampNeg) <|
      if ((gm_sz σ) x4.toNatClampNeg) = x2 then
        mi_gd (x4 < 0 ∨ 64 ≤ x4.toNatClampNeg) <|
        mi_gd (x2 = 0) <|
        if ((gm_tk σ) x4.toNatClampNeg) = (((1 : Int32) <<< (((16 : Int32) / x2) &&& 31)) - (1 : Int32)) then
          k27 x1 x2 x3 (x4 + (-1 : Int32)) σ
        else
          k27 x1 x2 x4 (x4 + (-1 : Int32)) σ
      else
        k27 x1 x2 x3 (x4 + (-1 : Int32)) σ
    else
      k27 x1 x2 x3 (x4 + (-1 : Int32)) σ
def mm_kmalloc_l27 : Nat → Int32 → Int32 → Int32 → Int32 → MS → Option (Int32 × MS)
  | 0, _, _, _, _, _ => none
  | n + 1, a0, a1, a2, a3, a4 => mm_kmalloc_b27 (mm_kmalloc_l27 n) a0 a1 a2 a3 a4
def mm_kmalloc (σ : MS) (x1 : Int32) : Option (Int32 × MS) :=
  if (2 : Int32) < x1 then
    if (4 : Int32) < x1 then
      mm_kmalloc_l27 FU x1 (8 : Int32) (-1 : Int32) (63 : Int32) σ
    else
      mm_kmalloc_l27 FU x1 (4 : Int32) (-1 : Int32) (63 : Int32) σ
  else
    mm_kmalloc_l27 FU x1 (2 : Int32) (-1 : Int32) (63 : Int32) σ
def mm_isObject (σ : MS) (x1 : Int32) : Option (Int32) :=
  mi_cp (mm_in x1 (0 : Int32) (1023 : Int32)) fun r1 =>
  if r1 = (0 : Int32) then
    some (0 : Int32)
  else
    mi_gd (x1 / (16 : Int32) < 0 ∨ 64 ≤ (x1 / (16 : Int32)).toNatClampNeg) <|
    if ((gm_o σ) (x1 / (16 : Int32)).toNatClampNeg) = (2 : Int32) then
      mi_gd (x1 / (16 : Int32) < 0 ∨ 64 ≤ (x1 / (16 : Int32)).toNatClampNeg) <|
      mi_gd (x1 / (16 : Int32) < 0 ∨ 64 ≤ (x1 / (16 : Int32)).toNatClampNeg) <|
      mi_gd (((gm_sz σ) (x1 / (16 : Int32)).toNatClampNeg) = 0) <|
      if ((((gm_tk σ) (x1 / (16 : Int32)).toNatClampNeg) >>> (((x1 - x1 / (16 : Int32) * (16 : Int32)) / ((gm_sz σ) (x1 / (16 : Int32)).toNatClampNeg)) &&& 31)) &&& (1 : Int32)) = (1 : Int32) then
        some (1 : Int32)
      else
        some (0 : Int32)
    else
      some (0 : Int32)
def mm_kfree_b90 (y1 : Int32) (y2 : Int32) (σ : MS) : Option (MS) :=
  mi_gd (y1 < 0 ∨ 64 ≤ y1.toNatClampNeg) <|
  mi_wr (sm_o σ (upd (gm_o σ) y1.toNatClampNeg y2)) fun σ5 =>
  some σ5
def mm_kfree_b31 (x1 : Int32) (y1 : Int32) (σ : MS) : Option (MS) :=
  mi_cw (mm_throwsBy σ y1) fun r3 σ2 =>
  if r3 = (0 : Int32) then
    mi_gd (x1 / (16 : Int32) < 0 ∨ 64 ≤ (x1 / (16 : Int32)).toNatClampNeg) <|
    mi_gd (x1 / (16 : Int32) < 0 ∨ 64 ≤ (x1 / (16 : Int32)).toNatClampNeg) <|
    mi_gd (((gm_sz σ2) (x1 / (16 : Int32)).toNatClampNeg) = 0) <|
    mi_gd (x1 / (16 : Int32) < 0 ∨ 64 ≤ (x1 / (16 : Int32)).toNatClampNeg) <|
    mi_wr (sm_tk σ2 (upd (gm_tk σ2) (x1 / (16 : Int32)).toNatClampNeg (((gm_tk σ2) (x1 / (16 : Int32)).toNatClampNeg) &&& (((1 : Int32) <<< (((x1 - x1 / (16 : Int32) * (16 : Int32)) / ((gm_sz σ2) (x1 / (16 : Int32)).toNatClampNeg)) &&& 31)) ^^^ (-1 : Int32))))) fun σ4 =>
    mi_gd (x1 / (16 : Int32) < 0 ∨ 64 ≤ (x1 / (16 : Int32)).toNatClampNeg) <|
    if ((gm_tk σ4) (x1 / (16 : Int32)).toNatClampNeg) = (0 : Int32) then
      mm_kfree_b90 (x1 / (16 : Int32)) (0 : Int32) σ4
    else
      mm_kfree_b90 (x1 / (16 : Int32)) (2 : Int32) σ4
  else
    some σ2
def mm_kfree_b30 (x1 : Int32) (σ : MS) : Option (MS) :=
  mm_kfree_b31 x1 (1 : Int32) σ
def mm_kfree (σ : MS) (x1 : Int32) : Option (MS) :=
  mi_cp (mm_isObject σ x1) fun r1 =>
  if r1 = (0 : Int32) then
    mm_kfree_b30 x1 σ
  else
    mi_gd (x1 / (16 : Int32) < 0 ∨ 64 ≤ (x1 / (16 : Int32)).toNatClampNeg) <|
    mi_gd (((gm_sz σ) (x1 / (16 : Int32)).toNatClampNeg) = 0) <|
    if ((x1 - x1 / (16 : Int32) * (16 : Int32)) - (x1 - x1 / (16 : Int32) * (16 : Int32)) / ((gm_sz σ) (x1 / (16 : Int32)).toNatClampNeg) * ((gm_sz σ) (x1 / (16 : Int32)).toNatClampNeg)) = (0 : Int32) then
      mm_kfree_b31 x1 (0 : Int32) σ
    else
      mm_kfree_b30 x1 σ
def mm_rowOf_b53 (k7 : Int32 → Int32 → Int32 → MS → Option (Int32)) (x1 : Int32) (x2 : Int32) (x3 : Int32) (x4 : Int32) (σ : MS) : Option (Int32) :=
  if x4 = (0 : Int32) then
    k7 x1 x2 (x3 + (-1 : Int32)) σ
  else
    k7 x1 x3 (x3 + (-1 : Int32)) σ
def mm_rowOf_b17 (k7 : Int32 → Int32 → Int32 → MS → Option (Int32)) (k17 : Int32 → Int32 → Int32 → Int32 → Int32 → MS → Option (Int32)) (x1 : Int32) (x2 : Int32) (x3 : Int32) (x4 : Int32) (x5 : Int32) (σ : MS) : Option (Int32) :=
  if (x3 + x1) ≤ x5 then
    mm_rowOf_b53 k7 x1 x2 x3 x4 σ
  else
    if x4 = (0 : Int32) then
      k17 x1 x2 x3 (0 : Int32) (x5 + (1 : Int32)) σ
    else
      mi_gd (x5 < 0 ∨ 64 ≤ x5.toNatClampNeg) <|
      if ((gm_en σ) x5.toNatClampNeg) = (0 : Int32) then
        k17 x1 x2 x3 (1 : Int32) (x5 + (1 : Int32)) σ
      else
        k17 x1 x2 x3 (0 : Int32) (x5 + (1 : Int32)) σ
def mm_rowOf_l17 (k7 : Int32 → Int32 → Int32 → MS → Option (Int32)) : Nat → Int32 → Int32 → Int32 → Int32 → Int32 → MS → Option (Int32)
  | 0, _, _, _, _, _, _ => none
  | n + 1, a0, a1, a2, a3, a4, a5 => mm_rowOf_b17 k7 (mm_rowOf_l17 k7 n) a0 a1 a2 a3 a4 a5
def mm_rowOf_b7 (k7 : Int32 → Int32 → Int32 → MS → Option (Int32)) (x1 : Int32) (x2 : Int32) (x3 : Int32) (σ : MS) : Option (Int32) :=
  if x3 < (0 : Int32) then
    some x2
  else
    mm_rowOf_l17 k7 FU x1 x2 x3 (1 : Int32) x3 σ
def mm_rowOf_l7 : Nat → Int32 → Int32 → Int32 → MS → Option (Int32)
  | 0, _, _, _, _ => none
  | n + 1, a0, a1, a2, a3 => mm_rowOf_b7 (mm_rowOf_l7 n) a0 a1 a2 a3
def mm_rowOf (σ : MS) (x1 : Int32) : Option (Int32) :=
  mm_rowOf_l7 FU x1 (-1 : Int32) ((64 : Int32) - x1) σ
def mm_vmalloc_b87 (x1 : Int32) (x3 : Int32) (σ : MS) : Option (Int32 × MS) :=
  mi_gd (x3 < 0 ∨ 64 ≤ x3.toNatClampNeg) <|
  mi_wr (sm_ln σ (upd (gm_ln σ) x3.toNatClampNeg x1)) fun σ4 =>
  some ((16 : Int32) * x3, σ4)
def mm_vmalloc_b59 (k59 : Int32 → Int32 → Int32 → MS → Option (Int32 × MS)) (x1 : Int32) (x3 : Int32) (x4 : Int32) (σ : MS) : Option (Int32 × MS) :=
  if (x3 + x1) ≤ x4 then
    mm_vmalloc_b87 x1 x3 σ
  else
    mi_cw (mm_give σ (3 : Int32)) fun r6 σ5 =>
    mi_gd (x4 < 0 ∨ 64 ≤ x4.toNatClampNeg) <|
    mi_wr (sm_en σ5 (upd (gm_en σ5) x4.toNatClampNeg ((1 : Int32) + r6))) fun σ7 =>
    k59 x1 x3 (x4 + (1 : Int32)) σ7
def mm_vmalloc_l59 : Nat → Int32 → Int32 → Int32 → MS → Option (Int32 × MS)
  | 0, _, _, _, _ => none
  | n + 1, a0, a1, a2, a3 => mm_vmalloc_b59 (mm_vmalloc_l59 n) a0 a1 a2 a3
def mm_vmalloc_b48 (x1 : Int32) (x3 : Int32) (y1 : Int32) (σ : MS) : Option (Int32 × MS) :=
  mi_cw (mm_throwsBy σ y1) fun r3 σ2 =>
  if r3 = (0 : Int32) then
    mm_vmalloc_l59 FU x1 x3 x3 σ2
  else
    some ((0 : Int32), σ2)
def mm_vmalloc_b21 (x1 : Int32) (x2 : Int32) (y0 : Int32) (σ : MS) : Option (Int32 × MS) :=
  if x2 = (0 : Int32) then
    mm_vmalloc_b48 x1 y0 (1 : Int32) σ
  else
    if y0 < (0 : Int32) then
      mm_vmalloc_b48 x1 y0 (2 : Int32) σ
    else
      mi_cp (mm_countFree σ) fun r8 =>
      if x1 ≤ r8 then
        mm_vmalloc_b48 x1 y0 (0 : Int32) σ
      else
        mm_vmalloc_b48 x1 y0 (2 : Int32) σ
def mm_vmalloc (σ : MS) (x1 : Int32) : Option (Int32 × MS) :=
  mi_cp (mm_in x1 (1 : Int32) (8 : Int32)) fun r1 =>
  if r1 = (0 : Int32) then
    mm_vmalloc_b21 x1 r1 (-1 : Int32) σ
  else
    mi_cp (mm_rowOf σ x1) fun r9 =>
    mm_vmalloc_b21 x1 r1 r9 σ
def mm_vfree_b108 (x3 : Int32) (x4 : Int32) (σ : MS) : Option (Int32 × MS) :=
  mi_gd (x3 < 0 ∨ 64 ≤ x3.toNatClampNeg) <|
  mi_wr (sm_ln σ (upd (gm_ln σ) x3.toNatClampNeg (0 : Int32))) fun σ4 =>
  some (x4, σ4)
def mm_vfree_b70 (k70 : Int32 → Int32 → Int32 → MS → Option (Int32 × MS)) (x3 : Int32) (x4 : Int32) (x5 : Int32) (σ : MS) : Option (Int32 × MS) :=
  if (x3 + x4) ≤ x5 then
    mm_vfree_b108 x3 x4 σ
  else
    mi_gd (x5 < 0 ∨ 64 ≤ x5.toNatClampNeg) <|
    mi_gd (((gm_en σ) x5.toNatClampNeg) - (1 : Int32) < 0 ∨ 64 ≤ (((gm_en σ) x5.toNatClampNeg) - (1 : Int32)).toNatClampNeg) <|
    mi_wr (sm_o σ (upd (gm_o σ) (((gm_en σ) x5.toNatClampNeg) - (1 : Int32)).toNatClampNeg (0 : Int32))) fun σ5 =>
    mi_gd (x5 < 0 ∨ 64 ≤ x5.toNatClampNeg) <|
    mi_wr (sm_en σ5 (upd (gm_en σ5) x5.toNatClampNeg (0 : Int32))) fun σ6 =>
    k70 x3 x4 (x5 + (1 : Int32)) σ6
def mm_vfree_l70 : Nat → Int32 → Int32 → Int32 → MS → Option (Int32 × MS)
  | 0, _, _, _, _ => none
  | n + 1, a0, a1, a2, a3 => mm_vfree_b70 (mm_vfree_l70 n) a0 a1 a2 a3
def mm_vfree_b46 (x1 : Int32) (y1 : Int32) (σ : MS) : Option (Int32 × MS) :=
  mi_cw (mm_throwsBy σ y1) fun r3 σ2 =>
  if r3 = (0 : Int32) then
    mi_gd (x1 / (16 : Int32) < 0 ∨ 64 ≤ (x1 / (16 : Int32)).toNatClampNeg) <|
    mm_vfree_l70 FU (x1 / (16 : Int32)) ((gm_ln σ2) (x1 / (16 : Int32)).toNatClampNeg) (x1 / (16 : Int32)) σ2
  else
    some ((0 : Int32), σ2)
def mm_vfree_b35 (x1 : Int32) (y0 : Int32) (σ : MS) : Option (Int32 × MS) :=
  if y0 = (0 : Int32) then
    mm_vfree_b46 x1 (1 : Int32) σ
  else
    mm_vfree_b46 x1 (0 : Int32) σ
def mm_vfree_b34 (x1 : Int32) (σ : MS) : Option (Int32 × MS) :=
  mm_vfree_b35 x1 (0 : Int32) σ
def mm_vfree (σ : MS) (x1 : Int32) : Option (Int32 × MS) :=
  mi_cp (mm_in x1 (0 : Int32) (1023 : Int32)) fun r1 =>
  if r1 = (0 : Int32) then
    mm_vfree_b34 x1 σ
  else
    if (x1 - x1 / (16 : Int32) * (16 : Int32)) = (0 : Int32) then
      mi_gd (x1 / (16 : Int32) < 0 ∨ 64 ≤ (x1 / (16 : Int32)).toNatClampNeg) <|
      if ((gm_ln σ) (x1 / (16 : Int32)).toNatClampNeg) ≤ (0 : Int32) then
        mm_vfree_b34 x1 σ
      else
        mm_vfree_b35 x1 (1 : Int32) σ
    else
      mm_vfree_b34 x1 σ
def mm_isSpace (σ : MS) (x1 : Int32) : Option (Int32) :=
  mi_cp (mm_in x1 (0 : Int32) (3 : Int32)) fun r1 =>
  if r1 = (0 : Int32) then
    some (0 : Int32)
  else
    mi_gd (x1 < 0 ∨ 4 ≤ x1.toNatClampNeg) <|
    if ((gm_ro σ) x1.toNatClampNeg) ≤ (0 : Int32) then
      some (0 : Int32)
    else
      some (1 : Int32)
def mm_create_b51 (x1 : Int32) (y1 : Int32) (σ : MS) : Option (Int32 × MS) :=
  mi_cw (mm_throwsBy σ y1) fun r2 σ1 =>
  if r2 = (0 : Int32) then
    mi_cw (mm_give σ1 (1 : Int32)) fun r4 σ3 =>
    mi_gd (x1 < 0 ∨ 4 ≤ x1.toNatClampNeg) <|
    mi_wr (sm_ro σ3 (upd (gm_ro σ3) x1.toNatClampNeg ((1 : Int32) + r4))) fun σ5 =>
    some (x1, σ5)
  else
    some ((0 : Int32), σ1)
def mm_create_b29 (x1 : Int32) (σ : MS) : Option (Int32 × MS) :=
  mi_gd (x1 < 0 ∨ 4 ≤ x1.toNatClampNeg) <|
  if (0 : Int32) < ((gm_ro σ) x1.toNatClampNeg) then
    mm_create_b51 x1 (1 : Int32) σ
  else
    mi_cp (mm_countFree σ) fun r6 =>
    if r6 = (0 : Int32) then
      mm_create_b51 x1 (1 : Int32) σ
    else
      mm_create_b51 x1 (0 : Int32) σ
def mm_create_b4 (k4 : Int32 → Int32 → MS → Option (Int32 × MS)) (x1 : Int32) (x2 : Int32) (σ : MS) : Option (Int32 × MS) :=
  if x2 < (0 : Int32) then
    mm_create_b29 x1 σ
  else
    mi_gd (x2 < 0 ∨ 4 ≤ x2.toNatClampNeg) <|
    if ((gm_ro σ) x2.toNatClampNeg) = (0 : Int32) then
      k4 x2 (x2 + (-1 : Int32)) σ
    else
      k4 x1 (x2 + (-1 : Int32)) σ
def mm_create_l4 : Nat → Int32 → Int32 → MS → Option (Int32 × MS)
  | 0, _, _, _ => none
  | n + 1, a0, a1, a2 => mm_create_b4 (mm_create_l4 n) a0 a1 a2
def mm_create (σ : MS) : Option (Int32 × MS) :=
  mm_create_l4 FU (3 : Int32) (3 : Int32) σ
def mm_rootEntry (σ : MS) (x1 : Int32) (x2 : Int32) : Option (Int32) :=
  mi_gd (x1 < 0 ∨ 4 ≤ x1.toNatClampNeg) <|
  some (((16 : Int32) * (((gm_ro σ) x1.toNatClampNeg) - (1 : Int32))) + (x2 / (16 : Int32)))
def mm_hasTable (σ : MS) (x1 : Int32) (x2 : Int32) : Option (Int32) :=
  mi_cp (mm_rootEntry σ x1 x2) fun r1 =>
  mi_gd (r1 < 0 ∨ 1024 ≤ r1.toNatClampNeg) <|
  if ((gm_w σ) r1.toNatClampNeg) ≤ (0 : Int32) then
    some (0 : Int32)
  else
    some (1 : Int32)
def mm_entry (σ : MS) (x1 : Int32) (x2 : Int32) : Option (Int32) :=
  mi_cp (mm_rootEntry σ x1 x2) fun r1 =>
  mi_gd (r1 < 0 ∨ 1024 ≤ r1.toNatClampNeg) <|
  some (((16 : Int32) * (((gm_w σ) r1.toNatClampNeg) - (1 : Int32))) + (x2 - x2 / (16 : Int32) * (16 : Int32)))
def mm_frameOf (σ : MS) (x1 : Int32) (x2 : Int32) : Option (Int32) :=
  mi_cp (mm_hasTable σ x1 x2) fun r1 =>
  if r1 = (0 : Int32) then
    some (-1 : Int32)
  else
    mi_cp (mm_entry σ x1 x2) fun r2 =>
    mi_gd (r2 < 0 ∨ 1024 ≤ r2.toNatClampNeg) <|
    some (((gm_w σ) r2.toNatClampNeg) - (1 : Int32))
def mm_drop_b94 (x1 : Int32) (x2 : Int32) (x4 : Int32) (x5 : Int32) (σ : MS) : Option (Int32 × MS) :=
  if x5 = (0 : Int32) then
    some ((1 : Int32), σ)
  else
    mi_gd (x4 < 0 ∨ 64 ≤ x4.toNatClampNeg) <|
    mi_wr (sm_o σ (upd (gm_o σ) x4.toNatClampNeg (0 : Int32))) fun σ6 =>
    mi_cp (mm_rootEntry σ6 x1 x2) fun r7 =>
    mi_gd (r7 < 0 ∨ 1024 ≤ r7.toNatClampNeg) <|
    mi_wr (sm_w σ6 (upd (gm_w σ6) r7.toNatClampNeg (0 : Int32))) fun σ8 =>
    some ((2 : Int32), σ8)
def mm_drop_b53 (k53 : Int32 → Int32 → Int32 → Int32 → Int32 → MS → Option (Int32 × MS)) (x1 : Int32) (x2 : Int32) (x4 : Int32) (x5 : Int32) (x6 : Int32) (σ : MS) : Option (Int32 × MS) :=
  if (16 : Int32) ≤ x6 then
    mm_drop_b94 x1 x2 x4 x5 σ
  else
    if x5 = (0 : Int32) then
      k53 x1 x2 x4 (0 : Int32) (x6 + (1 : Int32)) σ
    else
      mi_gd (((16 : Int32) * x4) + x6 < 0 ∨ 1024 ≤ (((16 : Int32) * x4) + x6).toNatClampNeg) <|
      if ((gm_w σ) (((16 : Int32) * x4) + x6).toNatClampNeg) = (0 : Int32) then
        k53 x1 x2 x4 (1 : Int32) (x6 + (1 : Int32)) σ
      else
        k53 x1 x2 x4 (0 : Int32) (x6 + (1 : Int32)) σ
def mm_drop_l53 : Nat → Int32 → Int32 → Int32 → Int32 → Int32 → MS → Option (Int32 × MS)
  | 0, _, _, _, _, _, _ => none
  | n + 1, a0, a1, a2, a3, a4, a5 => mm_drop_b53 (mm_drop_l53 n) a0 a1 a2 a3 a4 a5
def mm_drop (σ : MS) (x1 : Int32) (x2 : Int32) : Option (Int32 × MS) :=
  mi_cp (mm_frameOf σ x1 x2) fun r1 =>
  if (0 : Int32) ≤ r1 then
    mi_cp (mm_rootEntry σ x1 x2) fun r2 =>
    mi_gd (r2 < 0 ∨ 1024 ≤ r2.toNatClampNeg) <|
    mi_gd (r1 < 0 ∨ 64 ≤ r1.toNatClampNeg) <|
    mi_wr (sm_o σ (upd (gm_o σ) r1.toNatClampNeg (0 : Int32))) fun σ3 =>
    mi_cp (mm_entry σ3 x1 x2) fun r4 =>
    mi_gd (r4 < 0 ∨ 1024 ≤ r4.toNatClampNeg) <|
    mi_wr (sm_w σ3 (upd (gm_w σ3) r4.toNatClampNeg (0 : Int32))) fun σ5 =>
    mm_drop_l53 FU x1 x2 (((gm_w σ) r2.toNatClampNeg) - (1 : Int32)) (1 : Int32) (0 : Int32) σ5
  else
    some ((0 : Int32), σ)
def mm_destroy_b61 (x1 : Int32) (x2 : Int32) (σ : MS) : Option (Int32 × MS) :=
  mi_gd (x1 < 0 ∨ 4 ≤ x1.toNatClampNeg) <|
  mi_gd (((gm_ro σ) x1.toNatClampNeg) - (1 : Int32) < 0 ∨ 64 ≤ (((gm_ro σ) x1.toNatClampNeg) - (1 : Int32)).toNatClampNeg) <|
  mi_wr (sm_o σ (upd (gm_o σ) (((gm_ro σ) x1.toNatClampNeg) - (1 : Int32)).toNatClampNeg (0 : Int32))) fun σ4 =>
  mi_gd (x1 < 0 ∨ 4 ≤ x1.toNatClampNeg) <|
  mi_wr (sm_ro σ4 (upd (gm_ro σ4) x1.toNatClampNeg (0 : Int32))) fun σ5 =>
  some (x2, σ5)
def mm_destroy_b26 (k26 : Int32 → Int32 → Int32 → MS → Option (Int32 × MS)) (x1 : Int32) (x2 : Int32) (x3 : Int32) (σ : MS) : Option (Int32 × MS) :=
  if (256 : Int32) ≤ x3 then
    mm_destroy_b61 x1 x2 σ
  else
    mi_cw (mm_drop σ x1 x3) fun r7 σ6 =>
    mi_gd (((256 : Int32) * x1) + x3 < 0 ∨ 1024 ≤ (((256 : Int32) * x1) + x3).toNatClampNeg) <|
    mi_wr (sm_rg σ6 (upd (gm_rg σ6) (((256 : Int32) * x1) + x3).toNatClampNeg (vp_nar .boolean (0 : Int32)))) fun σ8 =>
    k26 x1 (x2 + r7) (x3 + (1 : Int32)) σ8
def mm_destroy_l26 : Nat → Int32 → Int32 → Int32 → MS → Option (Int32 × MS)
  | 0, _, _, _, _ => none
  | n + 1, a0, a1, a2, a3 => mm_destroy_b26 (mm_destroy_l26 n) a0 a1 a2 a3
def mm_destroy_b14 (x1 : Int32) (y1 : Int32) (σ : MS) : Option (Int32 × MS) :=
  mi_cw (mm_throwsBy σ y1) fun r3 σ2 =>
  if r3 = (0 : Int32) then
    mm_destroy_l26 FU x1 (1 : Int32) (0 : Int32) σ2
  else
    some ((0 : Int32), σ2)
def mm_destroy (σ : MS) (x1 : Int32) : Option (Int32 × MS) :=
  mi_cp (mm_isSpace σ x1) fun r1 =>
  if r1 = (0 : Int32) then
    mm_destroy_b14 x1 (1 : Int32) σ
  else
    mm_destroy_b14 x1 (0 : Int32) σ
def mm_isRow (x0 : Int32) (x1 : Int32) : Option (Int32) :=
  mi_cp (mm_in x1 (1 : Int32) (64 : Int32)) fun r1 =>
  if r1 = (0 : Int32) then
    some (0 : Int32)
  else
    mi_cp (mm_in x0 (0 : Int32) ((256 : Int32) - x1)) fun r2 =>
    if r2 = (0 : Int32) then
      some (0 : Int32)
    else
      some (1 : Int32)
def mm_mmap_b89 (k89 : Int32 → Int32 → Int32 → Int32 → MS → Option (MS)) (x1 : Int32) (x2 : Int32) (x3 : Int32) (x5 : Int32) (σ : MS) : Option (MS) :=
  if (x2 + x3) ≤ x5 then
    some σ
  else
    mi_gd (((256 : Int32) * x1) + x5 < 0 ∨ 1024 ≤ (((256 : Int32) * x1) + x5).toNatClampNeg) <|
    mi_wr (sm_rg σ (upd (gm_rg σ) (((256 : Int32) * x1) + x5).toNatClampNeg (vp_nar .boolean (1 : Int32)))) fun σ4 =>
    k89 x1 x2 x3 (x5 + (1 : Int32)) σ4
def mm_mmap_l89 : Nat → Int32 → Int32 → Int32 → Int32 → MS → Option (MS)
  | 0, _, _, _, _, _ => none
  | n + 1, a0, a1, a2, a3, a4 => mm_mmap_b89 (mm_mmap_l89 n) a0 a1 a2 a3 a4
def mm_mmap_b79 (x1 : Int32) (x2 : Int32) (x3 : Int32) (y1 : Int32) (σ : MS) : Option (MS) :=
  mi_cw (mm_throwsBy σ y1) fun r3 σ2 =>
  if r3 = (0 : Int32) then
    mm_mmap_l89 FU x1 x2 x3 x2 σ2
  else
    some σ2
def mm_mmap_b68 (x1 : Int32) (x2 : Int32) (x3 : Int32) (x4 : Int32) (σ : MS) : Option (MS) :=
  if x4 = (0 : Int32) then
    mm_mmap_b79 x1 x2 x3 (1 : Int32) σ
  else
    mm_mmap_b79 x1 x2 x3 (0 : Int32) σ
def mm_mmap_b26 (k26 : Int32 → Int32 → Int32 → Int32 → Int32 → MS → Option (MS)) (x1 : Int32) (x2 : Int32) (x3 : Int32) (x4 : Int32) (x5 : Int32) (σ : MS) : Option (MS) :=
  if x4 = (0 : Int32) then
    mm_mmap_b68 x1 x2 x3 x4 σ
  else
    if (x2 + x3) ≤ x5 then
      mm_mmap_b68 x1 x2 x3 x4 σ
    else
      mi_gd (((256 : Int32) * x1) + x5 < 0 ∨ 1024 ≤ (((256 : Int32) * x1) + x5).toNatClampNeg) <|
      if ((gm_rg σ) (((256 : Int32) * x1) + x5).toNatClampNeg) = (0 : Int32) then
        k26 x1 x2 x3 (1 : Int32) (x5 + (1 : Int32)) σ
      else
        k26 x1 x2 x3 (0 : Int32) (x5 + (1 : Int32)) σ
def mm_mmap_l26 : Nat → Int32 → Int32 → Int32 → Int32 → Int32 → MS → Option (MS)
  | 0, _, _, _, _, _, _ => none
  | n + 1, a0, a1, a2, a3, a4, a5 => mm_mmap_b26 (mm_mmap_l26 n) a0 a1 a2 a3 a4 a5
def mm_mmap (σ : MS) (x1 : Int32) (x2 : Int32) (x3 : Int32) : Option (MS) :=
  mi_cp (mm_isSpace σ x1) fun r1 =>
  if r1 = (0 : Int32) then
    mm_mmap_l26 FU x1 x2 x3 (0 : Int32) x2 σ
  else
    mi_cp (mm_isRow x2 x3) fun r5 =>
    if r5 = (0 : Int32) then
      mm_mmap_l26 FU x1 x2 x3 (0 : Int32) x2 σ
    else
      mm_mmap_l26 FU x1 x2 x3 (1 : Int32) x2 σ
def mm_munmap_b63 (k36 : Int32 → Int32 → Int32 → Int32 → Int32 → MS → Option (Int32 × MS)) (x1 : Int32) (x2 : Int32) (x3 : Int32) (x5 : Int32) (y0 : Int32) (σ : MS) : Option (Int32 × MS) :=
  mi_gd (((256 : Int32) * x1) + x5 < 0 ∨ 1024 ≤ (((256 : Int32) * x1) + x5).toNatClampNeg) <|
  mi_wr (sm_rg σ (upd (gm_rg σ) (((256 : Int32) * x1) + x5).toNatClampNeg (vp_nar .boolean (0 : Int32)))) fun σ6 =>
  k36 x1 x2 x3 y0 (x5 + (1 : Int32)) σ6
def mm_munmap_b36 (k36 : Int32 → Int32 → Int32 → Int32 → Int32 → MS → Option (Int32 × MS)) (x1 : Int32) (x2 : Int32) (x3 : Int32) (x4 : Int32) (x5 : Int32) (σ : MS) : Option (Int32 × MS) :=
  if (x2 + x3) ≤ x5 then
    some (x4, σ)
  else
    mi_cw (mm_drop σ x1 x5) fun r5 σ4 =>
    if r5 ≤ (0 : Int32) then
      mm_munmap_b63 k36 x1 x2 x3 x5 x4 σ4
    else
      mm_munmap_b63 k36 x1 x2 x3 x5 (x4 + (1 : Int32)) σ4
def mm_munmap_l36 : Nat → Int32 → Int32 → Int32 → Int32 → Int32 → MS → Option (Int32 × MS)
  | 0, _, _, _, _, _, _ => none
  | n + 1, a0, a1, a2, a3, a4, a5 => mm_munmap_b36 (mm_munmap_l36 n) a0 a1 a2 a3 a4 a5
def mm_munmap_b22 (x1 : Int32) (x2 : Int32) (x3 : Int32) (y1 : Int32) (σ : MS) : Option (Int32 × MS) :=
  mi_cw (mm_throwsBy σ y1) fun r3 σ2 =>
  if r3 = (0 : Int32) then
    mm_munmap_l36 FU x1 x2 x3 (0 : Int32) x2 σ2
  else
    some ((0 : Int32), σ2)
def mm_munmap_b21 (x1 : Int32) (x2 : Int32) (x3 : Int32) (σ : MS) : Option (Int32 × MS) :=
  mm_munmap_b22 x1 x2 x3 (1 : Int32) σ
def mm_munmap (σ : MS) (x1 : Int32) (x2 : Int32) (x3 : Int32) : Option (Int32 × MS) :=
  mi_cp (mm_isSpace σ x1) fun r1 =>
  if r1 = (0 : Int32) then
    mm_munmap_b21 x1 x2 x3 σ
  else
    mi_cp (mm_isRow x2 x3) fun r7 =>
    if r7 = (0 : Int32) then
      mm_munmap_b21 x1 x2 x3 σ
    else
      mm_munmap_b22 x1 x2 x3 (0 : Int32) σ
def mm_wrong_b128 (y0 : Int32) (σ : MS) : Option (Int32) :=
  mi_cp (mm_countFree σ) fun r5 =>
  if y0 ≤ r5 then
    some (0 : Int32)
  else
    some (3 : Int32)
def mm_wrong (σ : MS) (x1 : Int32) (x2 : Int32) : Option (Int32) :=
  if x1 = (-1 : Int32) then
    mi_cp (mm_isObject σ x2) fun r7 =>
    if r7 = (0 : Int32) then
      some (2 : Int32)
    else
      some (0 : Int32)
  else
    if x1 = (-2 : Int32) then
      mi_cp (mm_in x2 (0 : Int32) (1023 : Int32)) fun r6 =>
      if r6 = (0 : Int32) then
        some (2 : Int32)
      else
        mi_gd (x2 / (16 : Int32) < 0 ∨ 64 ≤ (x2 / (16 : Int32)).toNatClampNeg) <|
        if ((gm_en σ) (x2 / (16 : Int32)).toNatClampNeg) ≤ (0 : Int32) then
          some (2 : Int32)
        else
          some (0 : Int32)
    else
      mi_cp (mm_isSpace σ x1) fun r1 =>
      if r1 = (0 : Int32) then
        some (1 : Int32)
      else
        mi_cp (mm_in x2 (0 : Int32) (4095 : Int32)) fun r2 =>
        if r2 = (0 : Int32) then
          some (2 : Int32)
        else
          mi_gd (((256 : Int32) * x1) + (x2 / (16 : Int32)) < 0 ∨ 1024 ≤ (((256 : Int32) * x1) + (x2 / (16 : Int32))).toNatClampNeg) <|
          if ((gm_rg σ) (((256 : Int32) * x1) + (x2 / (16 : Int32))).toNatClampNeg) = (0 : Int32) then
            some (2 : Int32)
          else
            mi_cp (mm_frameOf σ x1 (x2 / (16 : Int32))) fun r3 =>
            if r3 < (0 : Int32) then
              mi_cp (mm_hasTable σ x1 (x2 / (16 : Int32))) fun r4 =>
              if r4 = (0 : Int32) then
                mm_wrong_b128 (2 : Int32) σ
              else
                mm_wrong_b128 (1 : Int32) σ
            else
              mm_wrong_b128 (0 : Int32) σ
def mm_placeOf_b105 (x1 : Int32) (x2 : Int32) (x3 : Int32) (σ : MS) : Option (Int32 × MS) :=
  mi_cp (mm_frameOf σ x1 x3) fun r3 =>
  some (((16 : Int32) * r3) + (x2 - x2 / (16 : Int32) * (16 : Int32)), σ)
def mm_placeOf_b69 (x1 : Int32) (x2 : Int32) (x3 : Int32) (σ : MS) : Option (Int32 × MS) :=
  mi_cp (mm_entry σ x1 x3) fun r2 =>
  mi_gd (r2 < 0 ∨ 1024 ≤ r2.toNatClampNeg) <|
  if ((gm_w σ) r2.toNatClampNeg) = (0 : Int32) then
    mi_cw (mm_give σ (4 : Int32)) fun r5 σ4 =>
    mi_cp (mm_entry σ4 x1 x3) fun r6 =>
    mi_gd (r6 < 0 ∨ 1024 ≤ r6.toNatClampNeg) <|
    mi_wr (sm_w σ4 (upd (gm_w σ4) r6.toNatClampNeg ((1 : Int32) + r5))) fun σ7 =>
    mi_cp (mm_frameOf σ7 x1 x3) fun r8 =>
    some (((16 : Int32) * r8) + (x2 - x2 / (16 : Int32) * (16 : Int32)), σ7)
  else
    mm_placeOf_b105 x1 x2 x3 σ
def mm_placeOf (σ : MS) (x1 : Int32) (x2 : Int32) : Option (Int32 × MS) :=
  if x1 = (-1 : Int32) then
    some (x2, σ)
  else
    if x1 = (-2 : Int32) then
      mi_gd (x2 / (16 : Int32) < 0 ∨ 64 ≤ (x2 / (16 : Int32)).toNatClampNeg) <|
      some (((16 : Int32) * (((gm_en σ) (x2 / (16 : Int32)).toNatClampNeg) - (1 : Int32))) + (x2 - x2 / (16 : Int32) * (16 : Int32)), σ)
    else
      mi_cp (mm_hasTable σ x1 (x2 / (16 : Int32))) fun r1 =>
      if r1 = (0 : Int32) then
        mi_cw (mm_give σ (1 : Int32)) fun r10 σ9 =>
        mi_cp (mm_rootEntry σ9 x1 (x2 / (16 : Int32))) fun r11 =>
        mi_gd (r11 < 0 ∨ 1024 ≤ r11.toNatClampNeg) <|
        mi_wr (sm_w σ9 (upd (gm_w σ9) r11.toNatClampNeg ((1 : Int32) + r10))) fun σ12 =>
        mi_cp (mm_entry σ12 x1 (x2 / (16 : Int32))) fun r13 =>
        mi_gd (r13 < 0 ∨ 1024 ≤ r13.toNatClampNeg) <|
        if ((gm_w σ12) r13.toNatClampNeg) = (0 : Int32) then
          mi_cw (mm_give σ12 (4 : Int32)) fun r15 σ14 =>
          mi_cp (mm_entry σ14 x1 (x2 / (16 : Int32))) fun r16 =>
          mi_gd (r16 < 0 ∨ 1024 ≤ r16.toNatClampNeg) <|
          mi_wr (sm_w σ14 (upd (gm_w σ14) r16.toNatClampNeg ((1 : Int32) + r15))) fun σ17 =>
          mi_cp (mm_frameOf σ17 x1 (x2 / (16 : Int32))) fun r18 =>
          some (((16 : Int32) * r18) + (x2 - x2 / (16 : Int32) * (16 : Int32)), σ17)
        else
          mm_placeOf_b105 x1 x2 (x2 / (16 : Int32)) σ12
      else
        mm_placeOf_b69 x1 x2 (x2 / (16 : Int32)) σ
def mm_load (σ : MS) (x1 : Int32) (x2 : Int32) : Option (Int32 × MS) :=
  mi_cp (mm_wrong σ x1 x2) fun r1 =>
  mi_cw (mm_throwsBy σ r1) fun r3 σ2 =>
  if r3 = (0 : Int32) then
    mi_cw (mm_placeOf σ2 x1 x2) fun r5 σ4 =>
    mi_gd (r5 < 0 ∨ 1024 ≤ r5.toNatClampNeg) <|
    some ((gm_w σ4) r5.toNatClampNeg, σ4)
  else
    some ((0 : Int32), σ2)
def mm_store (σ : MS) (x1 : Int32) (x2 : Int32) (x3 : Int32) : Option (MS) :=
  mi_cp (mm_wrong σ x1 x2) fun r1 =>
  mi_cw (mm_throwsBy σ r1) fun r3 σ2 =>
  if r3 = (0 : Int32) then
    mi_cw (mm_placeOf σ2 x1 x2) fun r5 σ4 =>
    mi_gd (r5 < 0 ∨ 1024 ≤ r5.toNatClampNeg) <|
    mi_wr (sm_w σ4 (upd (gm_w σ4) r5.toNatClampNeg x3)) fun σ6 =>
    some σ6
  else
    some σ2
def mm_isAble_b98 (x3 : Int32) (x4 : Int32) (x5 : Int32) (σ : MS) : Option (Int32) :=
  if x5 = (0 : Int32) then
    some (0 : Int32)
  else
    mi_cp (mm_countFree σ) fun r1 =>
    if (r1 - x4) < x3 then
      some (0 : Int32)
    else
      some (1 : Int32)
def mm_isAble_b70 (k11 : Int32 → Int32 → Int32 → Int32 → Int32 → Int32 → MS → Option (Int32)) (x1 : Int32) (x2 : Int32) (x4 : Int32) (x5 : Int32) (x6 : Int32) (y0 : Int32) (σ : MS) : Option (Int32) :=
  mi_gd (x6 < 0 ∨ 64 ≤ x6.toNatClampNeg) <|
  if ((gm_o σ) x6.toNatClampNeg) = (0 : Int32) then
    k11 x1 x2 y0 (x4 + (1 : Int32)) x5 (x6 + (1 : Int32)) σ
  else
    k11 x1 x2 y0 x4 x5 (x6 + (1 : Int32)) σ
def mm_isAble_b50 (k11 : Int32 → Int32 → Int32 → Int32 → Int32 → Int32 → MS → Option (Int32)) (x1 : Int32) (x2 : Int32) (x3 : Int32) (x4 : Int32) (x6 : Int32) (y0 : Int32) (σ : MS) : Option (Int32) :=
  mi_gd (x6 < 0 ∨ 64 ≤ x6.toNatClampNeg) <|
  if ((gm_o σ) x6.toNatClampNeg) = (4 : Int32) then
    mm_isAble_b70 k11 x1 x2 x4 y0 x6 (x3 + (1 : Int32)) σ
  else
    mm_isAble_b70 k11 x1 x2 x4 y0 x6 x3 σ
def mm_isAble_b49 (k11 : Int32 → Int32 → Int32 → Int32 → Int32 → Int32 → MS → Option (Int32)) (x1 : Int32) (x2 : Int32) (x3 : Int32) (x4 : Int32) (x6 : Int32) (σ : MS) : Option (Int32) :=
  mm_isAble_b50 k11 x1 x2 x3 x4 x6 (0 : Int32) σ
def mm_isAble_b11 (k11 : Int32 → Int32 → Int32 → Int32 → Int32 → Int32 → MS → Option (Int32)) (x1 : Int32) (x2 : Int32) (x3 : Int32) (x4 : Int32) (x5 : Int32) (x6 : Int32) (σ : MS) : Option (Int32) :=
  if (x1 + x2) ≤ x6 then
    mm_isAble_b98 x3 x4 x5 σ
  else
    if x5 = (0 : Int32) then
      mm_isAble_b49 k11 x1 x2 x3 x4 x6 σ
    else
      mi_gd (x6 < 0 ∨ 64 ≤ x6.toNatClampNeg) <|
      if ((gm_o σ) x6.toNatClampNeg) = (0 : Int32) then
        mm_isAble_b50 k11 x1 x2 x3 x4 x6 (1 : Int32) σ
      else
        mi_gd (x6 < 0 ∨ 64 ≤ x6.toNatClampNeg) <|
        if ((gm_o σ) x6.toNatClampNeg) = (4 : Int32) then
          mm_isAble_b50 k11 x1 x2 x3 x4 x6 (1 : Int32) σ
        else
          mm_isAble_b49 k11 x1 x2 x3 x4 x6 σ
def mm_isAble_l11 : Nat → Int32 → Int32 → Int32 → Int32 → Int32 → Int32 → MS → Option (Int32)
  | 0, _, _, _, _, _, _, _ => none
  | n + 1, a0, a1, a2, a3, a4, a5, a6 => mm_isAble_b11 (mm_isAble_l11 n) a0 a1 a2 a3 a4 a5 a6
def mm_isAble (σ : MS) (x1 : Int32) (x2 : Int32) : Option (Int32) :=
  mm_isAble_l11 FU x1 x2 (0 : Int32) (0 : Int32) (1 : Int32) x1 σ
def mm_rename_b10 (k2 : Int32 → Int32 → Int32 → MS → Option (MS)) (k10 : Int32 → Int32 → Int32 → Int32 → MS → Option (MS)) (x1 : Int32) (x2 : Int32) (x3 : Int32) (x4 : Int32) (σ : MS) : Option (MS) :=
  if (256 : Int32) ≤ x4 then
    k2 x1 x2 (x3 + (1 : Int32)) σ
  else
    mi_gd (x3 < 0 ∨ 4 ≤ x3.toNatClampNeg) <|
    if ((gm_ro σ) x3.toNatClampNeg) ≤ (0 : Int32) then
      k2 x1 x2 (x3 + (1 : Int32)) σ
    else
      mi_cp (mm_frameOf σ x3 x4) fun r1 =>
      if r1 = x1 then
        mi_cp (mm_entry σ x3 x4) fun r2 =>
        mi_gd (r2 < 0 ∨ 1024 ≤ r2.toNatClampNeg) <|
        mi_wr (sm_w σ (upd (gm_w σ) r2.toNatClampNeg ((1 : Int32) + x2))) fun σ3 =>
        k10 x1 x2 x3 (x4 + (1 : Int32)) σ3
      else
        k10 x1 x2 x3 (x4 + (1 : Int32)) σ
def mm_rename_l10 (k2 : Int32 → Int32 → Int32 → MS → Option (MS)) : Nat → Int32 → Int32 → Int32 → Int32 → MS → Option (MS)
  | 0, _, _, _, _, _ => none
  | n + 1, a0, a1, a2, a3, a4 => mm_rename_b10 k2 (mm_rename_l10 k2 n) a0 a1 a2 a3 a4
def mm_rename_b2 (k2 : Int32 → Int32 → Int32 → MS → Option (MS)) (x1 : Int32) (x2 : Int32) (x3 : Int32) (σ : MS) : Option (MS) :=
  if (4 : Int32) ≤ x3 then
    some σ
  else
    mm_rename_l10 k2 FU x1 x2 x3 (0 : Int32) σ
def mm_rename_l2 : Nat → Int32 → Int32 → Int32 → MS → Option (MS)
  | 0, _, _, _, _ => none
  | n + 1, a0, a1, a2, a3 => mm_rename_b2 (mm_rename_l2 n) a0 a1 a2 a3
def mm_rename (σ : MS) (x1 : Int32) (x2 : Int32) : Option (MS) :=
  mm_rename_l2 FU x1 x2 (0 : Int32) σ
def mm_moveOut_b85 (x1 : Int32) (x4 : Int32) (σ : MS) : Option (MS) :=
  mi_cv (mm_rename σ x1 x4) fun σ2 =>
  mi_wr (sm_mv σ2 ((gm_mv σ2) + (1 : Int32))) fun σ3 =>
  some σ3
def mm_moveOut_b47 (k47 : Int32 → Int32 → Int32 → MS → Option (MS)) (x1 : Int32) (x4 : Int32) (x5 : Int32) (σ : MS) : Option (MS) :=
  if (16 : Int32) ≤ x5 then
    mm_moveOut_b85 x1 x4 σ
  else
    mi_gd (((16 : Int32) * x1) + x5 < 0 ∨ 1024 ≤ (((16 : Int32) * x1) + x5).toNatClampNeg) <|
    mi_gd (((16 : Int32) * x4) + x5 < 0 ∨ 1024 ≤ (((16 : Int32) * x4) + x5).toNatClampNeg) <|
    mi_wr (sm_w σ (upd (gm_w σ) (((16 : Int32) * x4) + x5).toNatClampNeg ((gm_w σ) (((16 : Int32) * x1) + x5).toNatClampNeg))) fun σ4 =>
    k47 x1 x4 (x5 + (1 : Int32)) σ4
def mm_moveOut_l47 : Nat → Int32 → Int32 → Int32 → MS → Option (MS)
  | 0, _, _, _, _ => none
  | n + 1, a0, a1, a2, a3 => mm_moveOut_b47 (mm_moveOut_l47 n) a0 a1 a2 a3
def mm_moveOut_b36 (x1 : Int32) (x4 : Int32) (σ : MS) : Option (MS) :=
  mi_gd (x4 < 0 ∨ 64 ≤ x4.toNatClampNeg) <|
  mi_wr (sm_o σ (upd (gm_o σ) x4.toNatClampNeg (4 : Int32))) fun σ1 =>
  mm_moveOut_l47 FU x1 x4 (0 : Int32) σ1
def mm_moveOut_b3 (k3 : Int32 → Int32 → Int32 → Int32 → MS → Option (MS)) (x1 : Int32) (x2 : Int32) (x3 : Int32) (x4 : Int32) (σ : MS) : Option (MS) :=
  mi_gd (x4 < 0 ∨ 64 ≤ x4.toNatClampNeg) <|
  if ((gm_o σ) x4.toNatClampNeg) = (0 : Int32) then
    if x4 < x2 then
      mm_moveOut_b36 x1 x4 σ
    else
      if (x2 + x3) ≤ x4 then
        mm_moveOut_b36 x1 x4 σ
      else
        k3 x1 x2 x3 (x4 + (1 : Int32)) σ
  else
    k3 x1 x2 x3 (x4 + (1 : Int32)) σ
def mm_moveOut_l3 : Nat → Int32 → Int32 → Int32 → Int32 → MS → Option (MS)
  | 0, _, _, _, _, _ => none
  | n + 1, a0, a1, a2, a3, a4 => mm_moveOut_b3 (mm_moveOut_l3 n) a0 a1 a2 a3 a4
def mm_moveOut (σ : MS) (x1 : Int32) (x2 : Int32) (x3 : Int32) : Option (MS) :=
  mm_moveOut_l3 FU x1 x2 x3 (0 : Int32) σ
def mm_contig_b134 (x3 : Int32) (x4 : Int32) (σ : MS) : Option (Int32 × MS) :=
  mi_gd (x4 < 0 ∨ 64 ≤ x4.toNatClampNeg) <|
  mi_wr (sm_rl σ (upd (gm_rl σ) x4.toNatClampNeg x3)) fun σ4 =>
  some (x4, σ4)
def mm_contig_b121 (k92 : Int32 → Int32 → Int32 → MS → Option (Int32 × MS)) (x3 : Int32) (x4 : Int32) (x5 : Int32) (σ : MS) : Option (Int32 × MS) :=
  mi_cv (mm_own σ x5 (5 : Int32)) fun σ5 =>
  k92 x3 x4 (x5 + (1 : Int32)) σ5
def mm_contig_b92 (k92 : Int32 → Int32 → Int32 → MS → Option (Int32 × MS)) (x3 : Int32) (x4 : Int32) (x5 : Int32) (σ : MS) : Option (Int32 × MS) :=
  if (x4 + x3) ≤ x5 then
    mm_contig_b134 x3 x4 σ
  else
    mi_gd (x5 < 0 ∨ 64 ≤ x5.toNatClampNeg) <|
    if ((gm_o σ) x5.toNatClampNeg) = (4 : Int32) then
      mi_cv (mm_moveOut σ x5 x4 x3) fun σ6 =>
      mi_cv (mm_own σ6 x5 (5 : Int32)) fun σ7 =>
      k92 x3 x4 (x5 + (1 : Int32)) σ7
    else
      mm_contig_b121 k92 x3 x4 x5 σ
def mm_contig_l92 : Nat → Int32 → Int32 → Int32 → MS → Option (Int32 × MS)
  | 0, _, _, _, _ => none
  | n + 1, a0, a1, a2, a3 => mm_contig_b92 (mm_contig_l92 n) a0 a1 a2 a3
def mm_contig_b80 (x3 : Int32) (x4 : Int32) (y1 : Int32) (σ : MS) : Option (Int32 × MS) :=
  mi_cw (mm_throwsBy σ y1) fun r3 σ2 =>
  if r3 = (0 : Int32) then
    mm_contig_l92 FU x3 x4 x4 σ2
  else
    some ((0 : Int32), σ2)
def mm_contig_b61 (x2 : Int32) (x3 : Int32) (x4 : Int32) (σ : MS) : Option (Int32 × MS) :=
  if x2 = (0 : Int32) then
    mm_contig_b80 x3 x4 (1 : Int32) σ
  else
    if (0 : Int32) ≤ x4 then
      mm_contig_b80 x3 x4 (0 : Int32) σ
    else
      mm_contig_b80 x3 x4 (2 : Int32) σ
def mm_contig_b50 (k28 : Int32 → Int32 → Int32 → Int32 → MS → Option (Int32 × MS)) (x2 : Int32) (x3 : Int32) (x5 : Int32) (y0 : Int32) (σ : MS) : Option (Int32 × MS) :=
  k28 x2 x3 y0 (x5 - x3) σ
def mm_contig_b28 (k28 : Int32 → Int32 → Int32 → Int32 → MS → Option (Int32 × MS)) (x2 : Int32) (x3 : Int32) (x4 : Int32) (x5 : Int32) (σ : MS) : Option (Int32 × MS) :=
  if x5 < (0 : Int32) then
    mm_contig_b61 x2 x3 x4 σ
  else
    mi_cp (mm_isAble σ x5 x3) fun r8 =>
    if r8 = (0 : Int32) then
      mm_contig_b50 k28 x2 x3 x5 x4 σ
    else
      mm_contig_b50 k28 x2 x3 x5 x5 σ
def mm_contig_l28 : Nat → Int32 → Int32 → Int32 → Int32 → MS → Option (Int32 × MS)
  | 0, _, _, _, _, _ => none
  | n + 1, a0, a1, a2, a3, a4 => mm_contig_b28 (mm_contig_l28 n) a0 a1 a2 a3 a4
def mm_contig_b18 (x2 : Int32) (y0 : Int32) (σ : MS) : Option (Int32 × MS) :=
  mm_contig_l28 FU x2 y0 (-1 : Int32) ((64 : Int32) - y0) σ
def mm_contig (σ : MS) (x1 : Int32) : Option (Int32 × MS) :=
  mi_cp (mm_in x1 (0 : Int32) (5 : Int32)) fun r1 =>
  if r1 = (0 : Int32) then
    mm_contig_b18 r1 (1 : Int32) σ
  else
    mm_contig_b18 r1 ((1 : Int32) <<< (x1 &&& 31)) σ
def mm_release_b49 (k49 : Int32 → Int32 → Int32 → MS → Option (Int32 × MS)) (x1 : Int32) (x2 : Int32) (x3 : Int32) (σ : MS) : Option (Int32 × MS) :=
  if (x1 + x2) ≤ x3 then
    some (x2, σ)
  else
    mi_gd (x3 < 0 ∨ 64 ≤ x3.toNatClampNeg) <|
    mi_wr (sm_o σ (upd (gm_o σ) x3.toNatClampNeg (0 : Int32))) fun σ5 =>
    k49 x1 x2 (x3 + (1 : Int32)) σ5
def mm_release_l49 : Nat → Int32 → Int32 → Int32 → MS → Option (Int32 × MS)
  | 0, _, _, _, _ => none
  | n + 1, a0, a1, a2, a3 => mm_release_b49 (mm_release_l49 n) a0 a1 a2 a3
def mm_release_b25 (x1 : Int32) (y1 : Int32) (σ : MS) : Option (Int32 × MS) :=
  mi_cw (mm_throwsBy σ y1) fun r3 σ2 =>
  if r3 = (0 : Int32) then
    mi_gd (x1 < 0 ∨ 64 ≤ x1.toNatClampNeg) <|
    mi_gd (x1 < 0 ∨ 64 ≤ x1.toNatClampNeg) <|
    mi_wr (sm_rl σ2 (upd (gm_rl σ2) x1.toNatClampNeg (0 : Int32))) fun σ4 =>
    mm_release_l49 FU x1 ((gm_rl σ2) x1.toNatClampNeg) x1 σ4
  else
    some ((0 : Int32), σ2)
def mm_release_b24 (x1 : Int32) (σ : MS) : Option (Int32 × MS) :=
  mm_release_b25 x1 (1 : Int32) σ
def mm_release (σ : MS) (x1 : Int32) : Option (Int32 × MS) :=
  mi_cp (mm_in x1 (0 : Int32) (63 : Int32)) fun r1 =>
  if r1 = (0 : Int32) then
    mm_release_b24 x1 σ
  else
    mi_gd (x1 < 0 ∨ 64 ≤ x1.toNatClampNeg) <|
    if ((gm_rl σ) x1.toNatClampNeg) ≤ (0 : Int32) then
      mm_release_b24 x1 σ
    else
      mm_release_b25 x1 (0 : Int32) σ
def mm_owner (σ : MS) (x1 : Int32) : Option (Int32 × MS) :=
  mi_wr (sm_th σ (0 : Int32)) fun σ1 =>
  mi_cp (mm_in x1 (0 : Int32) (63 : Int32)) fun r2 =>
  if r2 = (0 : Int32) then
    some ((-1 : Int32), σ1)
  else
    mi_gd (x1 < 0 ∨ 64 ≤ x1.toNatClampNeg) <|
    some ((gm_o σ1) x1.toNatClampNeg, σ1)
def mm_frame (σ : MS) (x1 : Int32) (x2 : Int32) : Option (Int32 × MS) :=
  mi_wr (sm_th σ (0 : Int32)) fun σ1 =>
  if x1 = (-2 : Int32) then
    mi_cp (mm_in x2 (0 : Int32) (63 : Int32)) fun r5 =>
    if r5 = (0 : Int32) then
      some ((-1 : Int32), σ1)
    else
      mi_gd (x2 < 0 ∨ 64 ≤ x2.toNatClampNeg) <|
      some (((gm_en σ1) x2.toNatClampNeg) - (1 : Int32), σ1)
  else
    mi_cp (mm_isSpace σ1 x1) fun r2 =>
    if r2 = (0 : Int32) then
      some ((-1 : Int32), σ1)
    else
      mi_cp (mm_in x2 (0 : Int32) (255 : Int32)) fun r3 =>
      if r3 = (0 : Int32) then
        some ((-1 : Int32), σ1)
      else
        mi_cp (mm_frameOf σ1 x1 x2) fun r4 =>
        some (r4, σ1)
def mm_word (σ : MS) (x1 : Int32) (x2 : Int32) : Option (Int32 × MS) :=
  mi_wr (sm_th σ (0 : Int32)) fun σ1 =>
  mi_cp (mm_in x1 (0 : Int32) (63 : Int32)) fun r2 =>
  if r2 = (0 : Int32) then
    some ((0 : Int32), σ1)
  else
    mi_cp (mm_in x2 (0 : Int32) (15 : Int32)) fun r3 =>
    if r3 = (0 : Int32) then
      some ((0 : Int32), σ1)
    else
      mi_gd (((16 : Int32) * x1) + x2 < 0 ∨ 1024 ≤ (((16 : Int32) * x1) + x2).toNatClampNeg) <|
      some ((gm_w σ1) (((16 : Int32) * x1) + x2).toNatClampNeg, σ1)
def mm_blocks_b63 (k29 : Int32 → Int32 → Int32 → Int32 → MS → Option (Int32 × MS)) (x1 : Int32) (x3 : Int32) (x4 : Int32) (y0 : Int32) (σ : MS) : Option (Int32 × MS) :=
  k29 x1 y0 x3 (x4 + x3) σ
def mm_blocks_b62 (k29 : Int32 → Int32 → Int32 → Int32 → MS → Option (Int32 × MS)) (x1 : Int32) (x2 : Int32) (x3 : Int32) (x4 : Int32) (σ : MS) : Option (Int32 × MS) :=
  mm_blocks_b63 k29 x1 x3 x4 x2 σ
def mm_blocks_b29 (k29 : Int32 → Int32 → Int32 → Int32 → MS → Option (Int32 × MS)) (x1 : Int32) (x2 : Int32) (x3 : Int32) (x4 : Int32) (σ : MS) : Option (Int32 × MS) :=
  if (64 : Int32) ≤ x4 then
    some (x2, σ)
  else
    mi_cp (mm_isBlock σ x4 x3) fun r3 =>
    if r3 = (0 : Int32) then
      mm_blocks_b62 k29 x1 x2 x3 x4 σ
    else
      mi_cp (mm_in x1 (0 : Int32) (6 : Int32)) fun r4 =>
      if r4 = (0 : Int32) then
        mm_blocks_b62 k29 x1 x2 x3 x4 σ
      else
        mm_blocks_b63 k29 x1 x3 x4 (x2 + (1 : Int32)) σ
def mm_blocks_l29 : Nat → Int32 → Int32 → Int32 → Int32 → MS → Option (Int32 × MS)
  | 0, _, _, _, _, _ => none
  | n + 1, a0, a1, a2, a3, a4 => mm_blocks_b29 (mm_blocks_l29 n) a0 a1 a2 a3 a4
def mm_blocks (σ : MS) (x1 : Int32) : Option (Int32 × MS) :=
  mi_wr (sm_th σ (0 : Int32)) fun σ1 =>
  mi_cp (mm_in x1 (0 : Int32) (6 : Int32)) fun r2 =>
  if r2 = (0 : Int32) then
    mm_blocks_l29 FU x1 (0 : Int32) (64 : Int32) (0 : Int32) σ1
  else
    mm_blocks_l29 FU x1 (0 : Int32) ((1 : Int32) <<< (x1 &&& 31)) (0 : Int32) σ1
def mm_free (σ : MS) : Option (Int32 × MS) :=
  mi_wr (sm_th σ (0 : Int32)) fun σ1 =>
  mi_cp (mm_countFree σ1) fun r2 =>
  some (r2, σ1)
def mm_moved (σ : MS) : Option (Int32 × MS) :=
  mi_wr (sm_th σ (0 : Int32)) fun σ1 =>
  some ((gm_mv σ1), σ1)
