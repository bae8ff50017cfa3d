/-! ===== Long.bitCount's mirror ===== -/
def b1 (x : Int64) : Int64 := x - (((x.toUInt64 >>> ((1 : Int32).toInt64.toUInt64 &&& Int64.toUInt64 63)).toInt64) &&& (6148914691236517205 : Int64))
def b2 (x : Int64) : Int64 := (x &&& (3689348814741910323 : Int64)) + (((x.toUInt64 >>> ((2 : Int32).toInt64.toUInt64 &&& Int64.toUInt64 63)).toInt64) &&& (3689348814741910323 : Int64))
def b3 (x : Int64) : Int64 := (x + ((x.toUInt64 >>> ((4 : Int32).toInt64.toUInt64 &&& Int64.toUInt64 63)).toInt64)) &&& (1085102592571150095 : Int64)
def b4 (x : Int64) : Int64 := x + ((x.toUInt64 >>> ((8 : Int32).toInt64.toUInt64 &&& Int64.toUInt64 63)).toInt64)
def b5 (x : Int64) : Int64 := x + ((x.toUInt64 >>> ((16 : Int32).toInt64.toUInt64 &&& Int64.toUInt64 63)).toInt64)
def b6 (x : Int64) : Int64 := x + ((x.toUInt64 >>> ((32 : Int32).toInt64.toUInt64 &&& Int64.toUInt64 63)).toInt64)
theorem bc_eq (x : Int64) : mc_bitCount x = some ((b6 (b5 (b4 (b3 (b2 (b1 x)))))).toInt32 &&& (127 : Int32)) := rfl
theorem b1n (x : Int64) : sN (b1 x) = s1 8 (sN x) := by
  unfold b1 s1
  have e1 : sN (x.toUInt64 >>> ((1 : Int32).toInt64.toUInt64 &&& Int64.toUInt64 63)).toInt64 = sN x / 2 ^ 1 := sN_shr x (by decide)
  have e2 : sN (6148914691236517205 : Int64) = mk_ 85 8 := by decide
  have e3 : sN (((x.toUInt64 >>> ((1 : Int32).toInt64.toUInt64 &&& Int64.toUInt64 63)).toInt64) &&& (6148914691236517205 : Int64)) = (sN x / 2 &&& mk_ 85 8) := by
    rw [sN_and, e1, e2]
  have h : (sN x / 2 &&& mk_ 85 8) ≤ sN x / 2 := Nat.and_le_left
  rw [sN_sub (by rw [e3]; omega), e3]
theorem b2n (x : Int64) : sN (b2 x) = s2 8 (sN x) := by
  unfold b2 s2
  have e1 : sN (x.toUInt64 >>> ((2 : Int32).toInt64.toUInt64 &&& Int64.toUInt64 63)).toInt64 = sN x / 2 ^ 2 := sN_shr x (by decide)
  have e2 : sN (3689348814741910323 : Int64) = mk_ 51 8 := by decide
  have e3 : sN (((x.toUInt64 >>> ((2 : Int32).toInt64.toUInt64 &&& Int64.toUInt64 63)).toInt64) &&& (3689348814741910323 : Int64)) = (sN x / 4 &&& mk_ 51 8) := by
    rw [sN_and, e1, e2]
  have e4 : sN (x &&& (3689348814741910323 : Int64)) = (sN x &&& mk_ 51 8) := by rw [sN_and, e2]
  have h1 : (sN x &&& mk_ 51 8) ≤ mk_ 51 8 := Nat.and_le_right
  have h2 : (sN x / 4 &&& mk_ 51 8) ≤ mk_ 51 8 := Nat.and_le_right
  have h3 : mk_ 51 8 + mk_ 51 8 < 2 ^ 64 := by decide
  rw [sN_add (by rw [e3, e4]; omega), e3, e4]
theorem b3n (x : Int64) (h : sN x < 2 ^ 63) : sN (b3 x) = s3 8 (sN x) := by
  unfold b3 s3
  have e1 : sN (x.toUInt64 >>> ((4 : Int32).toInt64.toUInt64 &&& Int64.toUInt64 63)).toInt64 = sN x / 2 ^ 4 := sN_shr x (by decide)
  have e2 : sN (1085102592571150095 : Int64) = mk_ 15 8 := by decide
  rw [sN_and, e2, sN_add (by rw [e1]; omega), e1]
theorem b4n (x : Int64) (h : sN x < 2 ^ 63) : sN (b4 x) = sN x + sN x / 2 ^ 8 := by
  unfold b4
  have e1 : sN (x.toUInt64 >>> ((8 : Int32).toInt64.toUInt64 &&& Int64.toUInt64 63)).toInt64 = sN x / 2 ^ 8 := sN_shr x (by decide)
  rw [sN_add (by rw [e1]; omega), e1]
theorem b5n (x : Int64) (h : sN x < 2 ^ 63) : sN (b5 x) = sN x + sN x / 2 ^ 16 := by
  unfold b5
  have e1 : sN (x.toUInt64 >>> ((16 : Int32).toInt64.toUInt64 &&& Int64.toUInt64 63)).toInt64 = sN x / 2 ^ 16 := sN_shr x (by decide)
  rw [sN_add (by rw [e1]; omega), e1]
theorem b6n (x : Int64) (h : sN x < 2 ^ 63) : sN (b6 x) = sN x + sN x / 2 ^ 32 := by
  unfold b6
  have e1 : sN (x.toUInt64 >>> ((32 : Int32).toInt64.toUInt64 &&& Int64.toUInt64 63)).toInt64 = sN x / 2 ^ 32 := sN_shr x (by decide)
  rw [sN_add (by rw [e1]; omega), e1]
theorem sN_i (x : Int64) : x.toInt32 = nI (sN x) := by
  have e : x = lN (sN x) := by
    apply Int64.toBitVec_inj.mp
    show x.toBitVec = BitVec.ofNat 64 x.toBitVec.toNat
    simp
  conv => lhs; rw [e]
  exact lN_i _
theorem na_and (a b : Nat) : nI a &&& nI b = nI (a &&& b) := by
  apply Int32.toBitVec_inj.1
  show BitVec.ofNat 32 a &&& BitVec.ofNat 32 b = BitVec.ofNat 32 (a &&& b)
  apply BitVec.eq_of_getLsbD_eq
  intro i hi
  simp [hi]
theorem s2_lt (z : Nat) : s2 8 z < 2 ^ 63 := by
  unfold s2
  have h1 : (z &&& mk_ 51 8) ≤ mk_ 51 8 := Nat.and_le_right
  have h2 : (z / 4 &&& mk_ 51 8) ≤ mk_ 51 8 := Nat.and_le_right
  have h3 : mk_ 51 8 + mk_ 51 8 < 2 ^ 63 := by decide
  omega
theorem dv1 {a X : Nat} (h : a < 256) : (a + 256 * X) / 2 ^ 8 = X := by omega
theorem dv2 {a b X : Nat} (h : a < 256) (hb : b < 256) : (a + 256 * (b + 256 * X)) / 2 ^ 16 = X := by omega
theorem dv4 {a b c d X : Nat} (h : a < 256) (hb : b < 256) (hc : c < 256) (hd : d < 256) : (a + 256 * (b + 256 * (c + 256 * (d + 256 * X)))) / 2 ^ 32 = X := by omega
theorem li1 (a b c X : Nat) : (a + 256 * (b + 256 * (c + 256 * X))) + (b + 256 * (c + 256 * X)) = (a + b) + 256 * ((b + c) + 256 * ((c + 256 * X) + X)) := by omega
theorem li2 (c d e X : Nat) : (c + 256 * (d + 256 * (e + 256 * X))) + (d + 256 * (e + 256 * X)) = (c + d) + 256 * ((d + e) + 256 * ((e + 256 * X) + X)) := by omega
theorem li3 (p q r s Y : Nat) : (p + 256 * (q + 256 * (r + 256 * (s + 256 * Y)))) + (r + 256 * (s + 256 * Y)) = (p + r) + 256 * ((q + s) + 256 * ((r + 256 * (s + 256 * Y)) + Y)) := by omega
theorem li4 (r s t u Y : Nat) : (r + 256 * (s + 256 * (t + 256 * (u + 256 * Y)))) + (t + 256 * (u + 256 * Y)) = (r + t) + 256 * ((s + u) + 256 * ((t + 256 * (u + 256 * Y)) + Y)) := by omega
theorem md1 {n K : Nat} (h : n < 128) : (n + 256 * K) % 128 = n := by omega
/-- the sum of eight small digits, by halves -/
theorem bfin {a b c d e f g h : Nat} (ha : a ≤ 8) (hb : b ≤ 8) (hc : c ≤ 8) (hd : d ≤ 8) (he : e ≤ 8) (hf : f ≤ 8) (hg : g ≤ 8) (hh : h ≤ 8) {A B C D : Nat}
    (hA : A = a + 256 * (b + 256 * (c + 256 * (d + 256 * (e + 256 * (f + 256 * (g + 256 * h))))))) (hB : B = A + A / 2 ^ 8) (hC : C = B + B / 2 ^ 16) (hD : D = C + C / 2 ^ 32) :
    A < 2 ^ 62 ∧ B < 2 ^ 62 ∧ C < 2 ^ 62 ∧ D % 128 = a + b + c + d + e + f + g + h := by
  have kA : A < 2 ^ 62 := by clear hB hC hD; omega
  obtain ⟨X3, hX3⟩ : ∃ X, X = d + 256 * (e + 256 * (f + 256 * (g + 256 * h))) := ⟨_, rfl⟩
  have z1 : A / 2 ^ 8 = b + 256 * (c + 256 * X3) := by rw [hA, hX3]; exact dv1 (Nat.lt_of_le_of_lt ha (by decide))
  have eB : B = (a + b) + 256 * ((b + c) + 256 * ((c + 256 * X3) + X3)) := by rw [hB, z1, hA, ← hX3]; exact li1 a b c X3
  have kab : a + b < 256 := Nat.lt_of_le_of_lt (Nat.add_le_add ha hb) (by decide)
  have kbc : b + c < 256 := Nat.lt_of_le_of_lt (Nat.add_le_add hb hc) (by decide)
  have z2 : B / 2 ^ 16 = (c + 256 * X3) + X3 := by rw [eB]; exact dv2 kab kbc
  obtain ⟨X5, hX5⟩ : ∃ X, X = f + 256 * (g + 256 * h) := ⟨_, rfl⟩
  obtain ⟨Y4, hY4⟩ : ∃ Y, Y = (e + 256 * X5) + X5 := ⟨_, rfl⟩
  have eY2 : (c + 256 * X3) + X3 = (c + d) + 256 * ((d + e) + 256 * Y4) := by rw [hX3, ← hX5, hY4]; exact li2 c d e X5
  have eC : C = (a + b + (c + d)) + 256 * ((b + c + (d + e)) + 256 * (((c + d) + 256 * ((d + e) + 256 * Y4)) + Y4)) := by
    rw [hC, z2, eB, eY2]; exact li3 (a + b) (b + c) (c + d) (d + e) Y4
  have eY4 : Y4 = (e + f) + 256 * ((f + g) + 256 * ((g + 256 * h) + h)) := by rw [hY4, hX5]; exact li2 e f g h
  obtain ⟨Y6, hY6⟩ : ∃ Y, Y = (g + 256 * h) + h := ⟨_, rfl⟩
  rw [← hY6] at eY4
  have eS : ((c + d) + 256 * ((d + e) + 256 * Y4)) + Y4 = (c + d + (e + f)) + 256 * ((d + e + (f + g)) + 256 * (((e + f) + 256 * ((f + g) + 256 * Y6)) + Y6)) := by
    rw [eY4]; exact li4 (c + d) (d + e) (e + f) (f + g) Y6
  rw [eS] at eC
  have k1 : a + b + (c + d) < 256 := by clear hA hB hC hD eB eC eY2 eS eY4 z1 z2; omega
  have k2 : b + c + (d + e) < 256 := by clear hA hB hC hD eB eC eY2 eS eY4 z1 z2; omega
  have k3 : c + d + (e + f) < 256 := by clear hA hB hC hD eB eC eY2 eS eY4 z1 z2; omega
  have k4 : d + e + (f + g) < 256 := by clear hA hB hC hD eB eC eY2 eS eY4 z1 z2; omega
  have z4 : C / 2 ^ 32 = ((e + f) + 256 * ((f + g) + 256 * Y6)) + Y6 := by rw [eC]; exact dv4 k1 k2 k3 k4
  have kB : B < 2 ^ 62 := by rw [eB]; clear hA hB hC hD eB eC eY2 eS eY4 z1 z2 z4; omega
  have kY6 : Y6 ≤ 8 + 256 * 8 + 8 := by clear hA hB hC hD eB eC eY2 eS eY4 z1 z2 z4; omega
  refine ⟨kA, kB, by rw [eC]; clear hA hB hC hD eB eC eY2 eS eY4 z1 z2 z4 kA kB; omega, ?_⟩
  have eD : D = (a + b + c + d + e + f + g + h) + 256 * (((b + c + (d + e)) + 256 * ((c + d + (e + f)) + 256 * ((d + e + (f + g)) + 256 * (((e + f) + 256 * ((f + g) + 256 * Y6)) + Y6)))) + ((f + g) + 256 * Y6) + h) := by
    rw [hD, z4, eC]
    clear hA hB hC hD eB eC eY2 eS eY4 z1 z2 z4 kA kB
    omega
  rw [eD]
  exact md1 (by clear hA hB hC hD eB eC eY2 eS eY4 z1 z2 z4 kA kB eD; omega)
theorem bc_n (x : Int64) : mc_bitCount x = some (nI (cb (sN x) 64)) := by
  rw [bc_eq]
  congr 1
  have hx : sN x < 256 ^ 8 := sN_lt x
  obtain ⟨t1, -⟩ := spT 8 (sN x) hx
  have e2 : sN (b2 (b1 x)) = s2 8 (s1 8 (sN x)) := by rw [b2n, b1n]
  have h2 : sN (b2 (b1 x)) < 2 ^ 63 := by rw [e2]; exact s2_lt _
  have e3 : sN (b3 (b2 (b1 x))) = sp 8 (sN x) := by rw [b3n _ h2, e2, t1]
  obtain ⟨a, b, c, d, e, f, g, h, ha, hb, hc, hd, he, hf, hg, hh, es, ec⟩ := sp8 (sN x)
  rw [es] at e3
  obtain ⟨k3, k4, k5, k6⟩ := bfin ha hb hc hd he hf hg hh e3 rfl rfl rfl
  have w : (2 : Nat) ^ 62 ≤ 2 ^ 63 := by decide
  have q4 := b4n _ (Nat.lt_of_lt_of_le k3 w)
  rw [← q4] at k4 k5 k6
  have q5 := b5n _ (Nat.lt_of_lt_of_le k4 w)
  rw [← q5] at k5 k6
  have q6 := b6n _ (Nat.lt_of_lt_of_le k5 w)
  rw [← q6] at k6
  rw [sN_i, show (127 : Int32) = nI 127 from rfl, na_and, show (127 : Nat) = 2 ^ 7 - 1 from rfl, Nat.and_two_pow_sub_one_eq_mod, ec]
  exact congrArg nI k6
