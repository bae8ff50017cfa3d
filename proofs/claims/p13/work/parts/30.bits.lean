/-! ===== bits: Long.bitCount counts the bits ===== -/
def sN (x : Int64) : Nat := x.toUInt64.toNat
theorem sN_lt (x : Int64) : sN x < 2 ^ 64 := x.toUInt64.toNat_lt
theorem sN_add {x y : Int64} (h : sN x + sN y < 2 ^ 64) : sN (x + y) = sN x + sN y := by
  show (x.toUInt64 + y.toUInt64).toNat = _
  rw [UInt64.toNat_add]
  exact Nat.mod_eq_of_lt h
theorem sN_and (x y : Int64) : sN (x &&& y) = sN x &&& sN y := by
  show (x.toUInt64 &&& y.toUInt64).toNat = _
  exact UInt64.toNat_and _ _
theorem sN_sub {x y : Int64} (h : sN y ≤ sN x) : sN (x - y) = sN x - sN y := by
  show (x.toUInt64 - y.toUInt64).toNat = _
  exact UInt64.toNat_sub_of_le _ _ (UInt64.le_iff_toNat_le.mpr h)
theorem sN_shr (x : Int64) {s : UInt64} {k : Nat} (h : s.toNat % 64 = k) : sN (x.toUInt64 >>> s).toInt64 = sN x / 2 ^ k := by
  show (x.toUInt64 >>> s).toNat = _
  rw [UInt64.toNat_shiftRight, Nat.shiftRight_eq_div_pow, h]
  rfl
theorem la8 {a b c d : Nat} (ha : a < 256) (hc : c < 256) : (a + 256 * b) &&& (c + 256 * d) = (a &&& c) + 256 * (b &&& d) := by
  have h1 : ((a + 256 * b) &&& (c + 256 * d)) / 2 ^ 8 = (a + 256 * b) / 2 ^ 8 &&& (c + 256 * d) / 2 ^ 8 := Nat.and_div_two_pow
  have h2 : ((a + 256 * b) &&& (c + 256 * d)) % 2 ^ 8 = (a + 256 * b) % 2 ^ 8 &&& (c + 256 * d) % 2 ^ 8 := Nat.and_mod_two_pow
  rw [show (a + 256 * b) / 2 ^ 8 = b by omega, show (c + 256 * d) / 2 ^ 8 = d by omega] at h1
  rw [show (a + 256 * b) % 2 ^ 8 = a by omega, show (c + 256 * d) % 2 ^ 8 = c by omega] at h2
  omega
def mk_ (m : Nat) : Nat → Nat
  | 0 => 0
  | k + 1 => m + 256 * mk_ m k
def y1 (B : Nat) : Nat := B - (B / 2 &&& 85)
def y2 (B : Nat) : Nat := (B &&& 51) + (B / 4 &&& 51)
def y3 (B : Nat) : Nat := (B + B / 16) &&& 15
def s1 (k x : Nat) : Nat := x - (x / 2 &&& mk_ 85 k)
def s2 (k x : Nat) : Nat := (x &&& mk_ 51 k) + (x / 4 &&& mk_ 51 k)
def s3 (k x : Nat) : Nat := (x + x / 16) &&& mk_ 15 k
theorem y1a : ∀ B, B < 256 → ∀ e, e < 2 → (B / 2 + 128 * e) &&& 85 = B / 2 &&& 85 := by decide +kernel
theorem y2a : ∀ B, B < 256 → ∀ e, e < 4 → (B / 4 + 64 * e) &&& 51 = B / 4 &&& 51 := by decide +kernel
theorem y12 : ∀ B, B < 256 → y1 B < 256 ∧ y2 (y1 B) ≤ 68 ∧ y2 (y1 B) % 16 ≤ 4 ∧ y3 (y2 (y1 B)) ≤ 8 := by decide +kernel
theorem s1s {k B y : Nat} (hB : B < 256) : s1 (k + 1) (B + 256 * y) = y1 B + 256 * s1 k y := by
  unfold s1 y1
  have e : (B + 256 * y) / 2 = (B / 2 + 128 * (y % 2)) + 256 * (y / 2) := by omega
  have e2 : mk_ 85 (k + 1) = 85 + 256 * mk_ 85 k := rfl
  rw [e, e2, la8 (by omega) (by omega), y1a B hB (y % 2) (by omega)]
  have h1 : (B / 2 &&& 85) ≤ B / 2 := Nat.and_le_left
  have h2 : (y / 2 &&& mk_ 85 k) ≤ y / 2 := Nat.and_le_left
  omega
theorem s2s {k C z : Nat} (hC : C < 256) : s2 (k + 1) (C + 256 * z) = y2 C + 256 * s2 k z := by
  unfold s2 y2
  have e : (C + 256 * z) / 4 = (C / 4 + 64 * (z % 4)) + 256 * (z / 4) := by omega
  have e2 : mk_ 51 (k + 1) = 51 + 256 * mk_ 51 k := rfl
  rw [e, e2, la8 hC (by omega), la8 (by omega) (by omega), y2a C hC (z % 4) (by omega)]
  omega
theorem s3s {k D u : Nat} (hD : D ≤ 68) (hu : u % 16 ≤ 8) : s3 (k + 1) (D + 256 * u) = y3 D + 256 * s3 k u := by
  unfold s3 y3
  have e : (D + 256 * u) + (D + 256 * u) / 16 = (D + D / 16 + 16 * (u % 16)) + 256 * (u + u / 16) := by omega
  have e2 : mk_ 15 (k + 1) = 15 + 256 * mk_ 15 k := rfl
  rw [e, e2, la8 (by omega) (by omega)]
  have m1 : (D + D / 16 + 16 * (u % 16)) &&& 15 = (D + D / 16 + 16 * (u % 16)) % 16 := Nat.and_two_pow_sub_one_eq_mod _ 4
  have m2 : (D + D / 16) &&& 15 = (D + D / 16) % 16 := Nat.and_two_pow_sub_one_eq_mod _ 4
  rw [m1, m2]
  omega
def p8 (B : Nat) : Nat := y3 (y2 (y1 B))
def sp : Nat → Nat → Nat
  | 0, _ => 0
  | k + 1, x => p8 (x % 256) + 256 * sp k (x / 256)
theorem spT (k : Nat) : ∀ x, x < 256 ^ k → s3 k (s2 k (s1 k x)) = sp k x ∧ s2 k (s1 k x) % 16 ≤ 8 := by
  induction k with
  | zero =>
    intro x hx
    have e : x = 0 := by simpa using hx
    subst e
    exact ⟨rfl, by decide⟩
  | succ k ih =>
    intro x hx
    have hy : x / 256 < 256 ^ k := by
      rw [Nat.pow_succ] at hx
      omega
    obtain ⟨i1, i2⟩ := ih (x / 256) hy
    have hB : x % 256 < 256 := Nat.mod_lt _ (by decide)
    obtain ⟨b1, b2, b3, b4⟩ := y12 (x % 256) hB
    have e : x = x % 256 + 256 * (x / 256) := by omega
    have e1 : s1 (k + 1) x = y1 (x % 256) + 256 * s1 k (x / 256) := by
      conv => lhs; rw [e]
      exact s1s hB
    have e2 : s2 (k + 1) (s1 (k + 1) x) = y2 (y1 (x % 256)) + 256 * s2 k (s1 k (x / 256)) := by rw [e1]; exact s2s b1
    refine ⟨?_, by rw [e2]; omega⟩
    rw [e2, s3s b2 i2, i1]
    rfl
/-- how many of the first n bits are set -/
def cb (x : Nat) : Nat → Nat
  | 0 => 0
  | n + 1 => cb x n + x / 2 ^ n % 2
theorem p8c : ∀ B, B < 256 → p8 B = cb B 8 := by decide +kernel
theorem cb8 (x : Nat) : cb x 8 = cb (x % 256) 8 := by
  have h : ∀ i, i < 8 → x / 2 ^ i % 2 = x % 256 / 2 ^ i % 2 := by
    intro i hi
    have : i = 0 ∨ i = 1 ∨ i = 2 ∨ i = 3 ∨ i = 4 ∨ i = 5 ∨ i = 6 ∨ i = 7 := by omega
    rcases this with rfl | rfl | rfl | rfl | rfl | rfl | rfl | rfl <;> omega
  show cb x 0 + _ + _ + _ + _ + _ + _ + _ + _ = cb (x % 256) 0 + _ + _ + _ + _ + _ + _ + _ + _
  rw [h 0 (by decide), h 1 (by decide), h 2 (by decide), h 3 (by decide), h 4 (by decide), h 5 (by decide), h 6 (by decide), h 7 (by decide)]
  rfl
theorem cbs (x n : Nat) : cb x (8 + n) = cb (x % 256) 8 + cb (x / 256) n := by
  induction n with
  | zero => rw [← cb8]; rfl
  | succ n ih =>
    show cb x (8 + n) + x / 2 ^ (8 + n) % 2 = cb (x % 256) 8 + (cb (x / 256) n + x / 256 / 2 ^ n % 2)
    rw [ih, Nat.div_div_eq_div_mul, show 256 * 2 ^ n = 2 ^ (8 + n) by rw [Nat.pow_add]]
    omega
theorem sp8 (x : Nat) : ∃ a b c d e f g h : Nat, a ≤ 8 ∧ b ≤ 8 ∧ c ≤ 8 ∧ d ≤ 8 ∧ e ≤ 8 ∧ f ≤ 8 ∧ g ≤ 8 ∧ h ≤ 8 ∧ sp 8 x = a + 256 * (b + 256 * (c + 256 * (d + 256 * (e + 256 * (f + 256 * (g + 256 * h)))))) ∧ cb x 64 = a + b + c + d + e + f + g + h := by
  have q : ∀ z, p8 (z % 256) ≤ 8 ∧ p8 (z % 256) = cb (z % 256) 8 := fun z => ⟨(y12 _ (Nat.mod_lt _ (by decide))).2.2.2, p8c _ (Nat.mod_lt _ (by decide))⟩
  refine ⟨_, _, _, _, _, _, _, _, (q x).1, (q (x / 256)).1, (q (x / 256 / 256)).1, (q (x / 256 / 256 / 256)).1, (q (x / 256 / 256 / 256 / 256)).1, (q (x / 256 / 256 / 256 / 256 / 256)).1, (q (x / 256 / 256 / 256 / 256 / 256 / 256)).1, (q (x / 256 / 256 / 256 / 256 / 256 / 256 / 256)).1, rfl, ?_⟩
  rw [(q x).2, (q (x / 256)).2, (q (x / 256 / 256)).2, (q (x / 256 / 256 / 256)).2, (q (x / 256 / 256 / 256 / 256)).2, (q (x / 256 / 256 / 256 / 256 / 256)).2, (q (x / 256 / 256 / 256 / 256 / 256 / 256)).2, (q (x / 256 / 256 / 256 / 256 / 256 / 256 / 256)).2]
  rw [show (64 : Nat) = 8 + 56 from rfl, cbs, show (56 : Nat) = 8 + 48 from rfl, cbs, show (48 : Nat) = 8 + 40 from rfl, cbs, show (40 : Nat) = 8 + 32 from rfl, cbs, show (32 : Nat) = 8 + 24 from rfl, cbs, show (24 : Nat) = 8 + 16 from rfl, cbs, show (16 : Nat) = 8 + 8 from rfl, cbs, cb8 (x / 256 / 256 / 256 / 256 / 256 / 256 / 256)]
  omega
