/-! ===== free frames: counting, blocks that are all free ===== -/
theorem gi_n {α : Type} {a n : Nat} {x : Option α} (h : a < n) (hn : n < 2 ^ 31) : mi_gd (nI a < 0 ∨ n ≤ (nI a).toNatClampNeg) x = x := mi_gd_no (nI_in h hn)
/-- how many of the first n frames are free -/
def cz (o : Nat → Int32) : Nat → Nat
  | 0 => 0
  | n + 1 => cz o n + (if o n = 0 then 1 else 0)
theorem cz_le (o : Nat → Int32) (n : Nat) : cz o n ≤ n := by
  induction n with
  | zero => exact Nat.le_refl _
  | succ n ih =>
    show cz o n + (if o n = 0 then 1 else 0) ≤ n + 1
    by_cases h : o n = 0
    · rw [if_pos h]; omega
    · rw [if_neg h]; omega
theorem m_cfl (τ : MS) (n : Nat) : ∀ f, f ≤ 64 → 64 - f < n → mm_countFree_l4 n (nI (cz (gm_o τ) f)) (nI f) τ = some (nI (cz (gm_o τ) 64)) := by
  induction n with
  | zero => intro f _ h; exact absurd h (Nat.not_lt_zero _)
  | succ n ih =>
    intro f hf hn
    show mm_countFree_b4 (mm_countFree_l4 n) (nI (cz (gm_o τ) f)) (nI f) τ = _
    unfold mm_countFree_b4
    by_cases h : f = 64
    · subst h
      rw [if_pos (show (64 : Int32) ≤ nI 64 by decide)]
    · have h1 : f < 64 := by omega
      rw [if_neg (show ¬ (64 : Int32) ≤ nI f from fun z => absurd ((nI_leI (a := 64) (by omega) (by omega)).mp z) (by omega)), gi_n h1 (by omega), nI_clamp (by omega)]
      by_cases h2 : gm_o τ f = 0
      · rw [if_pos h2, nI_1, nI_1]
        have e : cz (gm_o τ) (f + 1) = cz (gm_o τ) f + 1 := by show _ + (if gm_o τ f = 0 then 1 else 0) = _; rw [if_pos h2]
        rw [← e]
        exact ih (f + 1) (by omega) (by omega)
      · rw [if_neg h2, nI_1]
        have e : cz (gm_o τ) (f + 1) = cz (gm_o τ) f := by show _ + (if gm_o τ f = 0 then 1 else 0) = _; rw [if_neg h2]; rfl
        rw [← e]
        exact ih (f + 1) (by omega) (by omega)
theorem m_cf (τ : MS) : mm_countFree τ = some (nI (cz (gm_o τ) 64)) := m_cfl τ FU 0 (by omega) (by decide)
/-- bit f of the class's word tells whether frame f is free -/
def FB (o : Nat → Int32) (x : Int64) : Prop := ∀ f, f < 64 → (sN x).testBit f = decide (o f = 0)
theorem cb_cz {o : Nat → Int32} {x : Int64} (h : FB o x) (n : Nat) : n ≤ 64 → cb (sN x) n = cz o n := by
  induction n with
  | zero => intro _; rfl
  | succ n ih =>
    intro hn
    show cb (sN x) n + sN x / 2 ^ n % 2 = cz o n + (if o n = 0 then 1 else 0)
    rw [ih (by omega), ← Nat.toNat_testBit, h n (by omega)]
    by_cases z : o n = 0
    · rw [if_pos z, decide_eq_true z]; rfl
    · rw [if_neg z, decide_eq_false z]; rfl
theorem c_cf {σ : CS} (h : FB (gc_o σ) (gc_fb σ)) : mc_Frames_countFree σ = some (nI (cz (gc_o σ) 64)) := by
  unfold mc_Frames_countFree
  rw [bc_n, cb_cz h 64 (Nat.le_refl _)]
  rfl
theorem sN_inj {x y : Int64} (h : sN x = sN y) : x = y := congrArg UInt64.toInt64 (UInt64.toNat_inj.mp h)
theorem sN_or (x y : Int64) : sN (x ||| y) = sN x ||| sN y := by
  show (x.toUInt64 ||| y.toUInt64).toNat = _
  exact UInt64.toNat_or _ _
theorem sN_big (x : Int64) {i : Nat} (h : 64 ≤ i) : (sN x).testBit i = false := Nat.testBit_lt_two_pow (Nat.lt_of_lt_of_le (sN_lt x) (Nat.pow_le_pow_right (by decide) h))
theorem mk1 : ∀ f, f < 64 → ∀ i, i < 64 → (sN (((1 : Int64) <<< ((nI f).toInt64 &&& 63)) ^^^ (-1 : Int64))).testBit i = decide (i ≠ f) := by decide +kernel
theorem mk2 : ∀ f, f < 64 → ∀ i, i < 64 → (sN ((1 : Int64) <<< ((nI f).toInt64 &&& 63))).testBit i = decide (i = f) := by decide +kernel
theorem FB_give {o : Nat → Int32} {x : Int64} (h : FB o x) {f : Nat} (hf : f < 64) {v : Int32} (hv : ¬ v = 0) : FB (upd o f v) (x &&& (((1 : Int64) <<< ((nI f).toInt64 &&& 63)) ^^^ (-1 : Int64))) := by
  intro i hi
  rw [sN_and, Nat.testBit_and, h i hi, mk1 f hf i hi]
  unfold upd
  by_cases e : i = f
  · rw [if_pos e, decide_eq_false hv, decide_eq_false (show ¬ (i ≠ f) from fun z => z e), Bool.and_false]
  · rw [if_neg e, decide_eq_true (show i ≠ f from e), Bool.and_true]
theorem FB_free {o : Nat → Int32} {x : Int64} (h : FB o x) {f : Nat} (hf : f < 64) : FB (upd o f 0) (x ||| ((1 : Int64) <<< ((nI f).toInt64 &&& 63))) := by
  intro i hi
  rw [sN_or, Nat.testBit_or, h i hi, mk2 f hf i hi]
  unfold upd
  by_cases e : i = f
  · rw [if_pos e, decide_eq_true e, decide_eq_true (rfl : (0 : Int32) = 0), Bool.or_true]
  · rw [if_neg e, decide_eq_false e, Bool.or_false]
/-- n frames from f on are free -/
def af (o : Nat → Int32) (f n : Nat) : Bool := decide (∀ i, i < n → o (f + i) = 0)
def bi (b : Bool) : Int32 := if b then 1 else 0
abbrev ms_ (a k : Int32) : Int64 := (((-1 : Int64).toUInt64 >>> (((64 : Int32) - ((1 : Int32) <<< (k &&& 31))).toInt64.toUInt64 &&& Int64.toUInt64 63)).toInt64) <<< (a.toInt64 &&& 63)
theorem ms_b : ∀ k, k < 7 → ∀ b, b < 64 / 2 ^ k → ∀ i, i < 64 → (sN (ms_ (nI (b * 2 ^ k)) (nI k))).testBit i = decide (b * 2 ^ k ≤ i ∧ i < b * 2 ^ k + 2 ^ k) := by decide +kernel
theorem c_af {σ : CS} (h : FB (gc_o σ) (gc_fb σ)) {k b : Nat} (hk : k < 7) (hb : b < 64 / 2 ^ k) : mc_Frames_isAllFree σ (nI (b * 2 ^ k)) (nI k) = some (bi (af (gc_o σ) (b * 2 ^ k) (2 ^ k))) := by
  have hle : b * 2 ^ k + 2 ^ k ≤ 64 := by
    have h1 : (b + 1) * 2 ^ k ≤ (64 / 2 ^ k) * 2 ^ k := Nat.mul_le_mul_right _ hb
    have h2 : (64 / 2 ^ k) * 2 ^ k ≤ 64 := Nat.div_mul_le_self _ _
    rw [Nat.add_mul, Nat.one_mul] at h1
    omega
  have key : (gc_fb σ &&& ms_ (nI (b * 2 ^ k)) (nI k)) = ms_ (nI (b * 2 ^ k)) (nI k) ↔ ∀ i, i < 2 ^ k → gc_o σ (b * 2 ^ k + i) = 0 := by
    constructor
    · intro e i hi
      have h1 : (sN (gc_fb σ &&& ms_ (nI (b * 2 ^ k)) (nI k))).testBit (b * 2 ^ k + i) = (sN (ms_ (nI (b * 2 ^ k)) (nI k))).testBit (b * 2 ^ k + i) := by rw [e]
      rw [sN_and, Nat.testBit_and, h _ (by omega), ms_b k hk b hb _ (by omega), decide_eq_true (show b * 2 ^ k ≤ b * 2 ^ k + i ∧ b * 2 ^ k + i < b * 2 ^ k + 2 ^ k by omega), Bool.and_true] at h1
      exact of_decide_eq_true h1
    · intro e
      apply sN_inj
      apply Nat.eq_of_testBit_eq
      intro i
      by_cases hi : i < 64
      · rw [sN_and, Nat.testBit_and, h i hi, ms_b k hk b hb i hi]
        by_cases z : b * 2 ^ k ≤ i ∧ i < b * 2 ^ k + 2 ^ k
        · have := e (i - b * 2 ^ k) (by omega)
          rw [show b * 2 ^ k + (i - b * 2 ^ k) = i by omega] at this
          rw [decide_eq_true this, Bool.true_and]
        · rw [decide_eq_false z, Bool.and_false]
      · rw [sN_big _ (by omega), sN_big _ (by omega)]
  unfold mc_Frames_isAllFree
  by_cases z : ∀ i, i < 2 ^ k → gc_o σ (b * 2 ^ k + i) = 0
  · rw [if_pos ((lg_cmp_eq _ _).mpr (key.mpr z))]
    unfold af bi
    rw [decide_eq_true z]
    rfl
  · rw [if_neg (fun y => z (key.mp ((lg_cmp_eq _ _).mp y)))]
    unfold af bi
    rw [decide_eq_false z]
    rfl
