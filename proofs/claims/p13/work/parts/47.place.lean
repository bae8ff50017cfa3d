/-! ===== Math.floorDiv, floorMod by 16 ===== -/
theorem xs_ (y : Int32) : (0 ≤ (y ^^^ (16 : Int32))) ↔ 0 ≤ y := by
  have h : (y ^^^ (16 : Int32)).toBitVec.msb = y.toBitVec.msb := by
    rw [Int32.toBitVec_xor, BitVec.msb_xor, show (16 : Int32).toBitVec.msb = false by decide, Bool.xor_false]
  rw [BitVec.msb_eq_toInt, BitVec.msb_eq_toInt] at h
  have h2 : (y ^^^ (16 : Int32)).toInt < 0 ↔ y.toInt < 0 := decide_eq_decide.mp h
  rw [Int32.le_iff_toInt_le, Int32.le_iff_toInt_le]
  have e0 : (0 : Int32).toInt = 0 := by decide
  rw [e0]
  omega
theorem dv_i (y : Int32) : (y / (16 : Int32)).toInt = y.toInt.tdiv 16 := by
  rw [Int32.toInt_div_of_ne_right y 16 (by decide)]
  rfl
theorem fd_p {k : Nat} (hk : k < 2 ^ 31) : mc_floorDiv (nI k) 16 = some (nI (k / 16)) := by
  unfold mc_floorDiv
  rw [mi_gd_no (by decide), if_pos ((xs_ _).mpr (nI_pos' hk))]
  congr 1
  apply Int32.toInt_inj.mp
  rw [dv_i, nI_toInt hk, nI_toInt (by omega)]
  exact Int.tdiv_eq_ediv_of_nonneg (by omega)
theorem fm_p {a : Nat} (ha : a < 4096) : mc_floorMod (nI a) 16 = some (nI (a % 16)) := by
  have e1 : nI a / (16 : Int32) = nI (a / 16) := by
    apply Int32.toInt_inj.mp
    rw [dv_i, nI_toInt (by omega), nI_toInt (by omega)]
    exact Int.tdiv_eq_ediv_of_nonneg (by omega)
  have e2 : nI a - nI a / (16 : Int32) * (16 : Int32) = nI (a % 16) := by
    rw [e1, show (16 : Int32) = nI 16 from rfl, nI_mu]
    have : nI a = nI (a % 16) + nI (a / 16 * 16) := by rw [nI_add]; congr 1; omega
    rw [this]
    generalize nI (a % 16) = A
    generalize nI (a / 16 * 16) = B
    rw [Int32.sub_eq_add_neg, Int32.add_assoc, Int32.add_right_neg, Int32.add_zero]
  unfold mc_floorMod
  rw [mi_gd_no (by decide), e2]
  rw [if_pos ((xs_ _).mpr (nI_pos' (by omega)))]
theorem fd_n {y : Int32} (h : y < 0) : ∃ r, mc_floorDiv y 16 = some r ∧ r < 0 := by
  have hy : y.toInt < 0 := by
    rw [Int32.lt_iff_toInt_lt] at h
    exact h
  have hlo : -2147483648 ≤ y.toInt := by
    have := y.toBitVec.le_toInt
    exact this
  obtain ⟨m, hm⟩ : ∃ m : Nat, y.toInt = -(m : Int) := ⟨(-y.toInt).toNat, by omega⟩
  have hq : (y / (16 : Int32)).toInt = -((m / 16 : Nat) : Int) := by
    rw [dv_i, hm, Int.neg_tdiv, Int.tdiv_eq_ediv_of_nonneg (by omega)]
    rfl
  unfold mc_floorDiv
  rw [mi_gd_no (by decide), if_neg (fun z => by
    have z := (xs_ y).mp z
    rw [Int32.le_iff_toInt_le] at z
    have e0 : (0 : Int32).toInt = 0 := by decide
    omega)]
  by_cases e : (y / (16 : Int32)) * (16 : Int32) = y
  · rw [if_pos e]
    refine ⟨_, rfl, ?_⟩
    rw [Int32.lt_iff_toInt_lt, hq]
    have e0 : (0 : Int32).toInt = 0 := by decide
    rw [e0]
    by_cases z : m / 16 = 0
    · exfalso
      have hz : y / (16 : Int32) = 0 := by
        apply Int32.toInt_inj.mp
        rw [hq, z]
        rfl
      rw [hz] at e
      have : y = 0 := by rw [← e]; decide
      rw [this] at hy
      exact absurd hy (by decide)
    · omega
  · rw [if_neg e]
    refine ⟨_, rfl, ?_⟩
    rw [Int32.lt_iff_toInt_lt, Int32.toInt_sub, hq]
    have e0 : (0 : Int32).toInt = 0 := by decide
    have e1 : (1 : Int32).toInt = 1 := by decide
    rw [e0, e1]
    have e3 : (-((m / 16 : Nat) : Int) - 1).bmod (2 ^ 32) = -((m / 16 : Nat) : Int) - 1 := by
      rw [Int.bmod_def]
      split <;> omega
    rw [e3]
    omega
theorem fd_b {y : Int32} {n : Nat} (hn : 16 * n < 2 ^ 31) (h0 : ¬ y < 0) (h : nI (16 * n) ≤ y) : ∃ r, mc_floorDiv y 16 = some r ∧ nI n ≤ r := by
  obtain ⟨k, hk, rfl⟩ := nI_of h0
  have h1 := (nI_leI hn hk).mp h
  exact ⟨_, fd_p hk, (nI_leI (by omega) (by omega)).mpr (by omega)⟩
/-! ===== load and store: objects and ranges ===== -/
/-- where an address leads: refused by n on both sides, or a word a of a frame that is neither free nor a table -/
def PL (σ : CS) (τ : MS) (x y : Int32) : Prop :=
  (∃ n, (n = 1 ∨ n = 2 ∨ n = 3) ∧ mc_placeOf σ x y = some (0, n, σ) ∧ mm_wrong τ x y = some (nI n)) ∨
  (∃ a σ' τ', a < 1024 ∧ mc_placeOf σ x y = some (nI a, 0, σ') ∧ mm_wrong τ x y = some 0 ∧ mm_placeOf (sm_th τ 0) x y = some (nI a, τ') ∧ gm_th τ' = 0 ∧ REL σ' τ' ∧ ¬ gm_o τ' (a / 16) = 0 ∧ ¬ gm_o τ' (a / 16) = 1)
theorem pl_1 {σ : CS} {τ : MS} (h : REL σ τ) (y : Int32) : PL σ τ (-1) y := by
  rcases sl_all h y with ⟨a, ha, rfl, hob, hc, hm⟩ | ⟨hc, hm⟩
  · have z : gm_o τ (a / 16) = 2 := by
      unfold ob at hob
      rw [Bool.and_eq_true] at hob
      exact of_decide_eq_true hob.1
    refine Or.inr ⟨a, σ, sm_th τ 0, ha, ?_, ?_, rfl, rfl, h, by show ¬ gm_o τ (a / 16) = 0; rw [z]; decide, by show ¬ gm_o τ (a / 16) = 1; rw [z]; decide⟩
    · unfold mc_placeOf
      rw [if_pos rfl, hc, cp_r]
      unfold mc_orFault
      rw [if_neg (n_ne (by omega))]
      rfl
    · unfold mm_wrong
      rw [if_pos rfl, hm]
      rfl
  · refine Or.inl ⟨2, Or.inr (Or.inl rfl), ?_, ?_⟩
    · unfold mc_placeOf; rw [if_pos rfl, hc]; rfl
    · unfold mm_wrong; rw [if_pos rfl, hm]; rfl
theorem pl_2 {σ : CS} {τ : MS} (h : REL σ τ) (y : Int32) : PL σ τ (-2) y := by
  have bad : (∃ r, mc_floorDiv y 16 = some r ∧ mc_Ranges_frameOf σ r = some (-1)) → mm_wrong τ (-2) y = some 2 → PL σ τ (-2) y := by
    rintro ⟨r, h1, h2⟩ h3
    refine Or.inl ⟨2, Or.inr (Or.inl rfl), ?_, h3⟩
    unfold mc_placeOf mc_Ranges_placeAt
    rw [if_neg (by decide), if_pos rfl, h1, cp_r, h2]
    rfl
  by_cases h1 : y < 0
  · obtain ⟨r, a, b⟩ := fd_n h1
    exact bad ⟨r, a, by unfold mc_Ranges_frameOf; rw [if_pos b]⟩ (by unfold mm_wrong; rw [if_neg (by decide), if_pos rfl, m_inL h1]; rfl)
  · by_cases h2 : (1024 : Int32) ≤ y
    · obtain ⟨r, a, b⟩ := fd_b (n := 64) (by omega) h1 h2
      refine bad ⟨r, a, ?_⟩ (by unfold mm_wrong; rw [if_neg (by decide), if_pos rfl, m_inG (show (1023 : Int32) < y from i_lt 1023 (by omega) h2)]; rfl)
      unfold mc_Ranges_frameOf
      by_cases z : r < 0
      · rw [if_pos z]
      · rw [if_neg z, if_pos (show (64 : Int32) ≤ r from b)]
    · obtain ⟨a, ha, rfl⟩ := i_in 1024 (by omega) h1 h2
      obtain ⟨d1, d2⟩ := d16 a ha
      have a64 : a / 16 < 64 := by omega
      have hmi : mm_in (nI a) (0 : Int32) (1023 : Int32) = some 1 := m_inI (n := 1023) ha (by omega)
      have hfo : mc_Ranges_frameOf σ (nI (a / 16)) = some (gm_en τ (a / 16) - 1) := by
        unfold mc_Ranges_frameOf
        rw [if_neg (nI_pos (by omega)), if_neg (show ¬ (64 : Int32) ≤ nI (a / 16) from fun z => absurd ((nI_leI (a := 64) (by omega) (by omega)).mp z) (by omega)), gi_n a64 (by omega), nI_clamp (by omega), h.2.2.2.2.1.1]
      have hwr : mm_wrong τ (-2) (nI a) = if gm_en τ (a / 16) ≤ 0 then some 2 else some 0 := by
        unfold mm_wrong
        rw [if_neg (by decide), if_pos rfl, hmi, cp_r, if_neg (by decide), d1, gi_n a64 (by omega), nI_clamp (by omega)]
      have hE := h.2.2.2.2.1.2.2
      obtain ⟨K, k1, -⟩ := hE
      rcases k1 (a / 16) a64 with z | ⟨f, f1, f2, f3, -⟩
      · exact bad ⟨_, fd_p (by omega), by rw [hfo, z]; rfl⟩ (by rw [hwr, z, if_pos (by decide)])
      · refine Or.inr ⟨16 * f + a % 16, σ, sm_th τ 0, by omega, ?_, ?_, ?_, rfl, h, ?_, ?_⟩
        · unfold mc_placeOf mc_Ranges_placeAt
          rw [if_neg (by decide), if_pos rfl, fd_p (by omega), cp_r, hfo, f2, n_s1, cp_r, if_neg (n_ne (by omega)), fm_p (by omega), cp_r, e16, cp_r]
          unfold mc_orFault
          rw [if_neg (n_ne (by omega))]
          rfl
        · rw [hwr, f2, if_neg (nI_nle (by omega) (by omega))]
        · unfold mm_placeOf
          rw [if_neg (by decide), if_pos rfl, d2, d1, gi_n a64 (by omega), nI_clamp (by omega)]
          show some ((16 : Int32) * (gm_en τ (a / 16) - 1) + nI (a % 16), sm_th τ 0) = _
          rw [f2, n_s1, e16']
        · show ¬ gm_o τ ((16 * f + a % 16) / 16) = 0
          rw [show (16 * f + a % 16) / 16 = f by omega, f3]; decide
        · show ¬ gm_o τ ((16 * f + a % 16) / 16) = 1
          rw [show (16 * f + a % 16) / 16 = f by omega, f3]; decide
