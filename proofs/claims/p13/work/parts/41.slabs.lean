/-! ===== small objects ===== -/
theorem sf1 : ∀ k, k < 4 → 1 ≤ k → ∀ c, c < 16 → nI c / nI (2 ^ k) = nI (c / 2 ^ k) ∧ ((1 : Int32) <<< (nI (c / 2 ^ k) &&& 31)) = nI (2 ^ (c / 2 ^ k)) ∧ c / 2 ^ k < 8 ∧ ¬ nI (2 ^ k) = (0 : Int32) ∧ c / 2 ^ k < 16 / 2 ^ k := by decide +kernel
theorem sf2 : ∀ u, u < 256 → ∀ j, j < 8 → ((nI u &&& nI (2 ^ j)) = (0 : Int32) ↔ u.testBit j = false) ∧ (((nI u >>> (nI j &&& 31)) &&& (1 : Int32)) = (1 : Int32) ↔ u.testBit j = true) := by decide +kernel
theorem sf3 {k u : Nat} (h1 : 1 ≤ k) (h2 : k ≤ 3) (h : u < 2 ^ (16 / 2 ^ k)) : u < 256 := by
  have : k = 1 ∨ k = 2 ∨ k = 3 := by omega
  rcases this with rfl | rfl | rfl
  · exact h
  · exact Nat.lt_of_lt_of_le h (by decide)
  · exact Nat.lt_of_lt_of_le h (by decide)
/-- word a is a word of an object -/
def ob (τ : MS) (a : Nat) : Bool := decide (gm_o τ (a / 16) = 2) && decide (((gm_tk τ (a / 16) >>> ((nI (a % 16) / gm_sz τ (a / 16)) &&& 31)) &&& (1 : Int32)) = (1 : Int32))
theorem ob_k {τ : MS} {a k u : Nat} (h : gm_o τ (a / 16) = 2) (h1 : 1 ≤ k) (h2 : k ≤ 3) (hs : gm_sz τ (a / 16) = nI (2 ^ k)) (ht : gm_tk τ (a / 16) = nI u) (hu : u < 2 ^ (16 / 2 ^ k)) : ob τ a = u.testBit (a % 16 / 2 ^ k) := by
  obtain ⟨f1, f2, f3, f4, f5⟩ := sf1 k (by omega) h1 (a % 16) (by omega)
  unfold ob
  rw [decide_eq_true h, Bool.true_and, hs, ht, f1]
  have z := (sf2 u (sf3 h1 h2 hu) (a % 16 / 2 ^ k) f3).2
  cases e : u.testBit (a % 16 / 2 ^ k) with
  | true => exact decide_eq_true (z.mpr e)
  | false => exact decide_eq_false (fun y => by rw [z.mp y] at e; cases e)
theorem m_iO {σ : CS} {τ : MS} (h : REL σ τ) {a : Nat} (ha : a < 1024) : mm_isObject τ (nI a) = some (bi (ob τ a)) := by
  obtain ⟨d1, d2⟩ := d16 a ha
  have a64 : a / 16 < 64 := by omega
  have hmi : mm_in (nI a) (0 : Int32) (1023 : Int32) = some 1 := m_inI (n := 1023) ha (by omega)
  unfold mm_isObject
  rw [hmi, cp_r, if_neg (by decide), d2, d1, gi_n a64 (by omega), nI_clamp (by omega), gi_c a64 (by omega), gi_c a64 (by omega)]
  by_cases z : gm_o τ (a / 16) = 2
  · obtain ⟨-, -, k, u, k1, k3, hs, ht, u0, hu⟩ := (h.2.2.2.1 (a / 16) a64).1 z
    have f4 := (sf1 k (by omega) k1 (a % 16) (by omega)).2.2.2.1
    rw [if_pos z, mi_gd_no (by rw [hs]; exact f4)]
    unfold ob
    rw [decide_eq_true z, Bool.true_and]
    by_cases y : ((gm_tk τ (a / 16) >>> ((nI (a % 16) / gm_sz τ (a / 16)) &&& 31)) &&& (1 : Int32)) = (1 : Int32)
    · rw [if_pos y, decide_eq_true y]; rfl
    · rw [if_neg y, decide_eq_false y]; rfl
  · rw [if_neg z]
    unfold ob
    rw [decide_eq_false z, Bool.false_and]
    rfl
theorem c_bO {σ : CS} {τ : MS} (h : REL σ τ) {a k u : Nat} (ha : a < 1024) (z : gm_o τ (a / 16) = 2) (k1 : 1 ≤ k) (k3 : k ≤ 3) (hs : gm_sz τ (a / 16) = nI (2 ^ k)) : mc_Slabs_bitOf σ (nI a) = some (nI (2 ^ (a % 16 / 2 ^ k))) := by
  obtain ⟨d1, d2⟩ := d16 a ha
  have a64 : a / 16 < 64 := by omega
  obtain ⟨f1, f2, f3, f4, f5⟩ := sf1 k (by omega) k1 (a % 16) (by omega)
  obtain ⟨g1, -⟩ := (h.2.2.2.1 (a / 16) a64).1 z
  unfold mc_Slabs_bitOf
  rw [d2, d1, gi_n a64 (by omega), nI_clamp (by omega), g1, hs, if_neg f4, mi_gd_no f4, f1, f2]
theorem c_pA {σ : CS} {τ : MS} (h : REL σ τ) {a : Nat} (ha : a < 1024) : mc_Slabs_placeAt σ (nI a) = some (if ob τ a then nI a else -1) := by
  obtain ⟨d1, d2⟩ := d16 a ha
  have a64 : a / 16 < 64 := by omega
  have hlt : ¬ (1024 : Int32) ≤ nI a := fun z => absurd ((nI_leI (a := 1024) (by omega) (by omega)).mp z) (by omega)
  unfold mc_Slabs_placeAt
  rw [if_neg (nI_pos (by omega)), if_neg hlt, d1, gi_n a64 (by omega), nI_clamp (by omega), gi_c a64 (by omega)]
  by_cases z : gm_o τ (a / 16) = 2
  · obtain ⟨g1, g2, k, u, k1, k3, hs, ht, u0, hu⟩ := (h.2.2.2.1 (a / 16) a64).1 z
    obtain ⟨f1, f2, f3, f4, f5⟩ := sf1 k (by omega) k1 (a % 16) (by omega)
    rw [g1, hs, if_neg f4, c_bO h ha z k1 k3 hs (u := u), cp_r, g2, ht, ob_k z k1 k3 hs ht hu]
    have w := (sf2 u (sf3 k1 k3 hu) (a % 16 / 2 ^ k) f3).1
    cases e : u.testBit (a % 16 / 2 ^ k) with
    | true => rw [if_neg (fun y => by rw [w.mp y] at e; cases e), if_pos rfl]
    | false => rw [if_pos (w.mpr e), if_neg (by decide)]
  · obtain ⟨g1, g2⟩ := (h.2.2.2.1 (a / 16) a64).2 z
    rw [g1, if_pos rfl]
    unfold ob
    rw [decide_eq_false z, Bool.false_and, if_neg (by decide)]
/-- for every address -/
theorem sl_all {σ : CS} {τ : MS} (h : REL σ τ) (x : Int32) : (∃ a, a < 1024 ∧ x = nI a ∧ ob τ a = true ∧ mc_Slabs_placeAt σ x = some x ∧ mm_isObject τ x = some 1) ∨ (mc_Slabs_placeAt σ x = some (-1) ∧ mm_isObject τ x = some 0) := by
  by_cases h1 : x < 0
  · refine Or.inr ⟨?_, ?_⟩
    · unfold mc_Slabs_placeAt; rw [if_pos h1]
    · unfold mm_isObject; rw [m_inL h1]; rfl
  · by_cases h2 : (1024 : Int32) ≤ x
    · refine Or.inr ⟨?_, ?_⟩
      · unfold mc_Slabs_placeAt; rw [if_neg h1, if_pos h2]
      · unfold mm_isObject; rw [m_inG (show (1023 : Int32) < x from i_lt 1023 (by omega) h2)]; rfl
    · obtain ⟨a, ha, rfl⟩ := i_in 1024 (by omega) h1 h2
      cases e : ob τ a with
      | true => exact Or.inl ⟨a, ha, rfl, e, by rw [c_pA h ha, e, if_pos rfl], by rw [m_iO h ha, e]; rfl⟩
      | false => exact Or.inr ⟨by rw [c_pA h ha, e, if_neg (by decide)], by rw [m_iO h ha, e]; rfl⟩
/-! ===== kfree ===== -/
theorem sf4 : ∀ k, k < 4 → 1 ≤ k → ∀ a, a < 1024 → ((nI a - nI a / nI (2 ^ k) * nI (2 ^ k)) = nI (a % 2 ^ k) ∧ (nI (a % 16) - nI (a % 16) / nI (2 ^ k) * nI (2 ^ k)) = nI (a % 2 ^ k)) := by decide +kernel
theorem sf5 : ∀ u, u < 256 → ∀ j, j < 8 → (nI u &&& (nI (2 ^ j) ^^^ (-1 : Int32))) = nI (u &&& (255 - 2 ^ j)) ∧ (u &&& (255 - 2 ^ j)) ≤ u := by decide +kernel
def kcv (cx : Option (Int32 × Nat × CS)) (mx : Option MS) : Prop :=
  (∃ v σ' τ', cx = some (v, 0, σ') ∧ mx = some τ' ∧ gm_th τ' = 0 ∧ REL σ' τ') ∨ (∃ σ' τ', cx = some (0, 1, σ') ∧ mx = some τ' ∧ gm_th τ' = 1 ∧ REL σ' τ')
