/-! ===== taking the lowest free place of a slab ===== -/
def lz (u : Nat) : Nat := match fp (fun j => !u.testBit j) 0 9 with
  | some j => j
  | none => 0
theorem lz_a : ∀ k, k < 4 → 1 ≤ k → ∀ u, u < 2 ^ (16 / 2 ^ k) → fp (fun w => !u.testBit (w / 2 ^ k)) 0 16 = (if u = 2 ^ (16 / 2 ^ k) - 1 then none else some (lz u * 2 ^ k)) := by decide +kernel
theorem lz_b1 : ∀ k, k < 4 → 1 ≤ k → ∀ u, u < 2 ^ (16 / 2 ^ k) → ¬ u = 2 ^ (16 / 2 ^ k) - 1 → lz u < 8 := by decide +kernel
theorem lz_b2 : ∀ k, k < 4 → 1 ≤ k → ∀ u, u < 2 ^ (16 / 2 ^ k) → ¬ u = 2 ^ (16 / 2 ^ k) - 1 → lz u * 2 ^ k + 2 ^ k ≤ 16 := by decide +kernel
theorem lz_c1 : ∀ k, k < 4 → 1 ≤ k → ∀ u, u < 2 ^ (16 / 2 ^ k) → ¬ u = 2 ^ (16 / 2 ^ k) - 1 → (nI u ||| nI (2 ^ lz u)) = nI (u ||| 2 ^ lz u) := by decide +kernel
theorem lz_c2 : ∀ k, k < 4 → 1 ≤ k → ∀ u, u < 2 ^ (16 / 2 ^ k) → ¬ u = 2 ^ (16 / 2 ^ k) - 1 → (u ||| 2 ^ lz u) < 2 ^ (16 / 2 ^ k) := by decide +kernel
theorem lz_c3 : ∀ k, k < 4 → 1 ≤ k → ∀ u, u < 2 ^ (16 / 2 ^ k) → ¬ u = 2 ^ (16 / 2 ^ k) - 1 → 0 < (u ||| 2 ^ lz u) := by decide +kernel
theorem lz_d : ∀ k, k < 4 → 1 ≤ k → ∀ u, u < 2 ^ (16 / 2 ^ k) → ¬ u = 2 ^ (16 / 2 ^ k) - 1 → u.testBit (lz u) = false ∧ ∀ j, j < lz u → u.testBit j = true := by decide +kernel
theorem lz_k (k : Nat) (hk : k < 4) (k1 : 1 ≤ k) (u : Nat) (hu : u < 2 ^ (16 / 2 ^ k)) : (fp (fun w => !u.testBit (w / 2 ^ k)) 0 16 = if u = 2 ^ (16 / 2 ^ k) - 1 then none else some (lz u * 2 ^ k)) ∧
    (¬ u = 2 ^ (16 / 2 ^ k) - 1 → lz u < 8 ∧ lz u * 2 ^ k + 2 ^ k ≤ 16 ∧ lz u * 2 ^ k / 2 ^ k = lz u ∧ (nI u ||| nI (2 ^ lz u)) = nI (u ||| 2 ^ lz u) ∧ (u ||| 2 ^ lz u) < 2 ^ (16 / 2 ^ k) ∧ 0 < (u ||| 2 ^ lz u) ∧ u.testBit (lz u) = false ∧ ∀ j, j < lz u → u.testBit j = true) := by
  refine ⟨lz_a k hk k1 u hu, fun z => ?_⟩
  obtain ⟨d1, d2⟩ := lz_d k hk k1 u hu z
  exact ⟨lz_b1 k hk k1 u hu z, lz_b2 k hk k1 u hu z, Nat.mul_div_cancel _ (Nat.two_pow_pos k), lz_c1 k hk k1 u hu z, lz_c2 k hk k1 u hu z, lz_c3 k hk k1 u hu z, d1, d2⟩
theorem ft_k : ∀ k, k < 4 → 1 ≤ k → ((1 : Int32) <<< (((16 : Int32) / nI (2 ^ k)) &&& 31)) - (1 : Int32) = nI (2 ^ (16 / 2 ^ k) - 1) ∧ ¬ nI (2 ^ k) = (0 : Int32) ∧ 2 ^ k ≤ 8 ∧ 2 ^ (16 / 2 ^ k) ≤ 256 := by decide +kernel
theorem c_bO2 {σ : CS} {f w k : Nat} (hf : f < 64) (hw : w < 16) (k1 : 1 ≤ k) (k3 : k ≤ 3) (hs : gc_sz σ f = nI (2 ^ k)) : mc_Slabs_bitOf σ (nI (16 * f + w)) = some (nI (2 ^ (w / 2 ^ k))) := by
  obtain ⟨d1, d2⟩ := d16 (16 * f + w) (by omega)
  have ea : (16 * f + w) / 16 = f := by omega
  have eb : (16 * f + w) % 16 = w := by omega
  rw [ea] at d1
  rw [eb] at d2
  obtain ⟨f1, f2, f3, f4, f5⟩ := sf1 k (by omega) k1 w hw
  unfold mc_Slabs_bitOf
  rw [d2, d1, gi_n hf (by omega), nI_clamp (by omega), hs, if_neg f4, mi_gd_no f4, f1, f2]
theorem c_pA2 {σ : CS} {f w k u : Nat} (hf : f < 64) (hw : w < 16) (k1 : 1 ≤ k) (k3 : k ≤ 3) (hs : gc_sz σ f = nI (2 ^ k)) (ht : gc_tk σ f = nI u) (hu : u < 2 ^ (16 / 2 ^ k)) : mc_Slabs_placeAt σ (nI (16 * f + w)) = some (if u.testBit (w / 2 ^ k) then nI (16 * f + w) else -1) := by
  obtain ⟨d1, d2⟩ := d16 (16 * f + w) (by omega)
  have ea : (16 * f + w) / 16 = f := by omega
  rw [ea] at d1
  have hlt : ¬ (1024 : Int32) ≤ nI (16 * f + w) := fun z => absurd ((nI_leI (a := 1024) (by omega) (by omega)).mp z) (by omega)
  obtain ⟨f1, f2, f3, f4, f5⟩ := sf1 k (by omega) k1 w hw
  unfold mc_Slabs_placeAt
  rw [if_neg (nI_pos (by omega)), if_neg hlt, c_bO2 hf hw k1 k3 hs, d1, gi_n hf (by omega), nI_clamp (by omega), gi_c hf (by omega), hs, if_neg f4, cp_r, ht]
  have z := (sf2 u (sf3 k1 k3 hu) (w / 2 ^ k) f3).1
  cases e : u.testBit (w / 2 ^ k) with
  | true => rw [if_neg (fun y => by rw [z.mp y] at e; cases e), if_pos rfl]
  | false => rw [if_pos (z.mpr e), if_neg (by decide)]
theorem c_rml {σ : CS} {f k u : Nat} (hf : f < 64) (k1 : 1 ≤ k) (k3 : k ≤ 3) (hs : gc_sz σ f = nI (2 ^ k)) (ht : gc_tk σ f = nI u) (hu : u < 2 ^ (16 / 2 ^ k)) (N : Nat) : ∀ w, w ≤ 16 → 16 - w < N →
    mc_Slabs_lowestRoom_l2 N (nI f) (nI w) σ = some (match fp (fun w => !u.testBit (w / 2 ^ k)) w (16 - w) with | some v => nI (16 * f + v) | none => -1) := by
  induction N with
  | zero => intro w _ h; exact absurd h (Nat.not_lt_zero _)
  | succ N ih =>
    intro w hw hN
    show mc_Slabs_lowestRoom_b2 (mc_Slabs_lowestRoom_l2 N) (nI f) (nI w) σ = _
    unfold mc_Slabs_lowestRoom_b2
    by_cases e : w = 16
    · subst e
      rw [if_pos (show (16 : Int32) ≤ nI 16 by decide)]
      rfl
    · have h1 : w < 16 := by omega
      have e1 : nI f * (16 : Int32) + nI w = nI (16 * f + w) := by rw [show (16 : Int32) = nI 16 from rfl, nI_mu, nI_add, Nat.mul_comm]
      rw [if_neg (show ¬ (16 : Int32) ≤ nI w from fun z => absurd ((nI_leI (a := 16) (by omega) (by omega)).mp z) (by omega)), e1, c_pA2 hf h1 k1 k3 hs ht hu, cp_r, nI_1, show 16 - w = (16 - (w + 1)) + 1 by omega]
      show _ = some (match (if (!u.testBit (w / 2 ^ k)) then some w else fp (fun w => !u.testBit (w / 2 ^ k)) (w + 1) (16 - (w + 1))) with | some v => nI (16 * f + v) | none => -1)
      cases e2 : u.testBit (w / 2 ^ k) with
      | true =>
        rw [if_pos rfl, if_neg (n_ne (by omega)), if_neg (by decide)]
        exact ih (w + 1) (by omega) (by omega)
      | false => rw [if_neg (show ¬ (false = true) by decide), if_pos rfl, if_pos (by decide)]
theorem c_rm {σ : CS} {f k u : Nat} (hf : f < 64) (k1 : 1 ≤ k) (k3 : k ≤ 3) (hs : gc_sz σ f = nI (2 ^ k)) (ht : gc_tk σ f = nI u) (hu : u < 2 ^ (16 / 2 ^ k)) :
    mc_Slabs_lowestRoom σ (nI f) = some (if u = 2 ^ (16 / 2 ^ k) - 1 then -1 else nI (16 * f + lz u * 2 ^ k)) := by
  have h := c_rml hf k1 k3 hs ht hu FU 0 (by omega) (by decide)
  rw [Nat.sub_zero, (lz_k k (by omega) k1 u hu).1] at h
  unfold mc_Slabs_lowestRoom
  rw [show (0 : Int32) = nI 0 from rfl, h]
  by_cases z : u = 2 ^ (16 / 2 ^ k) - 1
  · rw [if_pos z, if_pos z]
  · rw [if_neg z, if_neg z]
theorem c_cll {a n : Nat} (han : a + n ≤ 1024) (N : Nat) : ∀ (i : Nat) (σ : CS) (w : Nat → Int32), i ≤ n → n - i < N → gc_w σ = fo w a i → mc_Frames_clear_l2 N (nI a) (nI n) (nI i) σ = some (sc_w σ (fo w a n)) := by
  induction N with
  | zero => intro i σ w _ h; exact absurd h (Nat.not_lt_zero _)
  | succ N ih =>
    intro i σ w hi hN hg
    show mc_Frames_clear_b2 (mc_Frames_clear_l2 N) (nI a) (nI n) (nI i) σ = _
    unfold mc_Frames_clear_b2
    by_cases e : i = n
    · subst e
      rw [if_pos ((nI_leI (by omega) (by omega)).mpr (Nat.le_refl _)), ← hg]
    · have hlt : ¬ (1024 : Int32) ≤ nI (a + i) := fun z => absurd ((nI_leI (a := 1024) (by omega) (by omega)).mp z) (by omega)
      rw [if_neg (fun z => absurd ((nI_leI (by omega) (by omega)).mp z) (by omega)), nI_add]
      unfold mc_Frames_write
      rw [if_neg (nI_pos (by omega)), if_neg hlt, gi_n (show a + i < 1024 by omega) (by omega), nI_clamp (by omega), wr_r, cv_r, nI_1]
      have := ih (i + 1) (sc_w σ (upd (gc_w σ) (a + i) 0)) w (by omega) (by omega) (by show upd (gc_w σ) (a + i) 0 = _; rw [hg, fo_s])
      rw [this]
theorem c_tl {σ : CS} {f k u : Nat} (hf : f < 64) (k1 : 1 ≤ k) (k3 : k ≤ 3) (hs : gc_sz σ f = nI (2 ^ k)) (ht : gc_tk σ f = nI u) (hu : u < 2 ^ (16 / 2 ^ k)) (hz : ¬ u = 2 ^ (16 / 2 ^ k) - 1) :
    mc_Slabs_takeLowest σ (nI f) (nI (2 ^ k)) = some (nI (16 * f + lz u * 2 ^ k), sc_w (sc_tk σ (upd (gc_tk σ) f (nI (u ||| 2 ^ lz u)))) (fo (gc_w σ) (16 * f + lz u * 2 ^ k) (2 ^ k))) := by
  obtain ⟨z1, z2, z3, z4, z5, z6, z7, z8⟩ := (lz_k k (by omega) k1 u hu).2 hz
  have hp : 0 < 2 ^ k := Nat.two_pow_pos k
  have hk8 := (ft_k k (by omega) k1).2.2.1
  unfold mc_Slabs_takeLowest
  rw [c_rm hf k1 k3 hs ht hu, cp_r, if_neg hz, if_neg (n_ne (by omega)), gi_n hf (by omega), nI_clamp (n := f) (by omega), c_bO2 hf (show lz u * 2 ^ k < 16 by omega) k1 k3 hs, cp_r, gi_c hf (by omega), z3, ht, z4, wr_r]
  unfold mc_Frames_clear
  rw [show (0 : Int32) = nI 0 from rfl, c_cll (show 16 * f + lz u * 2 ^ k + 2 ^ k ≤ 1024 by omega) FU 0 _ (gc_w σ) (by omega) (show 2 ^ k - 0 < 300 by omega) (by rw [fo_0]), cv_r]
/-! the reference -/
theorem m_zl {a n : Nat} (han : a + n ≤ 1024) (N : Nat) : ∀ (i : Nat) (τ : MS) (w : Nat → Int32), i ≤ n → n - i < N → gm_w τ = fo w a i → mm_kmalloc_l206 N (nI n) (nI a) (nI i) τ = some (nI a, sm_w τ (fo w a n)) := by
  induction N with
  | zero => intro i τ w _ h; exact absurd h (Nat.not_lt_zero _)
  | succ N ih =>
    intro i τ w hi hN hg
    show mm_kmalloc_b206 (mm_kmalloc_l206 N) (nI n) (nI a) (nI i) τ = _
    unfold mm_kmalloc_b206
    by_cases e : i = n
    · subst e
      rw [if_pos ((nI_leI (by omega) (by omega)).mpr (Nat.le_refl _)), ← hg]
    · rw [if_neg (fun z => absurd ((nI_leI (by omega) (by omega)).mp z) (by omega)), nI_add, gi_n (show a + i < 1024 by omega) (by omega), nI_clamp (by omega), wr_r, nI_1]
      have := ih (i + 1) (sm_w τ (upd (gm_w τ) (a + i) 0)) w (by omega) (by omega) (by show upd (gm_w τ) (a + i) 0 = _; rw [hg, fo_s])
      rw [this]
theorem m_pl {τ : MS} {f k u : Nat} (hf : f < 64) (k1 : 1 ≤ k) (k3 : k ≤ 3) (ht : gm_tk τ f = nI u) (hu : u < 2 ^ (16 / 2 ^ k)) (hz : ¬ u = 2 ^ (16 / 2 ^ k) - 1) (N : Nat) : ∀ i, i ≤ lz u → lz u - i < N →
    mm_kmalloc_l151 N (nI (2 ^ k)) (nI f) (nI i) τ = mm_kmalloc_b175 (nI (2 ^ k)) (nI f) (nI (lz u)) τ := by
  obtain ⟨z1, z2, z3, z4, z5, z6, z7, z8⟩ := (lz_k k (by omega) k1 u hu).2 hz
  induction N with
  | zero => intro i _ h; exact absurd h (Nat.not_lt_zero _)
  | succ N ih =>
    intro i hi hN
    show mm_kmalloc_b151 (mm_kmalloc_l151 N) (nI (2 ^ k)) (nI f) (nI i) τ = _
    unfold mm_kmalloc_b151
    have w := (sf2 u (sf3 k1 k3 hu) i (by omega)).2
    rw [gi_n hf (by omega), nI_clamp (n := f) (by omega), ht, nI_1]
    by_cases e : i = lz u
    · rw [if_neg (fun y => by have := w.mp y; rw [e, z7] at this; cases this), e]
    · rw [if_pos (w.mpr (z8 i (by omega)))]
      exact ih (i + 1) (by omega) (by omega)
theorem m_tl {τ : MS} {f k u : Nat} (hf : f < 64) (k1 : 1 ≤ k) (k3 : k ≤ 3) (ht : gm_tk τ f = nI u) (hu : u < 2 ^ (16 / 2 ^ k)) (hz : ¬ u = 2 ^ (16 / 2 ^ k) - 1) :
    mm_kmalloc_l151 FU (nI (2 ^ k)) (nI f) 0 τ = some (nI (16 * f + lz u * 2 ^ k), sm_w (sm_tk τ (upd (gm_tk τ) f (nI (u ||| 2 ^ lz u)))) (fo (gm_w τ) (16 * f + lz u * 2 ^ k) (2 ^ k))) := by
  obtain ⟨z1, z2, z3, z4, z5, z6, z7, z8⟩ := (lz_k k (by omega) k1 u hu).2 hz
  have hp : 0 < 2 ^ k := Nat.two_pow_pos k
  have hk8 := (ft_k k (by omega) k1).2.2.1
  have h := m_pl hf k1 k3 ht hu hz FU 0 (by omega) (show lz u - 0 < 300 by omega)
  have h : mm_kmalloc_l151 FU (nI (2 ^ k)) (nI f) 0 τ = _ := h
  rw [h]
  unfold mm_kmalloc_b175
  have eb : ((1 : Int32) <<< (nI (lz u) &&& 31)) = nI (2 ^ lz u) := by
    have w := (sf1 k (by omega) k1 (lz u * 2 ^ k) (by omega)).2.1
    rw [z3] at w
    exact w
  have ea : (16 : Int32) * nI f + nI (2 ^ k) * nI (lz u) = nI (16 * f + lz u * 2 ^ k) := by
    rw [show (16 : Int32) = nI 16 from rfl, nI_mu, nI_mu, nI_add, Nat.mul_comm (2 ^ k)]
  rw [gi_n hf (by omega), gi_n hf (by omega), nI_clamp (n := f) (by omega), ht, eb, z4, wr_r, ea]
  exact m_zl (show 16 * f + lz u * 2 ^ k + 2 ^ k ≤ 1024 by omega) FU 0 _ (gm_w τ) (by omega) (show 2 ^ k - 0 < 300 by omega) (by rw [fo_0])
