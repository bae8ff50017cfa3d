/-! ===== spaces that are there; rows of pages ===== -/
theorem sp_all {σ : CS} {τ : MS} (h : REL σ τ) (x : Int32) : (∃ s, s < 4 ∧ x = nI s ∧ ¬ gm_ro τ s = 0 ∧ mc_Spaces_isThere σ x = some 1 ∧ mm_isSpace τ x = some 1) ∨ (mc_Spaces_isThere σ x = some 0 ∧ mm_isSpace τ x = some 0) := by
  by_cases h1 : x < 0
  · refine Or.inr ⟨?_, ?_⟩
    · unfold mc_Spaces_isThere; rw [if_pos h1]
    · unfold mm_isSpace; rw [m_inL h1]; rfl
  · by_cases h2 : (4 : Int32) ≤ x
    · refine Or.inr ⟨?_, ?_⟩
      · unfold mc_Spaces_isThere; rw [if_neg h1, if_pos h2]
      · unfold mm_isSpace; rw [m_inG (show (3 : Int32) < x from i_lt 3 (by omega) h2)]; rfl
    · obtain ⟨s, hs, rfl⟩ := i_in 4 (by omega) h1 h2
      obtain ⟨-, -, -, -, -, -, ⟨r1, r2, ⟨K, r3⟩, -⟩, -⟩ := h
      have hmi : mm_in (nI s) (0 : Int32) (3 : Int32) = some 1 := m_inI (n := 3) hs (by omega)
      have hc : mc_Spaces_isThere σ (nI s) = if gm_ro τ s = 0 then some 0 else some 1 := by
        unfold mc_Spaces_isThere
        rw [if_neg h1, if_neg h2, gi_n hs (by omega), nI_clamp (by omega), r1]
      have hm : mm_isSpace τ (nI s) = if gm_ro τ s ≤ 0 then some 0 else some 1 := by
        unfold mm_isSpace
        rw [hmi, cp_r, if_neg (by decide), gi_n hs (by omega), nI_clamp (by omega)]
      rcases r3 s hs with z | ⟨r, a, b, -⟩
      · exact Or.inr ⟨by rw [hc, if_pos z], by rw [hm, if_pos (by rw [z]; decide)]⟩
      · have hn : ¬ gm_ro τ s = 0 := by rw [b]; exact fun y => absurd ((nI_eq (b := 0) (by omega) (by omega)).mp y) (by omega)
        exact Or.inl ⟨s, hs, rfl, hn, by rw [hc, if_neg hn], by rw [hm, if_neg (by rw [b]; exact nI_nle (by omega) (by omega))]⟩
theorem m256 : ∀ m, m < 65 → (256 : Int32) - nI m = nI (256 - m) := by decide +kernel
theorem i_n (n : Nat) (hn : n + 1 < 2 ^ 31) {x : Int32} (h1 : ¬ x < 0) (h2 : x ≤ nI n) : ∃ k, k ≤ n ∧ x = nI k := by
  obtain ⟨k, hk, rfl⟩ := nI_of h1
  exact ⟨k, (nI_leI hk (by omega)).mp h2, rfl⟩
theorem lt_1 {x : Int32} (h : ¬ x < 1) : ¬ x < 0 := fun z => h (by
  rw [Int32.lt_iff_toInt_lt] at z ⊢
  have e0 : (0 : Int32).toInt = 0 := by decide
  have e1 : (1 : Int32).toInt = 1 := by decide
  omega)
theorem le_lt {x y : Int32} (h : ¬ x ≤ y) : y < x := by
  rw [Int32.le_iff_toInt_le] at h
  rw [Int32.lt_iff_toInt_lt]
  omega
theorem nlt_le {x y : Int32} (h : x ≤ y) : ¬ y < x := by
  rw [Int32.le_iff_toInt_le] at h
  rw [Int32.lt_iff_toInt_lt]
  omega
/-- the check of space and pages -/
theorem cp_all {σ : CS} {τ : MS} (h : REL σ τ) (x y z : Int32) : (∃ s p m, s < 4 ∧ x = nI s ∧ y = nI p ∧ z = nI m ∧ 1 ≤ m ∧ m ≤ 64 ∧ p + m ≤ 256 ∧ ¬ gm_ro τ s = 0 ∧ mc_Spaces_isThere σ x = some 1 ∧ mm_isSpace τ x = some 1 ∧ mc_checkPages σ x y z = some (0, 0) ∧ mm_isRow y z = some 1) ∨
    (mc_checkPages σ x y z = some (0, 1) ∧ (mm_isSpace τ x = some 0 ∨ (mm_isSpace τ x = some 1 ∧ mm_isRow y z = some 0))) := by
  rcases sp_all h x with ⟨s, hs, rfl, hn, hc, hm⟩ | ⟨hc, hm⟩
  · have hcs : mc_checkSpace σ (nI s) = some (0, 0) := by unfold mc_checkSpace; rw [hc]; rfl
    have hcp : mc_checkPages σ (nI s) y z = if z < (1 : Int32) then some (0, 1) else if z ≤ (64 : Int32) then (if y < (0 : Int32) then some (0, 1) else if y ≤ ((256 : Int32) - z) then some (0, 0) else some (0, 1)) else some (0, 1) := by
      unfold mc_checkPages
      rw [hcs]
      rfl
    by_cases z1 : z < (1 : Int32)
    · exact Or.inr ⟨by rw [hcp, if_pos z1], Or.inr ⟨hm, by unfold mm_isRow; rw [m_inL z1]; rfl⟩⟩
    · by_cases z2 : z ≤ (64 : Int32)
      · have hi1 : mm_in z 1 64 = some 1 := by unfold mm_in; rw [if_neg z1, if_neg (nlt_le z2)]
        by_cases y1 : y < (0 : Int32)
        · exact Or.inr ⟨by rw [hcp, if_neg z1, if_pos z2, if_pos y1], Or.inr ⟨hm, by unfold mm_isRow; rw [hi1, cp_r, if_neg (by decide), m_inL y1]; rfl⟩⟩
        · by_cases y2 : y ≤ (256 : Int32) - z
          · obtain ⟨m, m1, rfl⟩ := i_n 64 (by omega) (lt_1 z1) z2
            have mp : 1 ≤ m := by
              rcases Nat.eq_zero_or_pos m with w | w
              · subst w; exact absurd (show nI 0 < 1 by decide) z1
              · exact w
            rw [m256 m (by omega)] at y2
            obtain ⟨p, p1, rfl⟩ := i_n (256 - m) (by omega) y1 y2
            refine Or.inl ⟨s, p, m, hs, rfl, rfl, rfl, mp, m1, by omega, hn, hc, hm, ?_, ?_⟩
            · rw [hcp, if_neg z1, if_pos z2, if_neg y1, m256 m (by omega), if_pos y2]
            · unfold mm_isRow
              rw [hi1, cp_r, if_neg (by decide), m256 m (by omega)]
              have : mm_in (nI p) (0 : Int32) (nI (256 - m)) = some 1 := m_inI (by omega) (by omega)
              rw [this]; rfl
          · exact Or.inr ⟨by rw [hcp, if_neg z1, if_pos z2, if_neg y1, if_neg y2], Or.inr ⟨hm, by unfold mm_isRow; rw [hi1, cp_r, if_neg (by decide), m_inG (le_lt y2)]; rfl⟩⟩
      · exact Or.inr ⟨by rw [hcp, if_neg z1, if_neg z2], Or.inr ⟨hm, by unfold mm_isRow; rw [m_inG (le_lt z2)]; rfl⟩⟩
  · refine Or.inr ⟨?_, Or.inl hm⟩
    unfold mc_checkPages mc_checkSpace
    rw [hc]
    rfl
/-! ===== mmap ===== -/
def an (rg : Nat → Int32) (a : Nat) : Nat → Bool
  | 0 => false
  | n + 1 => !decide (rg a = 0) || an rg (a + 1) n
def us (rg : Nat → Int32) (a : Nat) (v : Int32) : Nat → Nat → Int32
  | 0 => rg
  | n + 1 => upd (us rg a v n) (a + n) v
theorem isP {p : Nat} (h : p < 256) : mc_Spaces_isPage (nI p) = some 1 := by
  unfold mc_Spaces_isPage
  rw [if_neg (nI_pos (by omega)), if_neg (show ¬ (256 : Int32) ≤ nI p from fun z => absurd ((nI_leI (a := 256) (by omega) (by omega)).mp z) (by omega))]
theorem rgx {s q : Nat} : nI s * (256 : Int32) + nI q = nI (256 * s + q) := by
  rw [show (256 : Int32) = nI 256 from rfl, nI_mu, nI_add, Nat.mul_comm]
theorem rgy {s q : Nat} : (256 : Int32) * nI s + nI q = nI (256 * s + q) := by
  rw [show (256 : Int32) = nI 256 from rfl, nI_mu, nI_add]
theorem c_anl {σ : CS} {s p m : Nat} (hs : s < 4) (hpm : p + m ≤ 256) (hc : mc_Spaces_isThere σ (nI s) = some 1) (N : Nat) : ∀ i, i ≤ m → m - i < N → mc_Spaces_anyInRegion_l3 N (nI s) (nI p) (nI m) (nI (p + i)) σ = some (bi (an (gc_rg σ) (256 * s + (p + i)) (m - i))) := by
  induction N with
  | zero => intro i _ h; exact absurd h (Nat.not_lt_zero _)
  | succ N ih =>
    intro i hi hN
    show mc_Spaces_anyInRegion_b3 (mc_Spaces_anyInRegion_l3 N) (nI s) (nI p) (nI m) (nI (p + i)) σ = _
    unfold mc_Spaces_anyInRegion_b3
    rw [nI_add p m]
    by_cases e : i = m
    · subst e
      rw [if_pos ((nI_leI (by omega) (by omega)).mpr (Nat.le_refl _)), Nat.sub_self]
      rfl
    · have hir : mc_Spaces_isInRegion σ (nI s) (nI (p + i)) = if gc_rg σ (256 * s + (p + i)) = 0 then some 0 else some 1 := by
        unfold mc_Spaces_isInRegion
        rw [hc, cp_r, if_neg (by decide), isP (by omega), cp_r, if_neg (by decide), rgx, gi_n (show 256 * s + (p + i) < 1024 by omega) (by omega), nI_clamp (by omega)]
      rw [if_neg (fun z => absurd ((nI_leI (by omega) (by omega)).mp z) (by omega)), hir, show m - i = (m - (i + 1)) + 1 by omega, nI_1, Nat.add_assoc]
      show _ = some (bi (!decide (gc_rg σ (256 * s + (p + i)) = 0) || an (gc_rg σ) (256 * s + (p + i) + 1) (m - (i + 1))))
      by_cases z : gc_rg σ (256 * s + (p + i)) = 0
      · rw [if_pos z, cp_r, if_pos rfl, decide_eq_true z, Bool.not_true, Bool.false_or]
        exact ih (i + 1) (by omega) (by omega)
      · rw [if_neg z, cp_r, if_neg (by decide), decide_eq_false z, Bool.not_false, Bool.true_or]
        rfl
theorem m_anl {τ : MS} {s p m : Nat} (hs : s < 4) (hpm : p + m ≤ 256) (N : Nat) : ∀ i, i ≤ m → m - i + 1 < N → mm_mmap_l26 N (nI s) (nI p) (nI m) 1 (nI (p + i)) τ = mm_mmap_b68 (nI s) (nI p) (nI m) (bi (!an (gm_rg τ) (256 * s + (p + i)) (m - i))) τ := by
  induction N with
  | zero => intro i _ h; exact absurd h (Nat.not_lt_zero _)
  | succ N ih =>
    intro i hi hN
    show mm_mmap_b26 (mm_mmap_l26 N) (nI s) (nI p) (nI m) 1 (nI (p + i)) τ = _
    unfold mm_mmap_b26
    rw [nI_add p m, if_neg (show ¬ (1 : Int32) = 0 by decide)]
    by_cases e : i = m
    · subst e
      rw [if_pos ((nI_leI (by omega) (by omega)).mpr (Nat.le_refl _)), Nat.sub_self]
      rfl
    · rw [if_neg (fun z => absurd ((nI_leI (by omega) (by omega)).mp z) (by omega)), rgy, gi_n (show 256 * s + (p + i) < 1024 by omega) (by omega), nI_clamp (by omega), show m - i = (m - (i + 1)) + 1 by omega, nI_1, Nat.add_assoc]
      show _ = mm_mmap_b68 (nI s) (nI p) (nI m) (bi (!(!decide (gm_rg τ (256 * s + (p + i)) = 0) || an (gm_rg τ) (256 * s + (p + i) + 1) (m - (i + 1))))) τ
      by_cases z : gm_rg τ (256 * s + (p + i)) = 0
      · rw [if_pos z, decide_eq_true z, Bool.not_true, Bool.false_or]
        exact ih (i + 1) (by omega) (by omega)
      · rw [if_neg z, decide_eq_false z, Bool.not_false, Bool.true_or]
        obtain ⟨M, rfl⟩ : ∃ M, N = M + 1 := ⟨N - 1, by omega⟩
        show mm_mmap_b26 (mm_mmap_l26 M) (nI s) (nI p) (nI m) 0 (nI (p + (i + 1))) τ = _
        unfold mm_mmap_b26
        rw [if_pos rfl]
        rfl
theorem c_pul {σ : CS} {s p m : Nat} (hs : s < 4) (hpm : p + m ≤ 256) (hc : mc_Spaces_isThere σ (nI s) = some 1) (N : Nat) : ∀ i, i ≤ m → m - i < N → mc_Spaces_putInRegion_l3 N (nI s) (nI p) (nI m) (nI (p + i)) (sc_rg σ (us (gc_rg σ) (256 * s + p) (vp_nar .boolean 1) i)) = some (sc_rg σ (us (gc_rg σ) (256 * s + p) (vp_nar .boolean 1) m)) := by
  induction N with
  | zero => intro i _ h; exact absurd h (Nat.not_lt_zero _)
  | succ N ih =>
    intro i hi hN
    show mc_Spaces_putInRegion_b3 (mc_Spaces_putInRegion_l3 N) (nI s) (nI p) (nI m) (nI (p + i)) _ = _
    unfold mc_Spaces_putInRegion_b3
    rw [nI_add p m]
    by_cases e : i = m
    · subst e
      rw [if_pos ((nI_leI (by omega) (by omega)).mpr (Nat.le_refl _))]
    · have hst : mc_Spaces_setRegion (sc_rg σ (us (gc_rg σ) (256 * s + p) (vp_nar .boolean 1) i)) (nI s) (nI (p + i)) 1 = some (sc_rg σ (us (gc_rg σ) (256 * s + p) (vp_nar .boolean 1) (i + 1))) := by
        unfold mc_Spaces_setRegion
        have hc2 : mc_Spaces_isThere (sc_rg σ (us (gc_rg σ) (256 * s + p) (vp_nar .boolean 1) i)) (nI s) = some 1 := hc
        rw [hc2, cp_r, if_neg (by decide), isP (by omega), cp_r, if_neg (by decide), rgx, gi_n (show 256 * s + (p + i) < 1024 by omega) (by omega), nI_clamp (by omega), wr_r, ← Nat.add_assoc]
        rfl
      rw [if_neg (fun z => absurd ((nI_leI (by omega) (by omega)).mp z) (by omega)), hst, cv_r, nI_1, Nat.add_assoc]
      exact ih (i + 1) (by omega) (by omega)
theorem m_pul {τ : MS} {s p m : Nat} (hs : s < 4) (hpm : p + m ≤ 256) (N : Nat) : ∀ i, i ≤ m → m - i < N → mm_mmap_l89 N (nI s) (nI p) (nI m) (nI (p + i)) (sm_rg τ (us (gm_rg τ) (256 * s + p) (vp_nar .boolean 1) i)) = some (sm_rg τ (us (gm_rg τ) (256 * s + p) (vp_nar .boolean 1) m)) := by
  induction N with
  | zero => intro i _ h; exact absurd h (Nat.not_lt_zero _)
  | succ N ih =>
    intro i hi hN
    show mm_mmap_b89 (mm_mmap_l89 N) (nI s) (nI p) (nI m) (nI (p + i)) _ = _
    unfold mm_mmap_b89
    rw [nI_add p m]
    by_cases e : i = m
    · subst e
      rw [if_pos ((nI_leI (by omega) (by omega)).mpr (Nat.le_refl _))]
    · rw [if_neg (fun z => absurd ((nI_leI (by omega) (by omega)).mp z) (by omega)), rgy, gi_n (show 256 * s + (p + i) < 1024 by omega) (by omega), nI_clamp (by omega), wr_r, nI_1, ← Nat.add_assoc, Nat.add_assoc p i 1]
      exact ih (i + 1) (by omega) (by omega)
theorem op_mmap {σ : CS} {τ : MS} (h : REL σ τ) (x y z : Int32) : kcv (mc_mmap σ x y z) (mm_mmap τ x y z) := by
  have bad : mm_mmap τ x y z = mm_mmap_l26 FU x y z 0 y τ → mm_mmap τ x y z = some (sm_th τ 1) := fun e => by rw [e]; rfl
  rcases cp_all h x y z with ⟨s, p, m, hs, rfl, rfl, rfl, m1, m64, hpm, hn, hc, hm, hcp, hrow⟩ | ⟨hcp, hr⟩
  · have hanC : mc_Spaces_anyInRegion σ (nI s) (nI p) (nI m) = some (bi (an (gm_rg τ) (256 * s + p) m)) := by
      have w := c_anl hs hpm hc FU 0 (by omega) (show m - 0 < 300 by omega)
      rw [Nat.add_zero, Nat.sub_zero, h.2.2.2.2.2.2.1.2.1] at w
      exact w
    have hanM : mm_mmap τ (nI s) (nI p) (nI m) = mm_mmap_b68 (nI s) (nI p) (nI m) (bi (!an (gm_rg τ) (256 * s + p) m)) τ := by
      unfold mm_mmap
      rw [hm, cp_r, if_neg (by decide), hrow, cp_r, if_neg (by decide)]
      have w := m_anl (τ := τ) hs hpm FU 0 (by omega) (show m - 0 + 1 < 300 by omega)
      rw [Nat.add_zero, Nat.sub_zero] at w
      exact w
    rw [hanM]
    unfold mc_mmap
    rw [hcp]
    show kcv (mi_cp (mc_Spaces_anyInRegion σ (nI s) (nI p) (nI m)) _) _
    rw [hanC, cp_r]
    cases e : an (gm_rg τ) (256 * s + p) m with
    | true => exact Or.inr ⟨σ, sm_th τ 1, rfl, rfl, rfl, h⟩
    | false =>
      have w1 := c_pul (σ := σ) hs hpm hc FU 0 (by omega) (show m - 0 < 300 by omega)
      have w2 := m_pul (τ := sm_th τ 0) hs hpm FU 0 (by omega) (show m - 0 < 300 by omega)
      rw [Nat.add_zero] at w1 w2
      refine Or.inl ⟨0, sc_rg σ (us (gc_rg σ) (256 * s + p) (vp_nar .boolean 1) m), sm_rg (sm_th τ 0) (us (gm_rg τ) (256 * s + p) (vp_nar .boolean 1) m), ?_, ?_, rfl, ?_⟩
      · rw [if_pos (show bi false = 0 from rfl)]
        have w1 : mc_Spaces_putInRegion σ (nI s) (nI p) (nI m) = _ := w1
        rw [w1]
        rfl
      · show mm_mmap_b68 (nI s) (nI p) (nI m) 1 τ = _
        unfold mm_mmap_b68
        rw [if_neg (by decide)]
        unfold mm_mmap_b79
        rw [tb_0, cw_r, if_pos rfl]
        exact w2
      · obtain ⟨g1, g2, g3, g4, g5, g6, ⟨r1, r2, r3⟩, g8⟩ := h
        refine ⟨g1, g2, g3, g4, g5, g6, ⟨r1, ?_, r3⟩, g8⟩
        show us (gc_rg σ) _ _ m = us (gm_rg τ) _ _ m
        rw [r2]
  · refine Or.inr ⟨σ, sm_th τ 1, ?_, bad ?_, rfl, h⟩
    · unfold mc_mmap; rw [hcp]; rfl
    · unfold mm_mmap
      rcases hr with hm | ⟨hm, hrow⟩
      · rw [hm, cp_r, if_pos rfl]
      · rw [hm, cp_r, if_neg (by decide), hrow, cp_r, if_pos rfl]
