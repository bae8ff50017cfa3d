/-! ===== munmap ===== -/
theorem REL_rg {σ : CS} {τ : MS} (h : REL σ τ) (k : Nat) (v : Int32) : REL (sc_rg σ (upd (gc_rg σ) k v)) (sm_rg τ (upd (gm_rg τ) k v)) := by
  obtain ⟨g1, g2, g3, g4, g5, g6, ⟨r1, r2, r3⟩, g8⟩ := h
  refine ⟨g1, g2, g3, g4, g5, g6, ⟨r1, ?_, r3⟩, g8⟩
  show upd (gc_rg σ) k v = upd (gm_rg τ) k v
  rw [r2]
theorem c_sr {σ : CS} {s p : Nat} (hs : s < 4) (hp : p < 256) (hc : mc_Spaces_isThere σ (nI s) = some 1) (v : Int32) : mc_Spaces_setRegion σ (nI s) (nI p) v = some (sc_rg σ (upd (gc_rg σ) (256 * s + p) (vp_nar .boolean v))) := by
  unfold mc_Spaces_setRegion
  rw [hc, cp_r, if_neg (by decide), isP hp, cp_r, if_neg (by decide), rgx, gi_n (show 256 * s + p < 1024 by omega) (by omega), nI_clamp (by omega)]
  rfl
theorem m_d0 {τ : MS} {s p : Nat} (h : mm_frameOf τ (nI s) (nI p) = some (-1)) : mm_drop τ (nI s) (nI p) = some (0, τ) := by
  unfold mm_drop
  rw [h, cp_r, if_neg (by decide)]
theorem mu_loop {s p m : Nat} (hs : s < 4) (hpm : p + m ≤ 256) (hm : m ≤ 64) (N : Nat) : ∀ (i c : Nat) (σ : CS) (τ : MS), i ≤ m → m - i < N → REL σ τ → ¬ gm_ro τ s = 0 →
    ∃ v σ' τ', mc_Spaces_takeFromRegion_l6 N (nI s) (nI p) (nI m) (nI c) (nI (p + i)) σ = some (v, σ') ∧ mm_munmap_l36 N (nI s) (nI p) (nI m) (nI c) (nI (p + i)) τ = some (v, τ') ∧ REL σ' τ' ∧ gm_th τ' = gm_th τ := by
  induction N with
  | zero => intro i c σ τ _ h; exact absurd h (Nat.not_lt_zero _)
  | succ N ih =>
    intro i c σ τ hi hN h hn
    show ∃ v σ' τ', mc_Spaces_takeFromRegion_b6 (mc_Spaces_takeFromRegion_l6 N) (nI s) (nI p) (nI m) (nI c) (nI (p + i)) σ = _ ∧ mm_munmap_b36 (mm_munmap_l36 N) (nI s) (nI p) (nI m) (nI c) (nI (p + i)) τ = _ ∧ _
    unfold mc_Spaces_takeFromRegion_b6 mm_munmap_b36
    rw [nI_add p m]
    by_cases e : i = m
    · subst e
      exact ⟨nI c, σ, τ, by rw [if_pos ((nI_leI (by omega) (by omega)).mpr (Nat.le_refl _))], by rw [if_pos ((nI_leI (by omega) (by omega)).mpr (Nat.le_refl _))], h, rfl⟩
    · have hq : p + i < 256 := by omega
      have hle : ¬ nI (p + m) ≤ nI (p + i) := fun z => absurd ((nI_leI (by omega) (by omega)).mp z) (by omega)
      have hc : mc_Spaces_isThere σ (nI s) = some 1 := by
        obtain ⟨r, r1, r2, -⟩ := pg h hs hq hn
        exact c_th hs r1 (by rw [h.2.2.2.2.2.2.1.1]; exact r2)
      have h1 := REL_rg h (256 * s + (p + i)) (vp_nar .boolean 0)
      rw [if_neg hle, if_neg hle, c_sr hs hq hc, cv_r, nI_1 (p + i), Nat.add_assoc]
      have hb : ∀ (y : Int32) (π : MS), mm_munmap_b63 (mm_munmap_l36 N) (nI s) (nI p) (nI m) (nI (p + i)) y π = mm_munmap_l36 N (nI s) (nI p) (nI m) y (nI (p + (i + 1))) (sm_rg π (upd (gm_rg π) (256 * s + (p + i)) (vp_nar .boolean 0))) := by
        intro y π
        unfold mm_munmap_b63
        rw [rgy, gi_n (show 256 * s + (p + i) < 1024 by omega) (by omega), nI_clamp (by omega), wr_r, nI_1, Nat.add_assoc]
      generalize hσ1 : sc_rg σ (upd (gc_rg σ) (256 * s + (p + i)) (vp_nar .boolean 0)) = σ1 at h1 ⊢
      have none' : mc_Spaces_frameOf σ1 (nI s) (nI (p + i)) = some (-1) → mm_frameOf τ (nI s) (nI (p + i)) = some (-1) → ∃ v σ' τ', (mi_cp (mc_Spaces_frameOf σ1 (nI s) (nI (p + i))) fun r2 => if r2 = (-1 : Int32) then mc_Spaces_takeFromRegion_l6 N (nI s) (nI p) (nI m) (nI c) (nI (p + (i + 1))) σ1 else mi_cv (mc_Spaces_removePage σ1 (nI s) (nI (p + i))) fun σ3 => mc_Spaces_takeFromRegion_l6 N (nI s) (nI p) (nI m) (nI c + (1 : Int32)) (nI (p + (i + 1))) σ3) = some (v, σ') ∧
          (mi_cw (mm_drop τ (nI s) (nI (p + i))) fun r5 σ4 => if r5 ≤ (0 : Int32) then mm_munmap_b63 (mm_munmap_l36 N) (nI s) (nI p) (nI m) (nI (p + i)) (nI c) σ4 else mm_munmap_b63 (mm_munmap_l36 N) (nI s) (nI p) (nI m) (nI (p + i)) (nI c + (1 : Int32)) σ4) = some (v, τ') ∧ REL σ' τ' ∧ gm_th τ' = gm_th τ := by
        intro q1 q2
        rw [q1, cp_r, if_pos rfl, m_d0 q2, cw_r, if_pos (by decide), hb]
        exact ih (i + 1) c _ _ (by omega) (by omega) h1 hn
      obtain ⟨r, r1, r2, r3, r4, r5, q⟩ := pg h1 hs hq hn
      rcases q with ⟨q0, q1, q2, q3, q4⟩ | ⟨t, t1, t2, t3, t4, t5, t6, ⟨q0, q1, q2⟩ | ⟨f, f1, f2, f3, f4, q1, q2⟩⟩
      · exact none' q2 q4
      · exact none' q1 q2
      · obtain ⟨σ2, τ2, n, d1, d2, d3, d4, d5, d6, d7⟩ := drop_sim h1 hs hq r1 t1 f1 r2 t2 r3 t3 f2 f3 f4
        rw [q1, cp_r, if_neg (n_ne (by omega)), d1, cv_r, d2, cw_r, if_neg d3, hb, nI_1, d7]
        obtain ⟨v, σ', τ', i1, i2, i3, i4⟩ := ih (i + 1) (c + 1) σ2 (sm_rg τ2 (upd (gm_rg τ) (256 * s + (p + i)) (vp_nar .boolean 0))) (by omega) (by omega) d4 (by show ¬ gm_ro τ2 s = 0; rw [d5]; exact hn)
        exact ⟨v, σ', τ', i1, i2, i3, i4.trans d6⟩
theorem op_munmap {σ : CS} {τ : MS} (h : REL σ τ) (x y z : Int32) : kc1 (mc_munmap σ x y z) (mm_munmap τ x y z) := by
  rcases cp_all h x y z with ⟨s, p, m, hs, rfl, rfl, rfl, m1, m64, hpm, hn, hc, hm, hcp, hrow⟩ | ⟨hcp, hr⟩
  · obtain ⟨v, σ', τ', i1, i2, i3, i4⟩ := mu_loop hs hpm m64 FU 0 0 σ (sm_th τ 0) (by omega) (show m - 0 < 300 by omega) h hn
    rw [Nat.add_zero] at i1 i2
    refine Or.inl ⟨v, σ', τ', ?_, ?_, i4, i3⟩
    · unfold mc_munmap mc_Spaces_takeFromRegion
      rw [hcp]
      show mi_cw (mc_Spaces_takeFromRegion_l6 FU (nI s) (nI p) (nI m) (nI 0) (nI p) σ) (fun r2 σ1 => some (r2, (0 : Nat), σ1)) = _
      rw [i1]
      rfl
    · unfold mm_munmap
      rw [hm, cp_r, if_neg (by decide), hrow, cp_r, if_neg (by decide)]
      unfold mm_munmap_b22
      rw [tb_0, cw_r, if_pos rfl]
      exact i2
  · refine Or.inr ⟨0, σ, sm_th τ 1, ?_, ?_, rfl, h⟩
    · unfold mc_munmap; rw [hcp]; rfl
    · unfold mm_munmap
      rcases hr with hm | ⟨hm, hrow⟩
      · rw [hm, cp_r, if_pos rfl]; rfl
      · rw [hm, cp_r, if_neg (by decide), hrow, cp_r, if_pos rfl]; rfl
