/-! ===== contig ===== -/
theorem UN_new {o o' rl : Nat → Int32} {b n : Nat} (h : UN o rl) (hbn : b + n ≤ 64) (n32 : n ≤ 32) (n1 : 1 ≤ n) (hb : ∀ i, i < n → ¬ o (b + i) = 5) (h5 : ∀ i, i < n → o' (b + i) = 5) (h' : UN o' rl) : UN o' (upd rl b (nI n)) := by
  obtain ⟨h1, h2⟩ := h
  have hin : ∀ q, b ≤ q → q < b + n → rl q = 0 := fun q q1 q2 => by
    obtain ⟨m, m1, m2, m3, m4⟩ := h1 q (by omega)
    by_cases z : m = 0
    · rw [m2, z]; rfl
    · exfalso
      have := hb (q - b) (by omega)
      rw [show b + (q - b) = q by omega] at this
      exact this (m4 0 (by omega))
  have hlo : ∀ p m, p < b → m ≤ 32 → rl p = nI m → p + m ≤ b := fun p m p1 m32 p2 => by
    obtain ⟨m', m1, m2, m3, m4⟩ := h1 p (by omega)
    have e : m' = m := (nI_eq (by omega) (by omega)).mp (m2.symm.trans p2)
    subst e
    by_cases z : p + m' ≤ b
    · exact z
    · exfalso
      have := m4 (b - p) (by omega)
      rw [show p + (b - p) = b by omega] at this
      exact hb 0 (by omega) this
  refine ⟨fun f hf => ?_, fun p q hpq hq hne m m32 hm => ?_⟩
  · by_cases z : f = b
    · subst z
      exact ⟨n, n32, u_eq, hbn, h5⟩
    · rw [u_ne z]
      exact h'.1 f hf
  · by_cases z : p = b
    · subst z
      rw [u_eq] at hm
      have e : n = m := (nI_eq (by omega) (by omega)).mp hm
      subst e
      rw [u_ne (by omega)] at hne
      by_cases y : p + n ≤ q
      · exact y
      · exact absurd (hin q (by omega) (by omega)) hne
    · rw [u_ne z] at hm
      by_cases y : q = b
      · rw [y]; exact hlo p m (by omega) m32 hm
      · rw [u_ne y] at hne
        exact h2 p q hpq hq hne m m32 hm
/-- the loops done, the run is written down -/
theorem CR_end {σ : CS} {τ : MS} {b n : Nat} (h : CR σ τ b n) (hbn : b + n ≤ 64) {rl : Nat → Int32} {o' w' : Nat → Int32} {x' : Int64} (hF : FB o' x') (ho : ∀ g, o' g = if b ≤ g ∧ g < b + n then 5 else gc_o σ g) (hw : ∀ j, w' j = if b ≤ j / 16 ∧ j / 16 < b + n then 0 else gc_w σ j) (hU : UN (gm_o τ) rl) :
    REL (sc_rl (sc_w (sc_fb (sc_o σ o') x') w') rl) (sm_rl τ rl) := by
  obtain ⟨c1, c2, -, cw, cz, hS, hE, -, hR, hm⟩ := h
  have eo : o' = gm_o τ := by
    funext g
    rw [ho, c1]
  refine ⟨eo, hF, fun j hj hn => ?_, hS, hE, ⟨rfl, hU⟩, hR, hm⟩
  have hn : ¬ gm_o τ (j / 16) = 0 := hn
  show w' j = gm_w τ j
  rw [hw]
  by_cases z : b ≤ j / 16 ∧ j / 16 < b + n
  · rw [if_pos z, cz j z.1 z.2]
  · rw [if_neg z]
    rw [c1, if_neg z] at hn
    exact cw j hj hn
theorem k5 : ∀ k, k < 6 → 2 ^ k ≤ 32 ∧ 1 ≤ 2 ^ k := by decide +kernel
theorem op_contig {σ : CS} {τ : MS} (h : REL σ τ) (x : Int32) : OK3 (mc_contig σ x) (mm_contig τ x) 2 := by
  have out : mc_contig σ x = some (0, 1, σ) → mm_in x 0 5 = some 0 → OK3 (mc_contig σ x) (mm_contig τ x) 2 := by
    intro h1 h2
    refine Or.inr (Or.inl ⟨0, σ, sm_th τ 1, h1, ?_, rfl, h⟩)
    unfold mm_contig
    rw [h2, cp_r, if_pos rfl]
    have w := m_la τ 0 (k := 0) (by omega)
    have w : mm_contig_b18 0 (1 : Int32) τ = _ := w
    rw [w]
    unfold mm_contig_b61
    rw [if_pos rfl]
    rfl
  by_cases h1 : x < 0
  · exact out (by unfold mc_contig; rw [if_pos h1]; rfl) (m_inL h1)
  · by_cases h2 : x ≤ 5
    · obtain ⟨k, hk, rfl⟩ := i_n 5 (by omega) h1 h2
      have k7 : k < 7 := by omega
      obtain ⟨n32, n1⟩ := k5 k (by omega)
      have hF := h.2.1
      have ho := h.1
      have hmm : mm_contig τ (nI k) = mm_contig_b61 1 (nI (2 ^ k)) (ok_ k (fp (abk (gm_o τ) k) 0 (64 / 2 ^ k))) τ := by
        unfold mm_contig
        have w : mm_in (nI k) 0 (5 : Int32) = some 1 := m_inI (n := 5) (by omega) (by omega)
        rw [w, cp_r, if_neg (by decide), (st_e k k7).2.1, m_la τ 1 k7]
      have hcm : mc_contig σ (nI k) = mi_cw (mc_Runs_add σ (nI k)) fun r2 σ1 => mi_tq (mc_orNotEnough r2) σ1 fun r3 => some (r3, 0, σ1) := by
        unfold mc_contig
        rw [if_neg h1, if_pos h2]
      rw [hmm, hcm]
      unfold mc_Runs_add mm_contig_b61
      rw [c_la hF k7, cp_r, ho, if_neg (show ¬ (1 : Int32) = 0 by decide), (st_e k k7).2.1]
      cases e : fp (abk (gm_o τ) k) 0 (64 / 2 ^ k) with
      | none =>
        refine Or.inr (Or.inr ⟨0, σ, sm_th τ 2, ?_, ?_, rfl, h⟩)
        · rw [if_pos (show ok_ k none = (-1 : Int32) from rfl)]; rfl
        · rw [show ok_ k none = (-1 : Int32) from rfl, if_neg (show ¬ (0 : Int32) ≤ -1 by decide)]; rfl
      | some c =>
        obtain ⟨-, c2, c3, -⟩ := fp_lt _ _ 0 c e
        have hbn : c * 2 ^ k + 2 ^ k ≤ 64 := hf_l k k7 c (by omega)
        rw [show ok_ k (some c) = nI (c * 2 ^ k) from rfl]
        have c3 : ab (gm_o τ) (c * 2 ^ k) (2 ^ k) = true := c3
        generalize c * 2 ^ k = b at hbn c3 ⊢
        generalize 2 ^ k = n at n32 n1 hbn c3 ⊢
        have b64 : b < 64 := by omega
        rw [if_neg (n_ne (by omega)), if_pos (nI_pos' (by omega))]
        unfold ab at c3
        obtain ⟨ab1, ab2⟩ := Bool.and_eq_true_iff.mp c3
        have ab1 : ∀ i, i < n → gm_o τ (b + i) = 0 ∨ gm_o τ (b + i) = 4 := of_decide_eq_true ab1
        have ab2 : ¬ cz (gm_o τ) 64 - cr (io (gm_o τ) 0) b n < cr (io (gm_o τ) 4) b n := fun z => by rw [decide_eq_true z] at ab2; cases ab2
        have hcz := cz_in (gm_o τ) hbn
        obtain ⟨σ1, τ1, i1, i2, i3, i4, i5⟩ := ct_loop hbn (300 - n) n 0 FU σ (sm_th τ 0) (by omega) (show n < 300 by omega) (CR_0 (REL_th h 0) b) (fun i _ hi => by rw [ho]; exact ab1 i hi) (by rw [ho]; unfold fu; rw [Nat.add_zero]; omega)
        have i1 : mc_Runs_movePagesOut σ (nI b) (nI n) = some σ1 := i1
        rw [show 300 - n + n = FU by show _ = 300; omega] at i2
        have i2 : mm_contig_l92 FU (nI n) (nI b) (nI b) (sm_th τ 0) = _ := i2
        obtain ⟨o', w', x', g1, g2, g3, g4⟩ := gv_loop σ1 hbn FU 0 (gc_o σ1) (gc_w σ1) (gc_fb σ1) (by omega) (show n - 0 < 300 by omega) i3.2.2.1
        have g1 : mc_Runs_add_l26 FU (nI n) (nI b) (nI b) σ1 = _ := g1
        have i4 : gm_th τ1 = 0 := i4
        have i5 : gm_rl τ1 = gm_rl τ := i5
        have hrl : gc_rl σ1 = gm_rl τ := i3.2.2.2.2.2.2.2.1.1.trans i5
        have hU : UN (gm_o τ1) (upd (gm_rl τ) b (nI n)) := by
          have hu1 := i3.2.2.2.2.2.2.2.1.2
          rw [i5] at hu1
          exact UN_new h.2.2.2.2.2.1.2 hbn n32 n1 (fun i hi z => by
            rcases ab1 i hi with y | y
            · rw [y] at z; exact absurd z (by decide)
            · rw [y] at z; exact absurd z (by decide)) (fun i hi => by rw [i3.1, if_pos (by omega)]) hu1
        refine Or.inl ⟨nI b, sc_rl (sc_w (sc_fb (sc_o σ1 o') x') w') (upd (gm_rl τ) b (nI n)), sm_rl τ1 (upd (gm_rl τ) b (nI n)), ?_, ?_, i4, CR_end i3 hbn g2 g3 g4 hU⟩
        · rw [i1, cv_r, g1]
          unfold mc_Runs_add_b50
          rw [gi_n b64 (by omega), nI_clamp (by omega), wr_r, cw_r]
          unfold mc_orNotEnough
          rw [if_neg (n_ne (by omega)), tq_r, ← hrl]
        · unfold mm_contig_b80
          rw [tb_0, cw_r, if_pos rfl, i2]
          obtain ⟨N, hN⟩ : ∃ N, 300 - n = N + 1 := ⟨299 - n, by omega⟩
          rw [hN]
          show mm_contig_b92 (mm_contig_l92 N) (nI n) (nI b) (nI (b + n)) τ1 = _
          unfold mm_contig_b92 mm_contig_b134
          rw [nI_add, if_pos ((nI_leI (by omega) (by omega)).mpr (Nat.le_refl _)), gi_n b64 (by omega), nI_clamp (by omega), wr_r, i5]
    · exact out (by unfold mc_contig; rw [if_neg h1, if_neg h2]; rfl) (m_inG (le_lt h2))
