/-! ===== load, store ===== -/
def kcl (cx : Option (Int32 × Nat × CS)) (mx : Option (Int32 × MS)) : Prop :=
  (∃ v σ' τ', cx = some (v, 0, σ') ∧ mx = some (v, τ') ∧ gm_th τ' = 0 ∧ REL σ' τ') ∨
  (∃ n b σ' τ', (n = 1 ∨ n = 2 ∨ n = 3) ∧ cx = some (0, n, σ') ∧ mx = some (b, τ') ∧ gm_th τ' = nI n ∧ REL σ' τ')
def kcs (cx : Option (Int32 × Nat × CS)) (mx : Option MS) : Prop :=
  (∃ v σ' τ', cx = some (v, 0, σ') ∧ mx = some τ' ∧ gm_th τ' = 0 ∧ REL σ' τ') ∨
  (∃ n σ' τ', (n = 1 ∨ n = 2 ∨ n = 3) ∧ cx = some (0, n, σ') ∧ mx = some τ' ∧ gm_th τ' = nI n ∧ REL σ' τ')
theorem pl_all {σ : CS} {τ : MS} (h : REL σ τ) (x y : Int32) : PL σ τ x y := by
  by_cases x1 : x = -1
  · rw [x1]; exact pl_1 h y
  · by_cases x2 : x = -2
    · rw [x2]; exact pl_2 h y
    · exact pl_3 h y x1 x2
theorem n3_p {n : Nat} (h : n = 1 ∨ n = 2 ∨ n = 3) : ¬ n = 0 ∧ ¬ nI n ≤ 0 := by
  rcases h with rfl | rfl | rfl <;> decide
theorem op_load {σ : CS} {τ : MS} (h : REL σ τ) (x y : Int32) : kcl (mc_load σ x y) (mm_load τ x y) := by
  rcases pl_all h x y with ⟨n, hn, hc, hm⟩ | ⟨a, σ', τ', ha, hc, hm, hp, hth, hR, o0, o1⟩
  · obtain ⟨n0, n1⟩ := n3_p hn
    refine Or.inr ⟨n, 0, σ, sm_th τ (nI n), hn, ?_, ?_, rfl, h⟩
    · unfold mc_load; rw [hc, tw_r, if_neg n0]
    · unfold mm_load; rw [hm, cp_r, tb_n n1]; rfl
  · refine Or.inl ⟨gm_w τ' a, σ', τ', ?_, ?_, hth, hR⟩
    · unfold mc_load
      rw [hc, tw_r, if_pos rfl, c_rd σ' ha, cp_r, hR.2.2.1 a ha o0]
    · unfold mm_load
      rw [hm, cp_r, tb_0, cw_r, if_pos rfl, hp, cw_r, gi_n ha (by omega), nI_clamp (by omega)]
theorem REL_wr {σ : CS} {τ : MS} (h : REL σ τ) {a : Nat} (v : Int32) (o1 : ¬ gm_o τ (a / 16) = 1) : REL (sc_w σ (upd (gc_w σ) a v)) (sm_w τ (upd (gm_w τ) a v)) := by
  refine REL_mk (RELs_w (RELs_of h) a v (gc_eo σ)) ?_
  refine RP_mono h.2.2.2.2.2.2.1.2.2 (fun g hg z => ⟨z, fun i hi => ?_⟩) (fun g _ z => ⟨z, rfl⟩) (fun g _ z => z)
  show upd (gm_w τ) a v (16 * g + i) = _
  rw [u_ne (fun y => o1 (by rw [← y, show (16 * g + i) / 16 = g by omega]; exact z))]
theorem op_store {σ : CS} {τ : MS} (h : REL σ τ) (x y v : Int32) : kcs (mc_store σ x y v) (mm_store τ x y v) := by
  rcases pl_all h x y with ⟨n, hn, hc, hm⟩ | ⟨a, σ', τ', ha, hc, hm, hp, hth, hR, o0, o1⟩
  · obtain ⟨n0, n1⟩ := n3_p hn
    refine Or.inr ⟨n, σ, sm_th τ (nI n), hn, ?_, ?_, rfl, h⟩
    · unfold mc_store; rw [hc, tw_r, if_neg n0]
    · unfold mm_store; rw [hm, cp_r, tb_n n1]; rfl
  · refine Or.inl ⟨0, sc_w σ' (upd (gc_w σ') a v), sm_w τ' (upd (gm_w τ') a v), ?_, ?_, hth, REL_wr hR v o1⟩
    · unfold mc_store
      rw [hc, tw_r, if_pos rfl, c_wr σ' ha, cv_r]
    · unfold mm_store
      rw [hm, cp_r, tb_0, cw_r, if_pos rfl, hp, cw_r, gi_n ha (by omega), nI_clamp (by omega)]
      rfl
/-! ===== word (whatever it answers), blocks ===== -/
theorem q_word (σ : CS) (τ : MS) (x y : Int32) : (∃ v, mc_word σ x y = some v) ∧ ∃ b, mm_word τ x y = some (b, sm_th τ 0) := by
  have out : mc_isFrame x = some 0 → mm_in x 0 63 = some 0 → (∃ v, mc_word σ x y = some v) ∧ ∃ b, mm_word τ x y = some (b, sm_th τ 0) := by
    intro h1 h2
    refine ⟨⟨0, ?_⟩, 0, ?_⟩
    · unfold mc_word; rw [h1]; rfl
    · unfold mm_word; rw [wr_r, h2]; rfl
  by_cases h1 : x < 0
  · exact out (by unfold mc_isFrame; rw [if_pos h1]) (m_inL h1)
  · by_cases h2 : (64 : Int32) ≤ x
    · exact out (by unfold mc_isFrame; rw [if_neg h1, if_pos h2]) (m_inG (show (63 : Int32) < x from i_lt 63 (by omega) h2))
    · obtain ⟨k, hk, rfl⟩ := i_in 64 (by omega) h1 h2
      have hmi : mm_in (nI k) (0 : Int32) (63 : Int32) = some 1 := m_inI (n := 63) hk (by omega)
      unfold mc_word mm_word
      rw [isF hk, cp_r, if_neg (show ¬ (1 : Int32) = 0 by decide), wr_r, hmi, cp_r, if_neg (show ¬ (1 : Int32) = 0 by decide)]
      by_cases y1 : y < 0
      · exact ⟨⟨0, by rw [if_pos y1]⟩, 0, by rw [m_inL y1]; rfl⟩
      · by_cases y2 : (16 : Int32) ≤ y
        · exact ⟨⟨0, by rw [if_neg y1, if_pos y2]⟩, 0, by rw [m_inG (show (15 : Int32) < y from i_lt 15 (by omega) y2)]; rfl⟩
        · obtain ⟨w, hw, rfl⟩ := i_in 16 (by omega) y1 y2
          have hmj : mm_in (nI w) (0 : Int32) (15 : Int32) = some 1 := m_inI (n := 15) hw (by omega)
          refine ⟨⟨gc_w σ (16 * k + w), ?_⟩, gm_w τ (16 * k + w), ?_⟩
          · rw [if_neg y1, if_neg y2, e16, c_rd σ (show 16 * k + w < 1024 by omega)]
            rfl
          · rw [hmj, cp_r, if_neg (show ¬ (1 : Int32) = 0 by decide), e16', gi_n (show 16 * k + w < 1024 by omega) (by omega), nI_clamp (by omega)]
theorem m_blo (τ : MS) {x : Int32} (h : mm_in x 0 6 = some 0) : mm_blocks τ x = some (0, sm_th τ 0) := by
  have e1 : ∃ b, mm_isBlock (sm_th τ 0) 0 64 = some (bi b) := ⟨_, m_bk (sm_th τ 0) (k := 6) (b := 0) (by omega) (by decide)⟩
  obtain ⟨b, e1⟩ := e1
  have e3 : mm_blocks_l29 299 x 0 64 64 (sm_th τ 0) = some (0, sm_th τ 0) := by
    show mm_blocks_b29 (mm_blocks_l29 298) x 0 64 64 (sm_th τ 0) = _
    unfold mm_blocks_b29
    rw [if_pos (by decide)]
  have e2 : mm_blocks_l29 FU x 0 64 0 (sm_th τ 0) = mm_blocks_l29 299 x 0 64 64 (sm_th τ 0) := by
    show mm_blocks_b29 (mm_blocks_l29 299) x 0 64 0 (sm_th τ 0) = _
    unfold mm_blocks_b29
    rw [if_neg (by decide), e1, cp_r]
    cases b with
    | false => rw [if_pos (show bi false = 0 from rfl)]; rfl
    | true => rw [if_neg (show ¬ bi true = 0 by decide), h, cp_r, if_pos rfl]; rfl
  unfold mm_blocks
  rw [wr_r, h, cp_r, if_pos rfl]
  exact e2.trans e3
theorem q_blk {σ : CS} {τ : MS} (h : REL σ τ) (x : Int32) : ∃ v, mc_blocks σ x = some v ∧ mm_blocks τ x = some (v, sm_th τ 0) := by
  by_cases h1 : x < 0
  · exact ⟨0, by unfold mc_blocks; rw [if_pos h1], m_blo τ (m_inL h1)⟩
  · by_cases h2 : x ≤ 6
    · obtain ⟨k, hk, rfl⟩ := i_n 6 (by omega) h1 h2
      exact q_blocks h (by omega)
    · exact ⟨0, by unfold mc_blocks; rw [if_neg h1, if_neg h2], m_blo τ (m_inG (le_lt h2))⟩
