/-! ===== pages ===== -/
theorem c_rd (σ : CS) {a : Nat} (ha : a < 1024) : mc_Frames_read σ (nI a) = some (gc_w σ a) := by
  unfold mc_Frames_read
  rw [if_neg (nI_pos (by omega)), if_neg (show ¬ (1024 : Int32) ≤ nI a from fun z => absurd ((nI_leI (a := 1024) (by omega) (by omega)).mp z) (by omega)), gi_n ha (by omega), nI_clamp (by omega)]
theorem c_wr (σ : CS) {a : Nat} (ha : a < 1024) (v : Int32) : mc_Frames_write σ (nI a) v = some (sc_w σ (upd (gc_w σ) a v)) := by
  unfold mc_Frames_write
  rw [if_neg (nI_pos (by omega)), if_neg (show ¬ (1024 : Int32) ≤ nI a from fun z => absurd ((nI_leI (a := 1024) (by omega) (by omega)).mp z) (by omega)), gi_n ha (by omega), nI_clamp (by omega)]
  rfl
theorem e16 (r i : Nat) : nI r * (16 : Int32) + nI i = nI (16 * r + i) := by rw [show (16 : Int32) = nI 16 from rfl, nI_mu, nI_add, Nat.mul_comm]
theorem e16' (r i : Nat) : (16 : Int32) * nI r + nI i = nI (16 * r + i) := by rw [show (16 : Int32) = nI 16 from rfl, nI_mu, nI_add]
/-- what both sides see of page p of a space that is there -/
def PG (σ : CS) (τ : MS) (s p r : Nat) : Prop :=
  r < 64 ∧ gm_ro τ s = nI (r + 1) ∧ gm_o τ r = 1 ∧ mm_rootEntry τ (nI s) (nI p) = some (nI (16 * r + p / 16)) ∧ mc_Spaces_rootEntry σ (nI s) (nI p) = some (nI (16 * r + p / 16)) ∧
  ((gm_w τ (16 * r + p / 16) = 0 ∧ mc_Spaces_tableOf σ (nI s) (nI p) = some (-1) ∧ mc_Spaces_frameOf σ (nI s) (nI p) = some (-1) ∧ mm_hasTable τ (nI s) (nI p) = some 0 ∧ mm_frameOf τ (nI s) (nI p) = some (-1)) ∨
   ∃ t, t < 64 ∧ gm_w τ (16 * r + p / 16) = nI (t + 1) ∧ gm_o τ t = 1 ∧ mc_Spaces_tableOf σ (nI s) (nI p) = some (nI t) ∧ mm_hasTable τ (nI s) (nI p) = some 1 ∧ mm_entry τ (nI s) (nI p) = some (nI (16 * t + p % 16)) ∧
    ((gm_w τ (16 * t + p % 16) = 0 ∧ mc_Spaces_frameOf σ (nI s) (nI p) = some (-1) ∧ mm_frameOf τ (nI s) (nI p) = some (-1)) ∨
     ∃ f, f < 64 ∧ gm_w τ (16 * t + p % 16) = nI (f + 1) ∧ gm_o τ f = 4 ∧ gc_eo σ f = nI (16 * t + p % 16) ∧ mc_Spaces_frameOf σ (nI s) (nI p) = some (nI f) ∧ mm_frameOf τ (nI s) (nI p) = some (nI f)))
theorem pg {σ : CS} {τ : MS} (h : REL σ τ) {s p : Nat} (hs : s < 4) (hp : p < 256) (hn : ¬ gm_ro τ s = 0) : ∃ r, PG σ τ s p r := by
  have hit : mc_Spaces_isThere σ (nI s) = some 1 := by
    rcases sp_all h (nI s) with ⟨s', hs', e, hn', hc, hm⟩ | ⟨hc, hm⟩
    · exact hc
    · exfalso
      have : mc_Spaces_isThere σ (nI s) = some 1 := by
        unfold mc_Spaces_isThere
        rw [if_neg (nI_pos (by omega)), if_neg (show ¬ (4 : Int32) ≤ nI s from fun z => absurd ((nI_leI (a := 4) (by omega) (by omega)).mp z) (by omega)), gi_n hs (by omega), nI_clamp (by omega), h.2.2.2.2.2.2.1.1, if_neg hn]
      rw [this] at hc
      cases hc
  obtain ⟨ho, hF, hw, hS, hE, hU, ⟨r1, r2, ⟨K, r3⟩, -⟩, hm⟩ := h
  obtain ⟨d1, d2⟩ := d16 p (by omega)
  rcases r3 s hs with z | ⟨r, a, b, c, d, e⟩
  · exact absurd z hn
  · have hi : p / 16 < 16 := by omega
    have hj : p % 16 < 16 := by omega
    have hre : mm_rootEntry τ (nI s) (nI p) = some (nI (16 * r + p / 16)) := by
      unfold mm_rootEntry
      rw [gi_n hs (by omega), nI_clamp (by omega), b, n_s1, d1, e16']
    have hrc : mc_Spaces_rootEntry σ (nI s) (nI p) = some (nI (16 * r + p / 16)) := by
      unfold mc_Spaces_rootEntry
      rw [gi_n hs (by omega), nI_clamp (by omega), r1, b, n_s1, d1, e16]
    have hwr : gc_w σ (16 * r + p / 16) = gm_w τ (16 * r + p / 16) := hw _ (by omega) (by rw [show (16 * r + p / 16) / 16 = r by omega, c]; decide)
    have htb : mc_Spaces_tableOf σ (nI s) (nI p) = some (gm_w τ (16 * r + p / 16) - 1) := by
      unfold mc_Spaces_tableOf
      rw [hit, cp_r, if_neg (by decide), isP hp, cp_r, if_neg (by decide), hrc, cp_r, c_rd σ (show 16 * r + p / 16 < 1024 by omega), cp_r, hwr]
    have hht : mm_hasTable τ (nI s) (nI p) = if gm_w τ (16 * r + p / 16) ≤ 0 then some 0 else some 1 := by
      unfold mm_hasTable
      rw [hre, cp_r, gi_n (show 16 * r + p / 16 < 1024 by omega) (by omega), nI_clamp (by omega)]
    refine ⟨r, a, b, c, hre, hrc, ?_⟩
    rcases e (p / 16) hi with z | ⟨t, t1, t2, t3, t4, t5, t6⟩
    · have hh : mm_hasTable τ (nI s) (nI p) = some 0 := by rw [hht, z, if_pos (by decide)]
      have ht : mc_Spaces_tableOf σ (nI s) (nI p) = some (-1) := by rw [htb, z]; rfl
      refine Or.inl ⟨z, ht, ?_, hh, ?_⟩
      · unfold mc_Spaces_frameOf; rw [ht]; rfl
      · unfold mm_frameOf; rw [hh]; rfl
    · have hh : mm_hasTable τ (nI s) (nI p) = some 1 := by rw [hht, t2, if_neg (nI_nle (by omega) (by omega))]
      have ht : mc_Spaces_tableOf σ (nI s) (nI p) = some (nI t) := by rw [htb, t2, n_s1]
      have hen : mm_entry τ (nI s) (nI p) = some (nI (16 * t + p % 16)) := by
        unfold mm_entry
        rw [hre, cp_r, gi_n (show 16 * r + p / 16 < 1024 by omega) (by omega), nI_clamp (by omega), t2, n_s1, d2, e16']
      have hwt : gc_w σ (16 * t + p % 16) = gm_w τ (16 * t + p % 16) := hw _ (by omega) (by rw [show (16 * t + p % 16) / 16 = t by omega, t3]; decide)
      have hfc : mc_Spaces_frameOf σ (nI s) (nI p) = some (gm_w τ (16 * t + p % 16) - 1) := by
        unfold mc_Spaces_frameOf
        rw [ht, cp_r, if_neg (n_ne (by omega)), d2, e16, c_rd σ (show 16 * t + p % 16 < 1024 by omega), cp_r, hwt]
      have hfm : mm_frameOf τ (nI s) (nI p) = some (gm_w τ (16 * t + p % 16) - 1) := by
        unfold mm_frameOf
        rw [hh, cp_r, if_neg (by decide), hen, cp_r, gi_n (show 16 * t + p % 16 < 1024 by omega) (by omega), nI_clamp (by omega)]
      refine Or.inr ⟨t, t1, t2, t3, ht, hh, hen, ?_⟩
      rcases t6 (p % 16) hj with z | ⟨f, f1, f2, f3, f4⟩
      · exact Or.inl ⟨z, by rw [hfc, z]; rfl, by rw [hfm, z]; rfl⟩
      · exact Or.inr ⟨f, f1, f2, f3, f4, by rw [hfc, f2, n_s1], by rw [hfm, f2, n_s1]⟩
/-! ===== frame(space, page) ===== -/
theorem q_frame {σ : CS} {τ : MS} (h : REL σ τ) (x y : Int32) : ∃ v, mc_frame σ x y = some v ∧ mm_frame τ x y = some (v, sm_th τ 0) := by
  have h0 : REL σ (sm_th τ 0) := h
  unfold mc_frame mm_frame
  rw [wr_r]
  by_cases e : x = -2
  · rw [if_pos e, if_pos e]
    by_cases y1 : y < 0
    · refine ⟨-1, ?_, ?_⟩
      · unfold mc_Ranges_frameOf; rw [if_pos y1]; rfl
      · rw [m_inL y1]; rfl
    · by_cases y2 : (64 : Int32) ≤ y
      · refine ⟨-1, ?_, ?_⟩
        · unfold mc_Ranges_frameOf; rw [if_neg y1, if_pos y2]; rfl
        · rw [m_inG (show (63 : Int32) < y from i_lt 63 (by omega) y2)]; rfl
      · obtain ⟨p, hp, rfl⟩ := i_in 64 (by omega) y1 y2
        have hmi : mm_in (nI p) (0 : Int32) (63 : Int32) = some 1 := m_inI (n := 63) hp (by omega)
        refine ⟨gm_en τ p - 1, ?_, ?_⟩
        · unfold mc_Ranges_frameOf
          rw [if_neg y1, if_neg y2, gi_n hp (by omega), nI_clamp (by omega), h.2.2.2.2.1.1]
          rfl
        · rw [hmi, cp_r, if_neg (by decide), gi_n hp (by omega), nI_clamp (by omega)]
  · rw [if_neg e, if_neg e]
    rcases sp_all h0 x with ⟨s, hs, rfl, hn, hc, hm⟩ | ⟨hc, hm⟩
    · rw [hm, cp_r, if_neg (by decide)]
      have outp : mc_Spaces_isPage y = some 0 → mm_in y 0 255 = some 0 → ∃ v, (mi_cp (mc_Spaces_frameOf σ (nI s) y) fun r1 => some r1) = some v ∧ (mi_cp (mm_in y 0 255) fun r3 => if r3 = 0 then some (-1, sm_th τ 0) else mi_cp (mm_frameOf (sm_th τ 0) (nI s) y) fun r4 => some (r4, sm_th τ 0)) = some (v, sm_th τ 0) := by
        intro g1 g2
        refine ⟨-1, ?_, by rw [g2]; rfl⟩
        unfold mc_Spaces_frameOf mc_Spaces_tableOf
        rw [hc, cp_r, if_neg (by decide), g1]
        rfl
      by_cases y1 : y < 0
      · exact outp (by unfold mc_Spaces_isPage; rw [if_pos y1]) (m_inL y1)
      · by_cases y2 : (256 : Int32) ≤ y
        · exact outp (by unfold mc_Spaces_isPage; rw [if_neg y1, if_pos y2]) (m_inG (show (255 : Int32) < y from i_lt 255 (by omega) y2))
        · obtain ⟨p, hp, rfl⟩ := i_in 256 (by omega) y1 y2
          have hmi : mm_in (nI p) (0 : Int32) (255 : Int32) = some 1 := m_inI (n := 255) hp (by omega)
          rw [hmi, cp_r, if_neg (by decide)]
          obtain ⟨r, -, -, -, -, -, q⟩ := pg h0 hs hp hn
          rcases q with ⟨-, -, q1, -, q2⟩ | ⟨t, -, -, -, -, -, -, ⟨-, q1, q2⟩ | ⟨f, -, -, -, -, q1, q2⟩⟩
          · exact ⟨-1, by rw [q1]; rfl, by rw [q2]; rfl⟩
          · exact ⟨-1, by rw [q1]; rfl, by rw [q2]; rfl⟩
          · exact ⟨nI f, by rw [q1]; rfl, by rw [q2]; rfl⟩
    · refine ⟨-1, ?_, by rw [hm]; rfl⟩
      unfold mc_Spaces_frameOf mc_Spaces_tableOf
      rw [hc]
      rfl
