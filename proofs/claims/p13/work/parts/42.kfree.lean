theorem op_kfree {σ : CS} {τ : MS} (h : REL σ τ) (x : Int32) : kcv (mc_kfree σ x) (mm_kfree τ x) := by
  have out : mc_Slabs_remove σ x = some (-1, σ) → mm_kfree τ x = mm_kfree_b30 x τ → kcv (mc_kfree σ x) (mm_kfree τ x) := by
    intro h1 h2
    refine Or.inr ⟨σ, sm_th τ 1, ?_, ?_, rfl, h⟩
    · unfold mc_kfree; rw [h1]; rfl
    · rw [h2]; rfl
  rcases sl_all h x with ⟨a, ha, rfl, hob, hc, hm⟩ | ⟨hc, hm⟩
  · obtain ⟨d1, d2⟩ := d16 a ha
    have a64 : a / 16 < 64 := by omega
    have z : gm_o τ (a / 16) = 2 := by
      unfold ob at hob
      rw [Bool.and_eq_true] at hob
      exact of_decide_eq_true hob.1
    obtain ⟨g1, g2, k, u, k1, k3, hs, ht, u0, hu⟩ := (h.2.2.2.1 (a / 16) a64).1 z
    obtain ⟨f1, f2, f3, f4, f5⟩ := sf1 k (by omega) k1 (a % 16) (by omega)
    obtain ⟨s4, s5⟩ := sf4 k (by omega) k1 a ha
    have hu9 := sf3 k1 k3 hu
    obtain ⟨t1, t2⟩ := sf5 u hu9 (a % 16 / 2 ^ k) f3
    have hp : 0 < 2 ^ k := Nat.two_pow_pos k
    have h8 : 2 ^ k ≤ 8 := Nat.pow_le_pow_right (by decide) k3
    have hne : ¬ nI a = (-1 : Int32) := n_ne (by omega)
    have hcr : mc_Slabs_remove σ (nI a) = if nI (a % 2 ^ k) = (0 : Int32) then
        (if nI (u &&& (255 - 2 ^ (a % 16 / 2 ^ k))) = (0 : Int32) then some (nI (2 ^ k), fr (sc_sz (sc_tk σ (upd (gc_tk σ) (a / 16) (nI (u &&& (255 - 2 ^ (a % 16 / 2 ^ k)))))) (upd (gc_sz σ) (a / 16) 0)) (a / 16))
          else some (nI (2 ^ k), sc_tk σ (upd (gc_tk σ) (a / 16) (nI (u &&& (255 - 2 ^ (a % 16 / 2 ^ k))))))) else some (-1, σ) := by
      unfold mc_Slabs_remove
      rw [hc, cp_r, if_neg hne, d1, gi_n a64 (by omega), nI_clamp (by omega), g1, hs, if_neg f4, mi_gd_no f4, s4]
      by_cases y : nI (a % 2 ^ k) = (0 : Int32)
      · rw [if_pos y, if_pos y, gi_c a64 (by omega), c_bO h ha z k1 k3 hs (u := u), cp_r, gi_c a64 (by omega), g2, ht, t1, wr_r, gi_c a64 (by omega)]
        show (if upd (gc_tk σ) (a / 16) (nI (u &&& (255 - 2 ^ (a % 16 / 2 ^ k)))) (a / 16) = 0 then _ else _) = _
        rw [u_eq]
        by_cases v : nI (u &&& (255 - 2 ^ (a % 16 / 2 ^ k))) = (0 : Int32)
        · rw [if_pos v, if_pos v, gi_c a64 (by omega), wr_r, c_mf _ a64, cv_r]
        · rw [if_neg v, if_neg v]
      · rw [if_neg y, if_neg y]
    have hmr : mm_kfree τ (nI a) = if nI (a % 2 ^ k) = (0 : Int32) then mm_kfree_b31 (nI a) 0 τ else mm_kfree_b30 (nI a) τ := by
      unfold mm_kfree
      rw [hm, cp_r, if_neg (by decide), d2, d1, gi_n a64 (by omega), nI_clamp (by omega), hs, mi_gd_no f4, s5]
    by_cases y : nI (a % 2 ^ k) = (0 : Int32)
    · rw [if_pos y] at hcr hmr
      obtain ⟨ho, hF, hw, hS, ⟨e1, e2, e3⟩, ⟨q1, q2⟩, ⟨r1, r2, r3⟩, hmv⟩ := h
      have hsz : ¬ nI (2 ^ k) = (-1 : Int32) := n_ne (by omega)
      have hans : mc_orNotAsTold (nI (2 ^ k)) = some (nI (2 ^ k), 0) := by unfold mc_orNotAsTold; rw [if_neg hsz]
      have hmb : mm_kfree_b31 (nI a) 0 τ = some (sm_o (sm_tk (sm_th τ 0) (upd (gm_tk τ) (a / 16) (nI (u &&& (255 - 2 ^ (a % 16 / 2 ^ k)))))) (upd (gm_o τ) (a / 16) (if nI (u &&& (255 - 2 ^ (a % 16 / 2 ^ k))) = (0 : Int32) then 0 else 2))) := by
        unfold mm_kfree_b31
        rw [tb_0, cw_r, if_pos rfl, d2, d1, gi_n a64 (by omega), nI_clamp (by omega), gi_c a64 (by omega)]
        show mi_gd (gm_sz τ (a / 16) = 0) _ = _
        rw [mi_gd_no (by rw [hs]; exact f4), gi_c a64 (by omega), wr_r, gi_c a64 (by omega)]
        show (if upd (gm_tk τ) (a / 16) (gm_tk τ (a / 16) &&& (((1 : Int32) <<< ((nI (a % 16) / gm_sz τ (a / 16)) &&& 31)) ^^^ (-1 : Int32))) (a / 16) = 0 then mm_kfree_b90 (nI (a / 16)) 0 (sm_tk (sm_th τ 0) (upd (gm_tk τ) (a / 16) (gm_tk τ (a / 16) &&& (((1 : Int32) <<< ((nI (a % 16) / gm_sz τ (a / 16)) &&& 31)) ^^^ (-1 : Int32))))) else mm_kfree_b90 (nI (a / 16)) 2 (sm_tk (sm_th τ 0) (upd (gm_tk τ) (a / 16) (gm_tk τ (a / 16) &&& (((1 : Int32) <<< ((nI (a % 16) / gm_sz τ (a / 16)) &&& 31)) ^^^ (-1 : Int32)))))) = _
        rw [u_eq, hs, ht, f1, f2, t1]
        by_cases v : nI (u &&& (255 - 2 ^ (a % 16 / 2 ^ k))) = (0 : Int32)
        · rw [if_pos v, if_pos v]
          unfold mm_kfree_b90
          rw [gi_n a64 (by omega), nI_clamp (by omega)]
          rfl
        · rw [if_neg v, if_neg v]
          unfold mm_kfree_b90
          rw [gi_n a64 (by omega), nI_clamp (by omega)]
          rfl
      rw [hmb] at hmr
      by_cases v : nI (u &&& (255 - 2 ^ (a % 16 / 2 ^ k))) = (0 : Int32)
      · rw [if_pos v] at hcr hmr
        rw [v] at hcr hmr
        refine Or.inl ⟨0, _, _, by unfold mc_kfree; rw [hcr, cw_r, hans]; rfl, hmr, rfl, ?_⟩
        have keep : ∀ g, ∀ c : Int32, ¬ c = 2 → gm_o τ g = c → upd (gm_o τ) (a / 16) 0 g = c := fun g c hc hg => by
          by_cases y : g = a / 16
          · rw [y, z] at hg; exact absurd hg.symm hc
          · rw [u_ne y]; exact hg
        refine ⟨by show upd (gc_o σ) (a / 16) 0 = upd (gm_o τ) (a / 16) 0; rw [ho], FB_free hF a64, ?_, ?_, ⟨e1, e2, EN_mono e3 (fun g _ hg => keep g 3 (by decide) hg)⟩, ⟨q1, UN_mono q2 (fun g _ hg => keep g 5 (by decide) hg)⟩, ⟨r1, r2, RP_mono r3 (fun g _ hg => ⟨keep g 1 (by decide) hg, fun i _ => rfl⟩) (fun g _ hg => ⟨keep g 4 (by decide) hg, rfl⟩) (fun g _ hg => u_4 (v := 0) (by decide) hg)⟩, hmv⟩
        · intro j hj hne
          have hne : ¬ upd (gm_o τ) (a / 16) 0 (j / 16) = 0 := hne
          refine hw j hj (fun w => hne ?_)
          by_cases y : j / 16 = a / 16
          · rw [y, u_eq]
          · rw [u_ne y]; exact w
        · intro g hg
          show (upd (gm_o τ) (a / 16) 0 g = 2 → upd (gc_sz σ) (a / 16) 0 g = gm_sz τ g ∧ upd (gc_tk σ) (a / 16) 0 g = upd (gm_tk τ) (a / 16) 0 g ∧ SL (gm_sz τ g) (upd (gm_tk τ) (a / 16) 0 g)) ∧ (¬ upd (gm_o τ) (a / 16) 0 g = 2 → upd (gc_sz σ) (a / 16) 0 g = 0 ∧ upd (gc_tk σ) (a / 16) 0 g = 0)
          by_cases y : g = a / 16
          · subst y
            rw [u_eq, u_eq, u_eq]
            exact ⟨fun w => absurd w (by decide), fun _ => ⟨rfl, rfl⟩⟩
          · rw [u_ne y, u_ne y, u_ne y, u_ne y]
            exact hS g hg
      · rw [if_neg v] at hcr hmr
        have hoo : upd (gm_o τ) (a / 16) 2 = gm_o τ := upd_self _ z
        rw [hoo] at hmr
        refine Or.inl ⟨0, sc_tk σ (upd (gc_tk σ) (a / 16) (nI (u &&& (255 - 2 ^ (a % 16 / 2 ^ k))))), _, by unfold mc_kfree; rw [hcr, cw_r, hans]; rfl, hmr, rfl, ⟨ho, hF, hw, ?_, ⟨e1, e2, e3⟩, ⟨q1, q2⟩, ⟨r1, r2, r3⟩, hmv⟩⟩
        intro g hg
        show (gm_o τ g = 2 → gc_sz σ g = gm_sz τ g ∧ upd (gc_tk σ) (a / 16) (nI (u &&& (255 - 2 ^ (a % 16 / 2 ^ k)))) g = upd (gm_tk τ) (a / 16) (nI (u &&& (255 - 2 ^ (a % 16 / 2 ^ k)))) g ∧ SL (gm_sz τ g) (upd (gm_tk τ) (a / 16) (nI (u &&& (255 - 2 ^ (a % 16 / 2 ^ k)))) g)) ∧ (¬ gm_o τ g = 2 → gc_sz σ g = 0 ∧ upd (gc_tk σ) (a / 16) (nI (u &&& (255 - 2 ^ (a % 16 / 2 ^ k)))) g = 0)
        by_cases y : g = a / 16
        · subst y
          rw [u_eq, u_eq]
          refine ⟨fun _ => ⟨g1, rfl, k, _, k1, k3, hs, rfl, Nat.pos_of_ne_zero (fun w => v (by rw [w]; rfl)), Nat.lt_of_le_of_lt t2 hu⟩, fun w => absurd z w⟩
        · rw [u_ne y, u_ne y]
          exact hS g hg
    · rw [if_neg y] at hcr hmr
      exact out hcr hmr
  · refine out ?_ ?_
    · unfold mc_Slabs_remove; rw [hc]; rfl
    · unfold mm_kfree; rw [hm]; rfl
