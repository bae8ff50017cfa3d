/-! ===== load and store: spaces ===== -/
theorem d16b {a : Nat} (ha : a < 4096) : nI a / (16 : Int32) = nI (a / 16) ∧ nI a - nI a / (16 : Int32) * (16 : Int32) = nI (a % 16) := by
  have e1 : nI a / (16 : Int32) = nI (a / 16) := by
    apply Int32.toInt_inj.mp
    rw [dv_i, nI_toInt (by omega), nI_toInt (by omega)]
    exact Int.tdiv_eq_ediv_of_nonneg (by omega)
  refine ⟨e1, ?_⟩
  rw [e1, show (16 : Int32) = nI 16 from rfl, nI_mu]
  have : nI a = nI (a % 16) + nI (a / 16 * 16) := by rw [nI_add]; congr 1; omega
  rw [this]
  generalize nI (a % 16) = A
  generalize nI (a / 16 * 16) = B
  rw [Int32.sub_eq_add_neg, Int32.add_assoc, Int32.add_right_neg, Int32.add_zero]
theorem re_w {τ : MS} {s p r : Nat} (hs : s < 4) (hp : p < 256) (hr : r < 64) (h : gm_ro τ s = nI (r + 1)) : mm_rootEntry τ (nI s) (nI p) = some (nI (16 * r + p / 16)) := by
  unfold mm_rootEntry
  rw [gi_n hs (by omega), nI_clamp (by omega), h, n_s1, (d16 p (by omega)).1, e16']
theorem en_w {τ : MS} {s p r t : Nat} (hs : s < 4) (hp : p < 256) (hr : r < 64) (h : gm_ro τ s = nI (r + 1)) (hw : gm_w τ (16 * r + p / 16) = nI (t + 1)) : mm_entry τ (nI s) (nI p) = some (nI (16 * t + p % 16)) := by
  unfold mm_entry
  rw [re_w hs hp hr h, cp_r, gi_n (show 16 * r + p / 16 < 1024 by omega) (by omega), nI_clamp (by omega), hw, n_s1, (d16 p (by omega)).2, e16']
theorem fo_w {τ : MS} {s p r t g : Nat} (hs : s < 4) (hp : p < 256) (hr : r < 64) (ht : t < 64) (h : gm_ro τ s = nI (r + 1)) (hw : gm_w τ (16 * r + p / 16) = nI (t + 1)) (hg : gm_w τ (16 * t + p % 16) = nI (g + 1)) : mm_frameOf τ (nI s) (nI p) = some (nI g) := by
  unfold mm_frameOf mm_hasTable
  rw [re_w hs hp hr h, cp_r, gi_n (show 16 * r + p / 16 < 1024 by omega) (by omega), nI_clamp (by omega), hw, if_neg (nI_nle (by omega) (by omega)), cp_r, if_neg (by decide), en_w hs hp hr h hw, cp_r, gi_n (show 16 * t + p % 16 < 1024 by omega) (by omega), nI_clamp (by omega), hg, n_s1]
theorem c_link (σ : CS) {a g : Nat} (ha : a < 1024) (hg : g < 64) : mc_Spaces_link σ (nI a) (nI g) = some (sc_eo (sc_w σ (upd (gc_w σ) a (nI (g + 1)))) (upd (gc_eo σ) g (nI a))) := by
  unfold mc_Spaces_link
  rw [isF hg, cp_r, if_neg (by decide), c_wr σ ha, cv_r, gi_n hg (by omega), nI_clamp (by omega), n1_a]
  rfl
theorem tq_r {S : Type} {r : Int32} {x : S} {k : Int32 → Option (Int32 × Nat × S)} : mi_tq (some (r, 0)) x k = k r := rfl
theorem tw_r {S : Type} {r : Int32} {n : Nat} {x : S} {k : Int32 → S → Option (Int32 × Nat × S)} : mi_tw (some (r, n, x)) k = if n = 0 then k r x else some (0, n, x) := rfl
/-- class: what 'touch' answers decides -/
theorem c_pis {σ : CS} {s a : Nat} {σ' : CS} {v : Int32} (ha : a < 4096) (hir : mc_Spaces_isInRegion σ (nI s) (nI (a / 16)) = some 1) (ht : mc_Spaces_touch σ (nI s) (nI (a / 16)) = some (v, σ')) :
    mc_placeInSpace σ (nI s) (nI a) = if v = -1 then some (0, 3, σ') else some (v * 16 + nI (a % 16), 0, σ') := by
  unfold mc_placeInSpace
  rw [fd_p (by omega), cp_r, hir, cp_r, if_neg (by decide), ht, cw_r]
  unfold mc_orNotEnough
  by_cases z : v = -1
  · rw [if_pos z, if_pos z]; rfl
  · rw [if_neg z, if_neg z]
    show mi_cp (mc_floorMod (nI a) 16) _ = _
    rw [fm_p ha]
    rfl
theorem pl_3 {σ : CS} {τ : MS} (h : REL σ τ) {x : Int32} (y : Int32) (x1 : ¬ x = -1) (x2 : ¬ x = -2) : PL σ τ x y := by
  have hpo : ∀ v n σ', mc_checkSpace σ x = some (0, 0) → mc_placeInSpace σ x y = some (v, n, σ') → mc_placeOf σ x y = if n = 0 then some (v, 0, σ') else some (0, n, σ') := by
    intro v n σ' h1 h2
    unfold mc_placeOf
    rw [if_neg x1, if_neg x2, h1, tq_r, h2, tw_r]
  rcases sp_all h x with ⟨s, hs, rfl, hn, hc, hm⟩ | ⟨hc, hm⟩
  · have hcs : mc_checkSpace σ (nI s) = some (0, 0) := by unfold mc_checkSpace; rw [hc]; rfl
    have bad : (∃ r, mc_floorDiv y 16 = some r ∧ mc_Spaces_isInRegion σ (nI s) r = some 0) → mm_wrong τ (nI s) y = some 2 → PL σ τ (nI s) y := by
      rintro ⟨r, h1, h2⟩ h3
      refine Or.inl ⟨2, Or.inr (Or.inl rfl), ?_, h3⟩
      have : mc_placeInSpace σ (nI s) y = some (0, 2, σ) := by
        unfold mc_placeInSpace
        rw [h1, cp_r, h2]
        rfl
      rw [hpo _ _ _ hcs this, if_neg (by decide)]
    have hw0 : mm_in y 0 4095 = some 0 → mm_wrong τ (nI s) y = some 2 := by
      intro g
      unfold mm_wrong
      rw [if_neg x1, if_neg x2, hm, cp_r, if_neg (by decide), g]
      rfl
    by_cases y1 : y < 0
    · obtain ⟨r, a, b⟩ := fd_n y1
      refine bad ⟨r, a, ?_⟩ (hw0 (m_inL y1))
      unfold mc_Spaces_isInRegion mc_Spaces_isPage
      rw [hc, cp_r, if_neg (by decide), if_pos b]
      rfl
    · by_cases y2 : (4096 : Int32) ≤ y
      · obtain ⟨r, a, b⟩ := fd_b (n := 256) (by omega) y1 y2
        refine bad ⟨r, a, ?_⟩ (hw0 (m_inG (show (4095 : Int32) < y from i_lt 4095 (by omega) y2)))
        unfold mc_Spaces_isInRegion mc_Spaces_isPage
        rw [hc, cp_r, if_neg (by decide)]
        by_cases z : r < 0
        · rw [if_pos z]; rfl
        · rw [if_neg z, if_pos (show (256 : Int32) ≤ r from b)]; rfl
      · obtain ⟨a, ha, rfl⟩ := i_in 4096 (by omega) y1 y2
        obtain ⟨d1, d2⟩ := d16b ha
        have hp : a / 16 < 256 := by omega
        have hmi : mm_in (nI a) (0 : Int32) (4095 : Int32) = some 1 := m_inI (n := 4095) ha (by omega)
        have hir : mc_Spaces_isInRegion σ (nI s) (nI (a / 16)) = if gm_rg τ (256 * s + a / 16) = 0 then some 0 else some 1 := by
          unfold mc_Spaces_isInRegion
          rw [hc, cp_r, if_neg (by decide), isP hp, cp_r, if_neg (by decide), rgx, gi_n (show 256 * s + a / 16 < 1024 by omega) (by omega), nI_clamp (by omega), h.2.2.2.2.2.2.1.2.1]
        by_cases z : gm_rg τ (256 * s + a / 16) = 0
        · refine bad ⟨_, fd_p (by omega), by rw [hir, if_pos z]⟩ ?_
          unfold mm_wrong
          rw [if_neg x1, if_neg x2, hm, cp_r, if_neg (by decide), hmi, cp_r, if_neg (by decide), d1, rgy, gi_n (show 256 * s + a / 16 < 1024 by omega) (by omega), nI_clamp (by omega), if_pos z]
        · rw [if_neg z] at hir
          have hwr : ∀ {v : Int32}, mm_frameOf τ (nI s) (nI (a / 16)) = some v → mm_wrong τ (nI s) (nI a) = if v < 0 then mi_cp (mm_hasTable τ (nI s) (nI (a / 16))) (fun r4 => if r4 = 0 then mm_wrong_b128 2 τ else mm_wrong_b128 1 τ) else mm_wrong_b128 0 τ := by
            intro v hv
            unfold mm_wrong
            rw [if_neg x1, if_neg x2, hm, cp_r, if_neg (by decide), hmi, cp_r, if_neg (by decide), d1, rgy, gi_n (show 256 * s + a / 16 < 1024 by omega) (by omega), nI_clamp (by omega), if_neg z, hv, cp_r]
          have hb : ∀ k, k < 3 → mm_wrong_b128 (nI k) τ = if k ≤ cz (gm_o τ) 64 then some 0 else some 3 := by
            intro k hk
            have hle := cz_le (gm_o τ) 64
            unfold mm_wrong_b128
            rw [m_cf, cp_r]
            by_cases w : k ≤ cz (gm_o τ) 64
            · rw [if_pos w, if_pos ((nI_leI (by omega) (by omega)).mpr w)]
            · rw [if_neg w, if_neg (fun v => w ((nI_leI (by omega) (by omega)).mp v))]
          have hcf : mc_Frames_countFree σ = some (nI (cz (gm_o τ) 64)) := by rw [c_cf h.2.1, h.1]
          obtain ⟨r, r1, r2, r3, r4, r5, q⟩ := pg h hs hp hn
          rcases q with ⟨q0, q1, q2, q3, q4⟩ | ⟨t, t1, t2, t3, t4, t5, t6, ⟨q0, q1, q2⟩ | ⟨f, f1, f2, f3, f4, q1, q2⟩⟩
          · -- no table yet
            have hle := cz_le (gm_o τ) 64
            by_cases w : 2 ≤ cz (gm_o τ) 64
            · obtain ⟨t, t1, t2, t3, t4⟩ := g_give (σ := σ) (τ := sm_th τ 0) h.1 h.2.1 (by show 0 < cz (gm_o τ) 64; omega) 1
              have t2 : gm_o τ t = 0 := t2
              have rt : ¬ r = t := fun v => by rw [v, t2] at r3; exact absurd r3 (by decide)
              have hS1 : RELs (sc_w (gv σ t 1) (upd (gc_w (gv σ t 1)) (16 * r + a / 16 / 16) (nI (t + 1)))) (sm_w (ow (sm_th τ 0) t 1) (upd (gm_w (ow (sm_th τ 0) t 1)) (16 * r + a / 16 / 16) (nI (t + 1)))) := RELs_w (RELs_give (τ := sm_th τ 0) (RELs_of h) t1 t2 (v := 1) (by decide) (by decide)) _ _ (gc_eo σ)
              have hcz := cz_give (o := gm_o τ) (v := 1) t1 t2 (by decide)
              obtain ⟨g, g1, g2, g3, g4⟩ := g_give hS1.1 hS1.2.1 (by show 0 < cz (upd (gm_o τ) t 1) 64; omega) 4
              have g2 : upd (gm_o τ) t 1 g = 0 := g2
              have gt : ¬ t = g := fun v => by rw [← v, u_eq] at g2; exact absurd g2 (by decide)
              have g2o : gm_o τ g = 0 := by rw [u_ne (fun v => gt v.symm)] at g2; exact g2
              have gr : ¬ r = g := fun v => by rw [v, g2o] at r3; exact absurd r3 (by decide)
              have ht : mc_Spaces_touch σ (nI s) (nI (a / 16)) = some (nI g, sc_eo (sc_w (gv (sc_w (gv σ t 1) (upd (gc_w (gv σ t 1)) (16 * r + a / 16 / 16) (nI (t + 1)))) g 4) (upd (gc_w (gv (sc_w (gv σ t 1) (upd (gc_w (gv σ t 1)) (16 * r + a / 16 / 16) (nI (t + 1)))) g 4)) (16 * t + a / 16 % 16) (nI (g + 1)))) (upd (gc_eo (gv (sc_w (gv σ t 1) (upd (gc_w (gv σ t 1)) (16 * r + a / 16 / 16) (nI (t + 1)))) g 4)) g (nI (16 * t + a / 16 % 16)))) := by
                unfold mc_Spaces_touch
                rw [q2, cp_r, if_pos rfl, hir, cp_r, if_neg (by decide), q1, cp_r, hcf, cp_r, if_pos rfl]
                unfold mc_Spaces_touch_b49
                rw [if_pos (show (2 : Int32) ≤ nI (cz (gm_o τ) 64) from (nI_leI (a := 2) (by omega) (by omega)).mpr w), if_pos rfl, t3, cw_r, show mc_Spaces_rootEntry (gv σ t 1) (nI s) (nI (a / 16)) = some (nI (16 * r + a / 16 / 16)) from r5, cp_r, n1_a, c_wr _ (show 16 * r + a / 16 / 16 < 1024 by omega), cv_r, g3, cw_r, (d16 (a / 16) (by omega)).2, e16, c_link _ (show 16 * t + a / 16 % 16 < 1024 by omega) g1, cv_r]
              have hpi := c_pis ha hir ht
              rw [if_neg (n_ne (by omega)), e16] at hpi
              have hro2 : gm_ro (sm_th τ 0) s = nI (r + 1) := r2
              have w1 : upd (zw (gm_w τ) t) (16 * r + a / 16 / 16) (nI (t + 1)) (16 * r + a / 16 / 16) = nI (t + 1) := u_eq
              have w2 : upd (zw (gm_w τ) t) (16 * r + a / 16 / 16) (nI (t + 1)) (16 * t + a / 16 % 16) = 0 := by rw [u_ne (by omega), zw_eq (by omega)]
              refine Or.inr ⟨16 * g + a % 16, _, sm_w (ow (sm_w (ow (sm_th τ 0) t 1) (upd (gm_w (ow (sm_th τ 0) t 1)) (16 * r + a / 16 / 16) (nI (t + 1)))) g 4) (upd (zw (upd (zw (gm_w τ) t) (16 * r + a / 16 / 16) (nI (t + 1))) g) (16 * t + a / 16 % 16) (nI (g + 1))), by omega, (hpo _ _ _ hcs hpi).trans (if_pos rfl), ?_, ?_, rfl, ?_, ?_, ?_⟩
              · rw [hwr q4, if_pos (by decide), q3, cp_r, if_pos rfl]
                exact (hb 2 (by omega)).trans (if_pos w)
              · have q3' : mm_hasTable (sm_th τ 0) (nI s) (nI (a / 16)) = some 0 := q3
                unfold mm_placeOf
                rw [if_neg x1, if_neg x2, d2, d1, q3', cp_r, if_pos rfl, t4, cw_r, re_w (τ := ow (sm_th τ 0) t 1) hs hp r1 r2, cp_r, gi_n (show 16 * r + a / 16 / 16 < 1024 by omega) (by omega), nI_clamp (by omega), wr_r, n1_a]
                rw [en_w (τ := sm_w (ow (sm_th τ 0) t 1) (upd (gm_w (ow (sm_th τ 0) t 1)) (16 * r + a / 16 / 16) (nI (t + 1)))) hs hp r1 r2 w1, cp_r, gi_n (show 16 * t + a / 16 % 16 < 1024 by omega) (by omega), nI_clamp (by omega)]
                show (if upd (zw (gm_w τ) t) (16 * r + a / 16 / 16) (nI (t + 1)) (16 * t + a / 16 % 16) = 0 then _ else _) = _
                rw [w2, if_pos rfl, g4, cw_r]
                have w3 : zw (upd (zw (gm_w τ) t) (16 * r + a / 16 / 16) (nI (t + 1))) g (16 * r + a / 16 / 16) = nI (t + 1) := by rw [zw_ne gr (by omega)]; exact w1
                rw [en_w (τ := ow (sm_w (ow (sm_th τ 0) t 1) (upd (gm_w (ow (sm_th τ 0) t 1)) (16 * r + a / 16 / 16) (nI (t + 1)))) g 4) hs hp r1 r2 w3, cp_r, gi_n (show 16 * t + a / 16 % 16 < 1024 by omega) (by omega), nI_clamp (by omega), wr_r, n1_a]
                have w4 : upd (zw (upd (zw (gm_w τ) t) (16 * r + a / 16 / 16) (nI (t + 1))) g) (16 * t + a / 16 % 16) (nI (g + 1)) (16 * r + a / 16 / 16) = nI (t + 1) := by rw [u_ne (by omega)]; exact w3
                rw [fo_w (τ := sm_w (ow (sm_w (ow (sm_th τ 0) t 1) (upd (gm_w (ow (sm_th τ 0) t 1)) (16 * r + a / 16 / 16) (nI (t + 1)))) g 4) (upd (gm_w (ow (sm_w (ow (sm_th τ 0) t 1) (upd (gm_w (ow (sm_th τ 0) t 1)) (16 * r + a / 16 / 16) (nI (t + 1)))) g 4)) (16 * t + a / 16 % 16) (nI (g + 1)))) hs hp r1 t1 r2 w4 u_eq, cp_r, e16']
              · have hT := RP_table h.2.2.2.2.2.2.1.2.2 hs r1 r2 r3 (show a / 16 / 16 < 16 by omega) q0 t1 t2
                exact REL_mk (RELs_w (RELs_give hS1 g1 g2 (v := 4) (by decide) (by decide)) _ _ _) (RP_page hT hs r1 r2 (show a / 16 / 16 < 16 by omega) t1 w1 u_eq (show a / 16 % 16 < 16 by omega) w2 g1 g2)
              · show ¬ upd (upd (gm_o τ) t 1) g 4 ((16 * g + a % 16) / 16) = 0
                rw [show (16 * g + a % 16) / 16 = g by omega, u_eq]; decide
              · show ¬ upd (upd (gm_o τ) t 1) g 4 ((16 * g + a % 16) / 16) = 1
                rw [show (16 * g + a % 16) / 16 = g by omega, u_eq]; decide
            · have ht : mc_Spaces_touch σ (nI s) (nI (a / 16)) = some (-1, σ) := by
                unfold mc_Spaces_touch
                rw [q2, cp_r, if_pos rfl, hir, cp_r, if_neg (by decide), q1, cp_r, hcf, cp_r, if_pos rfl]
                unfold mc_Spaces_touch_b49
                rw [if_neg (show ¬ (2 : Int32) ≤ nI (cz (gm_o τ) 64) from fun v => w ((nI_leI (a := 2) (by omega) (by omega)).mp v))]
              have hpi := c_pis ha hir ht
              rw [if_pos rfl] at hpi
              refine Or.inl ⟨3, Or.inr (Or.inr rfl), (hpo _ _ _ hcs hpi).trans (if_neg (by decide)), ?_⟩
              rw [hwr q4, if_pos (by decide), q3, cp_r, if_pos rfl]
              exact (hb 2 (by omega)).trans (if_neg w)
          · -- a table, but no frame
            have hle := cz_le (gm_o τ) 64
            by_cases w : 1 ≤ cz (gm_o τ) 64
            · obtain ⟨g, g1, g2, g3, g4⟩ := g_give (σ := σ) (τ := sm_th τ 0) h.1 h.2.1 (by show 0 < cz (gm_o τ) 64; omega) 4
              have g2 : gm_o τ g = 0 := g2
              have gt : ¬ t = g := fun v => by rw [v, g2] at t3; exact absurd t3 (by decide)
              have gr : ¬ r = g := fun v => by rw [v, g2] at r3; exact absurd r3 (by decide)
              have ht : mc_Spaces_touch σ (nI s) (nI (a / 16)) = some (nI g, sc_eo (sc_w (gv σ g 4) (upd (gc_w (gv σ g 4)) (16 * t + a / 16 % 16) (nI (g + 1)))) (upd (gc_eo (gv σ g 4)) g (nI (16 * t + a / 16 % 16)))) := by
                unfold mc_Spaces_touch
                rw [q1, cp_r, if_pos rfl, hir, cp_r, if_neg (by decide), t4, cp_r, hcf, cp_r, if_neg (n_ne (by omega))]
                unfold mc_Spaces_touch_b49
                rw [if_pos (show (1 : Int32) ≤ nI (cz (gm_o τ) 64) from (nI_leI (a := 1) (by omega) (by omega)).mpr w), if_neg (n_ne (by omega))]
                unfold mc_Spaces_touch_b87
                rw [g3, cw_r, (d16 (a / 16) (by omega)).2, e16, c_link _ (show 16 * t + a / 16 % 16 < 1024 by omega) g1, cv_r]
              have hpi := c_pis ha hir ht
              rw [if_neg (n_ne (by omega)), e16] at hpi
              have w3 : zw (gm_w τ) g (16 * r + a / 16 / 16) = nI (t + 1) := by rw [zw_ne gr (by omega)]; exact t2
              refine Or.inr ⟨16 * g + a % 16, _, sm_w (ow (sm_th τ 0) g 4) (upd (zw (gm_w τ) g) (16 * t + a / 16 % 16) (nI (g + 1))), by omega, (hpo _ _ _ hcs hpi).trans (if_pos rfl), ?_, ?_, rfl, ?_, ?_, ?_⟩
              · rw [hwr q2, if_pos (by decide), t5, cp_r, if_neg (by decide)]
                exact (hb 1 (by omega)).trans (if_pos w)
              · have t5' : mm_hasTable (sm_th τ 0) (nI s) (nI (a / 16)) = some 1 := t5
                have t6' : mm_entry (sm_th τ 0) (nI s) (nI (a / 16)) = some (nI (16 * t + a / 16 % 16)) := t6
                unfold mm_placeOf
                rw [if_neg x1, if_neg x2, d2, d1, t5', cp_r, if_neg (by decide)]
                unfold mm_placeOf_b69
                rw [t6', cp_r, gi_n (show 16 * t + a / 16 % 16 < 1024 by omega) (by omega), nI_clamp (by omega)]
                show (if gm_w τ (16 * t + a / 16 % 16) = 0 then _ else _) = _
                rw [q0, if_pos rfl, g4, cw_r, en_w (τ := ow (sm_th τ 0) g 4) hs hp r1 r2 w3, cp_r, gi_n (show 16 * t + a / 16 % 16 < 1024 by omega) (by omega), nI_clamp (by omega), wr_r, n1_a]
                have w4 : upd (zw (gm_w τ) g) (16 * t + a / 16 % 16) (nI (g + 1)) (16 * r + a / 16 / 16) = nI (t + 1) := by
                  by_cases e9 : 16 * r + a / 16 / 16 = 16 * t + a / 16 % 16
                  · exfalso
                    have ertr : r = t := by omega
                    obtain ⟨K, kk⟩ := h.2.2.2.2.2.2.1.2.2.1
                    rcases kk s hs with v | ⟨r', b1, b2, b3, b4, b5⟩
                    · exact hn v
                    · have er : r' = r := by have := (nI_eq (by omega) (by omega)).mp (r2.symm.trans b2); omega
                      subst er
                      rcases b5 (a / 16 / 16) (by omega) with v | ⟨t', c1, c2, c3, c4, -⟩
                      · rw [t2] at v; exact absurd ((nI_eq (b := 0) (by omega) (by omega)).mp v) (by omega)
                      · have et : t' = t := by have := (nI_eq (by omega) (by omega)).mp (t2.symm.trans c2); omega
                        rw [et, ← ertr, b4] at c4
                        omega
                  · rw [u_ne e9]; exact w3
                rw [fo_w (τ := sm_w (ow (sm_th τ 0) g 4) (upd (gm_w (ow (sm_th τ 0) g 4)) (16 * t + a / 16 % 16) (nI (g + 1)))) hs hp r1 t1 r2 w4 u_eq, cp_r, d2, e16']
              · exact REL_mk (RELs_w (RELs_give (τ := sm_th τ 0) (RELs_of h) g1 g2 (v := 4) (by decide) (by decide)) _ _ _) (RP_page (RPx_of h.2.2.2.2.2.2.1.2.2) hs r1 r2 (show a / 16 / 16 < 16 by omega) t1 t2 t3 (show a / 16 % 16 < 16 by omega) q0 g1 g2)
              · show ¬ upd (gm_o τ) g 4 ((16 * g + a % 16) / 16) = 0
                rw [show (16 * g + a % 16) / 16 = g by omega, u_eq]; decide
              · show ¬ upd (gm_o τ) g 4 ((16 * g + a % 16) / 16) = 1
                rw [show (16 * g + a % 16) / 16 = g by omega, u_eq]; decide
            · have ht : mc_Spaces_touch σ (nI s) (nI (a / 16)) = some (-1, σ) := by
                unfold mc_Spaces_touch
                rw [q1, cp_r, if_pos rfl, hir, cp_r, if_neg (by decide), t4, cp_r, hcf, cp_r, if_neg (n_ne (by omega))]
                unfold mc_Spaces_touch_b49
                rw [if_neg (show ¬ (1 : Int32) ≤ nI (cz (gm_o τ) 64) from fun v => w ((nI_leI (a := 1) (by omega) (by omega)).mp v))]
              have hpi := c_pis ha hir ht
              rw [if_pos rfl] at hpi
              refine Or.inl ⟨3, Or.inr (Or.inr rfl), (hpo _ _ _ hcs hpi).trans (if_neg (by decide)), ?_⟩
              rw [hwr q2, if_pos (by decide), t5, cp_r, if_neg (by decide)]
              exact (hb 1 (by omega)).trans (if_neg w)
          · -- the page has a frame
            have ht : mc_Spaces_touch σ (nI s) (nI (a / 16)) = some (nI f, σ) := by
              unfold mc_Spaces_touch
              rw [q1, cp_r, if_neg (n_ne (by omega))]
            have hpi := c_pis ha hir ht
            rw [if_neg (n_ne (by omega)), e16] at hpi
            refine Or.inr ⟨16 * f + a % 16, σ, sm_th τ 0, by omega, ?_, ?_, ?_, rfl, h, ?_, ?_⟩
            · rw [hpo _ _ _ hcs hpi, if_pos rfl]
            · rw [hwr q2, if_neg (nI_pos (by omega))]
              exact (hb 0 (by omega)).trans (if_pos (Nat.zero_le _))
            · have t5' : mm_hasTable (sm_th τ 0) (nI s) (nI (a / 16)) = some 1 := t5
              unfold mm_placeOf
              rw [if_neg x1, if_neg x2, d2, d1, t5', cp_r, if_neg (by decide)]
              unfold mm_placeOf_b69
              have t6' : mm_entry (sm_th τ 0) (nI s) (nI (a / 16)) = some (nI (16 * t + a / 16 % 16)) := t6
              rw [t6', cp_r, gi_n (show 16 * t + a / 16 % 16 < 1024 by omega) (by omega), nI_clamp (by omega)]
              show (if gm_w τ (16 * t + a / 16 % 16) = 0 then _ else _) = _
              rw [f2, if_neg (show ¬ nI (f + 1) = (0 : Int32) from fun v => absurd ((nI_eq (b := 0) (by omega) (by omega)).mp v) (by omega))]
              unfold mm_placeOf_b105
              have q2' : mm_frameOf (sm_th τ 0) (nI s) (nI (a / 16)) = some (nI f) := q2
              rw [q2', cp_r, d2, e16']
            · show ¬ gm_o τ ((16 * f + a % 16) / 16) = 0
              rw [show (16 * f + a % 16) / 16 = f by omega, f3]; decide
            · show ¬ gm_o τ ((16 * f + a % 16) / 16) = 1
              rw [show (16 * f + a % 16) / 16 = f by omega, f3]; decide
  · refine Or.inl ⟨1, Or.inl rfl, ?_, ?_⟩
    · unfold mc_placeOf mc_checkSpace
      rw [if_neg x1, if_neg x2, hc]
      rfl
    · unfold mm_wrong
      rw [if_neg x1, if_neg x2, hm]
      rfl
