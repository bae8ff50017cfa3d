/-! ===== vfree ===== -/
/-- the relation, with the ranges' lengths taken from elsewhere -/
def RELl (σ : CS) (τ : MS) (ln : Nat → Int32) : Prop :=
  gc_o σ = gm_o τ ∧ FB (gc_o σ) (gc_fb σ) ∧ (∀ j, j < 1024 → ¬ gm_o τ (j / 16) = 0 → gc_w σ j = gm_w τ j) ∧ RS σ τ ∧
  (gc_en σ = gm_en τ ∧ gc_ln σ = gm_ln τ ∧ EN (gm_o τ) (gm_en τ) ln) ∧ (gc_rl σ = gm_rl τ ∧ UN (gm_o τ) (gm_rl τ)) ∧
  (gc_ro σ = gm_ro τ ∧ gc_rg σ = gm_rg τ ∧ RP (gm_o τ) (gm_w τ) (gm_ro τ) (gc_eo σ)) ∧ gc_mv σ = gm_mv τ
abbrev vfC (σ : CS) (p f : Nat) : CS := sc_en (fr σ f) (upd (gc_en σ) p 0)
abbrev vfM (τ : MS) (p f : Nat) : MS := sm_en (sm_o τ (upd (gm_o τ) f 0)) (upd (gm_en τ) p 0)
theorem REL_pf {σ : CS} {τ : MS} {ln : Nat → Int32} (h : RELl σ τ ln) {p f : Nat} (hp : p < 64) (hf : f < 64) (he : gm_en τ p = nI (f + 1)) (hout : ∀ q, q < 64 → ∀ m, m ≤ 8 → ln q = nI m → ¬ (q ≤ p ∧ p < q + m)) : RELl (vfC σ p f) (vfM τ p f) ln := by
  obtain ⟨ho, hF, hw, hS, ⟨e1, e2, K, k1, k2, k3⟩, ⟨u1, u2⟩, ⟨r1, r2, r3⟩, hm⟩ := h
  have hnz : ¬ nI (f + 1) = (0 : Int32) := fun y => absurd ((nI_eq (b := 0) (by omega) (by omega)).mp y) (by omega)
  obtain ⟨o3, kf⟩ : gm_o τ f = 3 ∧ K f = p := by
    rcases k1 p hp with z | ⟨g, a, b, c, d⟩
    · rw [he] at z; exact absurd z hnz
    · have : g = f := by
        have := (nI_eq (by omega) (by omega)).mp (he.symm.trans b)
        omega
      subst this
      exact ⟨c, d⟩
  have keep : ∀ g, ∀ c : Int32, ¬ c = 3 → gm_o τ g = c → upd (gm_o τ) f 0 g = c := fun g c hc hg => by
    by_cases z : g = f
    · rw [z, o3] at hg; exact absurd hg.symm hc
    · rw [u_ne z]; exact hg
  refine ⟨by show upd (gc_o σ) f 0 = upd (gm_o τ) f 0; rw [ho], FB_free hF hf, ?_, ?_, ⟨by show upd (gc_en σ) p 0 = upd (gm_en τ) p 0; rw [e1], e2, K, ?_, ?_, k3⟩, ⟨u1, UN_mono u2 (fun g _ hg => keep g 5 (by decide) hg)⟩, ⟨r1, r2, RP_mono r3 (fun g _ hg => ⟨keep g 1 (by decide) hg, fun i _ => rfl⟩) (fun g _ hg => ⟨keep g 4 (by decide) hg, rfl⟩) (fun g _ hg => u_4 (v := 0) (by decide) hg)⟩, hm⟩
  · intro j hj hne
    have hne : ¬ upd (gm_o τ) f 0 (j / 16) = 0 := hne
    refine hw j hj (fun z => hne ?_)
    by_cases v : j / 16 = f
    · rw [v, u_eq]
    · rw [u_ne v]; exact z
  · refine RS_o hS rfl rfl rfl rfl (o' := upd (gm_o τ) f 0) rfl (fun g _ => ⟨fun w => ?_, fun w => keep g 2 (by decide) w⟩)
    by_cases v : g = f
    · rw [v, u_eq] at w; exact absurd w (by decide)
    · rw [u_ne v] at w; exact w
  · intro q hq
    show upd (gm_en τ) p 0 q = 0 ∨ ∃ g, g < 64 ∧ upd (gm_en τ) p 0 q = nI (g + 1) ∧ upd (gm_o τ) f 0 g = 3 ∧ K g = q
    by_cases z : q = p
    · exact Or.inl (by rw [z, u_eq])
    · rw [u_ne z]
      rcases k1 q hq with y | ⟨g, a, b, c, d⟩
      · exact Or.inl y
      · have gn : ¬ g = f := fun y => z (by rw [← d, y, kf])
        exact Or.inr ⟨g, a, b, by rw [u_ne gn]; exact c, d⟩
  · intro q hq
    obtain ⟨m, m1, m2, m3, m4⟩ := k2 q hq
    refine ⟨m, m1, m2, m3, fun i hi => ?_⟩
    show ¬ upd (gm_en τ) p 0 (q + i) = 0
    rw [u_ne (fun y => hout q hq m m1 m2 (by omega))]
    exact m4 i hi
theorem n_s1 (f : Nat) : nI (f + 1) - (1 : Int32) = nI f := nI_pred f
theorem vf_loop {ln : Nat → Int32} {a n : Nat} (han : a + n ≤ 64) (hout : ∀ j, j < n → ∀ q, q < 64 → ∀ m, m ≤ 8 → ln q = nI m → ¬ (q ≤ a + j ∧ a + j < q + m)) (N : Nat) : ∀ (i : Nat) (σ : CS) (τ : MS), i ≤ n → n - i < N → RELl σ τ ln → (∀ j, i ≤ j → j < n → ¬ gm_en τ (a + j) = 0) →
    ∃ σ' τ', mc_Ranges_remove_l41 N (nI a) (nI n) (nI (a + i)) σ = mc_Ranges_remove_b79 (nI a) (nI n) σ' ∧ mm_vfree_l70 N (nI a) (nI n) (nI (a + i)) τ = mm_vfree_b108 (nI a) (nI n) τ' ∧ RELl σ' τ' ln ∧ gm_th τ' = gm_th τ ∧ gm_ln τ' = gm_ln τ := by
  induction N with
  | zero => intro i σ τ _ h; exact absurd h (Nat.not_lt_zero _)
  | succ N ih =>
    intro i σ τ hi hN hR hen
    show ∃ σ' τ', mc_Ranges_remove_b41 (mc_Ranges_remove_l41 N) (nI a) (nI n) (nI (a + i)) σ = _ ∧ mm_vfree_b70 (mm_vfree_l70 N) (nI a) (nI n) (nI (a + i)) τ = _ ∧ _
    unfold mc_Ranges_remove_b41 mm_vfree_b70
    rw [nI_add a n]
    by_cases e : i = n
    · subst e
      refine ⟨σ, τ, ?_, ?_, hR, rfl, rfl⟩
      · rw [if_pos ((nI_leI (by omega) (by omega)).mpr (Nat.le_refl _))]
      · rw [if_pos ((nI_leI (by omega) (by omega)).mpr (Nat.le_refl _))]
    · have hlt : i < n := by omega
      have hR9 := hR
      obtain ⟨ho, hF, hw, hS, ⟨e1, e2, K, k1, k2, k3⟩, hU, hr, hm⟩ := hR9
      obtain ⟨f, f1, f2, f3, f4⟩ : ∃ f, f < 64 ∧ gm_en τ (a + i) = nI (f + 1) ∧ gm_o τ f = 3 ∧ K f = a + i := by
        rcases k1 (a + i) (by omega) with z | z
        · exact absurd z (hen i (Nat.le_refl _) hlt)
        · exact z
      have hne : ¬ nI (a + n) ≤ nI (a + i) := fun z => absurd ((nI_leI (by omega) (by omega)).mp z) (by omega)
      have hR2 := REL_pf hR (p := a + i) (by omega) f1 f2 (hout i hlt)
      obtain ⟨σ', τ', q1, q2, q3, q4, q5⟩ := ih (i + 1) _ _ (by omega) (by omega) hR2 (fun j h1 h2 => by
        show ¬ upd (gm_en τ) (a + i) 0 (a + j) = 0
        rw [u_ne (by omega)]
        exact hen j (by omega) h2)
      refine ⟨σ', τ', ?_, ?_, q3, q4, q5⟩
      · rw [if_neg hne, gi_n (show a + i < 64 by omega) (by omega), nI_clamp (by omega), e1, f2, n_s1, c_mf _ f1, cv_r, gi_c (show a + i < 64 by omega) (by omega), wr_r, nI_1, Nat.add_assoc, ← q1]
      · rw [if_neg hne, gi_n (show a + i < 64 by omega) (by omega), nI_clamp (n := a + i) (by omega), f2, n_s1, gi_n f1 (by omega), nI_clamp (by omega), wr_r, gi_c (show a + i < 64 by omega) (by omega), wr_r, nI_1, Nat.add_assoc, ← q2]
theorem d16 : ∀ a, a < 1024 → nI a / (16 : Int32) = nI (a / 16) ∧ nI a - nI a / (16 : Int32) * (16 : Int32) = nI (a % 16) := by decide +kernel
theorem op_vfree {σ : CS} {τ : MS} (h : REL σ τ) (x : Int32) : kc1 (mc_vfree σ x) (mm_vfree τ x) := by
  obtain ⟨ho, hF, hw, hS, ⟨e1, e2, K, k1, k2, k3⟩, hU, hr, hm⟩ := h
  have h : REL σ τ := ⟨ho, hF, hw, hS, ⟨e1, e2, K, k1, k2, k3⟩, hU, hr, hm⟩
  have out : mc_Ranges_remove σ x = some (-1, σ) → mm_vfree τ x = mm_vfree_b34 x τ → kc1 (mc_vfree σ x) (mm_vfree τ x) := by
    intro h1 h2
    refine Or.inr ⟨0, σ, sm_th τ 1, ?_, ?_, rfl, h⟩
    · unfold mc_vfree; rw [h1]; rfl
    · rw [h2]; rfl
  by_cases h1 : x < 0
  · exact out (by unfold mc_Ranges_remove; rw [if_pos h1]) (by unfold mm_vfree; rw [m_inL h1, cp_r, if_pos rfl])
  · by_cases h2 : (1024 : Int32) ≤ x
    · exact out (by unfold mc_Ranges_remove; rw [if_neg h1, if_pos h2]) (by unfold mm_vfree; rw [m_inG (show (1023 : Int32) < x from i_lt 1023 (by omega) h2), cp_r, if_pos rfl])
    · obtain ⟨b, hb, rfl⟩ := i_in 1024 (by omega) h1 h2
      obtain ⟨d1, d2⟩ := d16 b hb
      have hmi : mm_in (nI b) (0 : Int32) (1023 : Int32) = some 1 := m_inI (n := 1023) hb (by omega)
      by_cases z : b % 16 = 0
      · have a64 : b / 16 < 64 := by omega
        obtain ⟨n, n1, n2, n3, n4⟩ := k2 (b / 16) a64
        have hcr : mc_Ranges_remove σ (nI b) = if nI n = (0 : Int32) then some (-1, σ) else mc_Ranges_remove_l41 FU (nI (b / 16)) (nI n) (nI (b / 16)) σ := by
          unfold mc_Ranges_remove
          rw [if_neg h1, if_neg h2, d2, z, if_pos (show nI 0 = (0 : Int32) from rfl), d1, gi_n a64 (by omega), nI_clamp (by omega), e2, n2]
        have hmr : mm_vfree τ (nI b) = if nI n ≤ (0 : Int32) then mm_vfree_b34 (nI b) τ else mm_vfree_b35 (nI b) 1 τ := by
          unfold mm_vfree
          rw [hmi, cp_r, if_neg (by decide), d2, z, if_pos (show nI 0 = (0 : Int32) from rfl), d1, gi_n a64 (by omega), nI_clamp (by omega), n2]
        by_cases zn : n = 0
        · subst zn
          exact out (by rw [hcr, if_pos (show nI 0 = (0 : Int32) from rfl)]) (by rw [hmr, if_pos (show nI 0 ≤ (0 : Int32) by decide)])
        · have np : 0 < n := Nat.pos_of_ne_zero zn
          have hnz : ¬ nI n = (0 : Int32) := fun y => zn ((nI_eq (b := 0) (by omega) (by omega)).mp y)
          rw [if_neg hnz] at hcr
          rw [if_neg (nI_nle np (by omega))] at hmr
          have hlz : ¬ gm_ln τ (b / 16) = 0 := by rw [n2]; exact hnz
          -- the ranges without this one
          have hE : EN (gm_o τ) (gm_en τ) (upd (gm_ln τ) (b / 16) 0) := by
            refine ⟨K, k1, fun q hq => ?_, fun p q hpq hq hne m m1 m2 => ?_⟩
            · by_cases y : q = b / 16
              · exact ⟨0, by omega, by rw [y, u_eq]; rfl, by omega, fun i hi => absurd hi (Nat.not_lt_zero _)⟩
              · rw [u_ne y]; exact k2 q hq
            · by_cases y : q = b / 16
              · rw [y, u_eq] at hne; exact absurd rfl hne
              · rw [u_ne y] at hne
                by_cases y2 : p = b / 16
                · rw [y2, u_eq] at m2
                  have : m = 0 := ((nI_eq (a := 0) (by omega) (by omega)).mp m2).symm
                  omega
                · rw [u_ne y2] at m2
                  exact k3 p q hpq hq hne m m1 m2
          have hout : ∀ j, j < n → ∀ q, q < 64 → ∀ m, m ≤ 8 → upd (gm_ln τ) (b / 16) 0 q = nI m → ¬ (q ≤ b / 16 + j ∧ b / 16 + j < q + m) := by
            intro j hj q hq m m1 m2 y
            by_cases y2 : q = b / 16
            · rw [y2, u_eq] at m2
              have : m = 0 := ((nI_eq (a := 0) (by omega) (by omega)).mp m2).symm
              omega
            · rw [u_ne y2] at m2
              rcases Nat.lt_or_gt_of_ne y2 with lt | gt
              · have := k3 q (b / 16) lt a64 hlz m m1 m2
                omega
              · have := k3 (b / 16) q gt hq (by rw [m2]; exact fun w => absurd ((nI_eq (b := 0) (by omega) (by omega)).mp w) (by omega)) n n1 n2
                omega
          obtain ⟨σ', τ', q1, q2, q3, q4, q5⟩ := vf_loop n3 hout FU 0 σ (sm_th τ 0) (by omega) (show n - 0 < 300 by omega) ⟨ho, hF, hw, hS, ⟨e1, e2, hE⟩, hU, hr, hm⟩ (fun j _ hj => n4 j hj)
          rw [Nat.add_zero] at q1 q2
          rw [q1] at hcr
          obtain ⟨g1, g2, g3, g4, ⟨g5, g6, g7⟩, g8, g9, g10⟩ := q3
          have q5 : gm_ln τ' = gm_ln τ := q5
          have q4 : gm_th τ' = 0 := q4
          have hne : ¬ nI n = (-1 : Int32) := fun y => absurd (nI_pos (n := n) (by omega)) (fun w => w (by rw [y]; decide))
          have hans : mc_orNotAsTold (nI n) = some (nI n, 0) := by unfold mc_orNotAsTold; rw [if_neg hne]
          refine Or.inl ⟨nI n, sc_ln σ' (upd (gc_ln σ') (b / 16) 0), sm_ln τ' (upd (gm_ln τ') (b / 16) 0), ?_, ?_, q4, ⟨g1, g2, g3, g4, ⟨g5, ?_, ?_⟩, g8, g9, g10⟩⟩
          · unfold mc_vfree
            rw [hcr]
            unfold mc_Ranges_remove_b79
            rw [gi_n a64 (by omega), nI_clamp (by omega), wr_r, cw_r, hans]
            rfl
          · rw [hmr]
            unfold mm_vfree_b35
            rw [if_neg (by decide)]
            unfold mm_vfree_b46
            rw [tb_0, cw_r, if_pos rfl, d1, gi_n a64 (by omega), nI_clamp (by omega)]
            show mm_vfree_l70 FU (nI (b / 16)) (gm_ln τ (b / 16)) (nI (b / 16)) (sm_th τ 0) = _
            rw [n2, q2]
            unfold mm_vfree_b108
            rw [gi_n a64 (by omega), nI_clamp (by omega)]
            rfl
          · show upd (gc_ln σ') (b / 16) 0 = upd (gm_ln τ') (b / 16) 0
            rw [g6]
          · show EN (gm_o τ') (gm_en τ') (upd (gm_ln τ') (b / 16) 0)
            rw [q5]; exact g7
      · have hnz : ¬ nI (b % 16) = (0 : Int32) := fun y => z ((nI_eq (b := 0) (by omega) (by omega)).mp y)
        exact out (by unfold mc_Ranges_remove; rw [if_neg h1, if_neg h2, d2, if_neg hnz]) (by unfold mm_vfree; rw [hmi, cp_r, if_neg (by decide), d2, if_neg hnz])
