/-! ===== vmalloc: pages get frames one by one ===== -/
abbrev vmC (σ : CS) (p f : Nat) : CS := sc_en (gv σ f 3) (upd (gc_en σ) p (nI (f + 1)))
abbrev vmM (τ : MS) (p f : Nat) : MS := sm_en (ow τ f 3) (upd (gm_en τ) p (nI (f + 1)))
theorem REL_pg {σ : CS} {τ : MS} (h : REL σ τ) {p f : Nat} (hp : p < 64) (hf : f < 64) (h0 : gm_o τ f = 0) (he : gm_en τ p = 0) : REL (vmC σ p f) (vmM τ p f) := by
  have hG := REL_give h hf h0 (v := 3) (by decide) (by decide) (by decide)
  obtain ⟨-, -, -, -, ⟨e1, e2, K, k1, k2, k3⟩, -⟩ := h
  obtain ⟨g1, g2, g3, g4, -, g6, g7, g8⟩ := hG
  refine ⟨g1, g2, g3, g4, ⟨by show upd (gc_en σ) p (nI (f + 1)) = upd (gm_en τ) p (nI (f + 1)); rw [e1], e2, kU K f p, ?_, ?_, k3⟩, g6, g7, g8⟩
  · intro q hq
    show upd (gm_en τ) p (nI (f + 1)) q = 0 ∨ ∃ g, g < 64 ∧ upd (gm_en τ) p (nI (f + 1)) q = nI (g + 1) ∧ upd (gm_o τ) f 3 g = 3 ∧ kU K f p g = q
    by_cases z : q = p
    · exact Or.inr ⟨f, hf, by rw [z, u_eq], u_eq, by rw [kU_e, z]⟩
    · rw [u_ne z]
      rcases k1 q hq with y | ⟨g, a, b, c, d⟩
      · exact Or.inl y
      · have gn : ¬ g = f := fun y => by rw [y, h0] at c; exact absurd c (by decide)
        exact Or.inr ⟨g, a, b, by rw [u_ne gn]; exact c, by rw [kU_n gn]; exact d⟩
  · intro q hq
    obtain ⟨m, m1, m2, m3, m4⟩ := k2 q hq
    refine ⟨m, m1, m2, m3, fun i hi => ?_⟩
    show ¬ upd (gm_en τ) p (nI (f + 1)) (q + i) = 0
    rw [u_ne (fun y => m4 i hi (by rw [y]; exact he))]
    exact m4 i hi
theorem vm_loop {a n : Nat} (han : a + n ≤ 64) (N : Nat) : ∀ (i : Nat) (σ : CS) (τ : MS), i ≤ n → n - i < N → REL σ τ → n - i ≤ cz (gm_o τ) 64 → (∀ j, i ≤ j → j < n → gm_en τ (a + j) = 0) →
    ∃ σ' τ', mc_Ranges_add_l26 N (nI n) (nI a) (nI (a + i)) σ = mc_Ranges_add_b55 (nI n) (nI a) σ' ∧ mm_vmalloc_l59 N (nI n) (nI a) (nI (a + i)) τ = mm_vmalloc_b87 (nI n) (nI a) τ' ∧ REL σ' τ' ∧ gm_th τ' = gm_th τ ∧ gm_ln τ' = gm_ln τ ∧
      (∀ j, i ≤ j → j < n → ¬ gm_en τ' (a + j) = 0) ∧ ∀ q, ¬ (a + i ≤ q ∧ q < a + n) → gm_en τ' q = gm_en τ q := by
  induction N with
  | zero => intro i σ τ _ h; exact absurd h (Nat.not_lt_zero _)
  | succ N ih =>
    intro i σ τ hi hN hR hc hen
    show ∃ σ' τ', mc_Ranges_add_b26 (mc_Ranges_add_l26 N) (nI n) (nI a) (nI (a + i)) σ = _ ∧ mm_vmalloc_b59 (mm_vmalloc_l59 N) (nI n) (nI a) (nI (a + i)) τ = _ ∧ _
    unfold mc_Ranges_add_b26 mm_vmalloc_b59
    rw [nI_add a n]
    by_cases e : i = n
    · subst e
      refine ⟨σ, τ, ?_, ?_, hR, rfl, rfl, fun j h1 h2 => absurd h1 (by omega), fun q _ => rfl⟩
      · rw [if_pos ((nI_leI (by omega) (by omega)).mpr (Nat.le_refl _))]
      · rw [if_pos ((nI_leI (by omega) (by omega)).mpr (Nat.le_refl _))]
    · have hlt : i < n := by omega
      have hne : ¬ nI (a + n) ≤ nI (a + i) := fun z => absurd ((nI_leI (by omega) (by omega)).mp z) (by omega)
      obtain ⟨f, f1, f2, f3, f4⟩ := g_give hR.1 hR.2.1 (show 0 < cz (gm_o τ) 64 by omega) 3
      have hcz := cz_give (o := gm_o τ) (v := 3) f1 f2 (by decide)
      have hR2 := REL_pg hR (p := a + i) (by omega) f1 f2 (hen i (Nat.le_refl _) hlt)
      have hnz : ¬ nI (f + 1) = (0 : Int32) := fun y => absurd ((nI_eq (b := 0) (by omega) (by omega)).mp y) (by omega)
      obtain ⟨σ', τ', q1, q2, q3, q4, q5, q6, q7⟩ := ih (i + 1) _ _ (by omega) (by omega) hR2 (by show n - (i + 1) ≤ cz (upd (gm_o τ) f 3) 64; omega) (fun j h1 h2 => by
        show upd (gm_en τ) (a + i) (nI (f + 1)) (a + j) = 0
        rw [u_ne (by omega)]
        exact hen j (by omega) h2)
      refine ⟨σ', τ', ?_, ?_, q3, q4, q5, fun j h1 h2 => ?_, fun q hq => ?_⟩
      · rw [if_neg hne, f3, cw_r, gi_n (show a + i < 64 by omega) (by omega), nI_clamp (by omega), wr_r, n1_a, nI_1, Nat.add_assoc, ← q1]
      · rw [if_neg hne, f4, cw_r, gi_n (show a + i < 64 by omega) (by omega), nI_clamp (by omega), wr_r, n1_a, nI_1, Nat.add_assoc, ← q2]
      · by_cases z : j = i
        · subst z
          rw [q7 (a + j) (by omega)]
          show ¬ upd (gm_en τ) (a + j) (nI (f + 1)) (a + j) = 0
          rw [u_eq]; exact hnz
        · exact q6 j (by omega) h2
      · rw [q7 q (by omega)]
        show upd (gm_en τ) (a + i) (nI (f + 1)) q = gm_en τ q
        rw [u_ne (by omega)]
theorem i_18 {x : Int32} (h1 : ¬ x < 1) (h2 : x ≤ 8) : ∃ k, 1 ≤ k ∧ k ≤ 8 ∧ x = nI k := by
  have h0 : ¬ x < 0 := fun z => h1 (by
    rw [Int32.lt_iff_toInt_lt] at z ⊢
    have e0 : (0 : Int32).toInt = 0 := by decide
    have e1 : (1 : Int32).toInt = 1 := by decide
    omega)
  obtain ⟨k, hk, e⟩ := i_in 9 (by omega) h0 (x := x) (fun z => by
    rw [Int32.le_iff_toInt_le] at h2 z
    have e8 : (8 : Int32).toInt = 8 := by decide
    have e9 : (nI 9).toInt = 9 := by decide
    omega)
  subst e
  refine ⟨k, ?_, by omega, rfl⟩
  rcases Nat.eq_zero_or_pos k with z | z
  · subst z; exact absurd (show nI 0 < 1 by decide) h1
  · exact z
theorem i_8 {x : Int32} (h : ¬ x ≤ 8) : 8 < x := by
  rw [Int32.le_iff_toInt_le] at h
  rw [Int32.lt_iff_toInt_lt]
  omega
theorem n_ne {n : Nat} (h : n < 2 ^ 31) : ¬ nI n = (-1 : Int32) := fun y => absurd (nI_pos (n := n) h) (fun w => w (by rw [y]; decide))
theorem op_vmalloc {σ : CS} {τ : MS} (h : REL σ τ) (x : Int32) : OK3 (mc_vmalloc σ x) (mm_vmalloc τ x) 2 := by
  have out : mc_vmalloc σ x = some (0, 1, σ) → mm_in x 1 8 = some 0 → OK3 (mc_vmalloc σ x) (mm_vmalloc τ x) 2 := by
    intro h1 h2
    refine Or.inr (Or.inl ⟨0, σ, sm_th τ 1, h1, ?_, rfl, h⟩)
    unfold mm_vmalloc; rw [h2]; rfl
  by_cases h1 : x < 1
  · exact out (by unfold mc_vmalloc; rw [if_pos h1]; rfl) (m_inL h1)
  · by_cases h2 : x ≤ 8
    · obtain ⟨n, n1, n8, rfl⟩ := i_18 h1 h2
      have hmi : mm_in (nI n) (1 : Int32) (8 : Int32) = some 1 := by
        unfold mm_in
        rw [if_neg h1, if_neg (show ¬ (8 : Int32) < nI n from fun z => absurd ((nI_ltI (a := 8) (b := n) (by omega) (by omega)).mp z) (by omega))]
      obtain ⟨ho, hF, hw, hS, ⟨e1, e2, K, k1, k2, k3⟩, hU, hr, hm⟩ := h
      have h : REL σ τ := ⟨ho, hF, hw, hS, ⟨e1, e2, K, k1, k2, k3⟩, hU, hr, hm⟩
      have hlr := c_lr σ n1 n8
      rw [e1] at hlr
      have hcf : mc_Frames_countFree σ = some (nI (cz (gm_o τ) 64)) := by rw [c_cf hF, ho]
      have hle := cz_le (gm_o τ) 64
      have hmm : mm_vmalloc τ (nI n) = mm_vmalloc_b21 (nI n) 1 (o2 (fp (row (gm_en τ) n) 0 (65 - n))) τ := by
        unfold mm_vmalloc
        rw [hmi, cp_r, if_neg (by decide), m_rw τ n1 n8, cp_r]
      have hcm : mc_vmalloc σ (nI n) = mi_cw (mc_Ranges_add σ (nI n)) fun r2 σ1 => mi_tq (mc_orNotEnough r2) σ1 fun r3 => some (r3, 0, σ1) := by
        unfold mc_vmalloc
        rw [if_neg h1, if_pos h2]
      rw [hmm, hcm]
      unfold mc_Ranges_add mm_vmalloc_b21
      rw [hlr, cp_r, if_neg (show ¬ (1 : Int32) = 0 by decide)]
      cases e : fp (row (gm_en τ) n) 0 (65 - n) with
      | none =>
        refine Or.inr (Or.inr ⟨0, σ, sm_th τ 2, ?_, ?_, rfl, h⟩)
        · rw [if_pos (show o2 none = (-1 : Int32) from rfl)]; rfl
        · rw [if_pos (show o2 none < 0 by decide)]; rfl
      | some a =>
        obtain ⟨-, a2, a3, -⟩ := fp_lt _ _ 0 a e
        have hz : ∀ j, j < n → gm_en τ (a + j) = 0 := of_decide_eq_true a3
        have han : a + n ≤ 64 := by omega
        rw [show o2 (some a) = nI a from rfl, if_neg (n_ne (by omega)), if_neg (nI_pos (by omega)), hcf, m_cf, cp_r, cp_r]
        by_cases z : n ≤ cz (gm_o τ) 64
        · have z9 : nI n ≤ nI (cz (gm_o τ) 64) := (nI_leI (by omega) (by omega)).mpr z
          rw [if_pos z9, if_pos z9]
          obtain ⟨σ', τ', q1, q2, q3, q4, q5, q6, q7⟩ := vm_loop han FU 0 σ (sm_th τ 0) (by omega) (show n - 0 < 300 by omega) h (by show n - 0 ≤ cz (gm_o τ) 64; omega) (fun j _ hj => hz j hj)
          rw [Nat.add_zero] at q1 q2
          obtain ⟨g1, g2, g3, g4, ⟨g5, g6, K', l1, l2, l3⟩, g8, g9, g10⟩ := q3
          have q4 : gm_th τ' = 0 := q4
          have q5 : gm_ln τ' = gm_ln τ := q5
          have q7 : ∀ q, ¬ (a + 0 ≤ q ∧ q < a + n) → gm_en τ' q = gm_en τ q := q7
          have a64 : a < 64 := by omega
          refine Or.inl ⟨nI (a * 16), sc_ln σ' (upd (gc_ln σ') a (nI n)), sm_ln τ' (upd (gm_ln τ') a (nI n)), ?_, ?_, q4, ⟨g1, g2, g3, g4, ⟨g5, by show upd (gc_ln σ') a (nI n) = upd (gm_ln τ') a (nI n); rw [g6], K', l1, ?_, ?_⟩, g8, g9, g10⟩⟩
          · rw [q1]
            unfold mc_Ranges_add_b55
            rw [gi_n a64 (by omega), nI_clamp (by omega), wr_r, cw_r, show (16 : Int32) = nI 16 from rfl, nI_mu]
            unfold mc_orNotEnough
            rw [if_neg (n_ne (by omega))]
            rfl
          · unfold mm_vmalloc_b48
            rw [tb_0, cw_r, if_pos rfl, q2]
            unfold mm_vmalloc_b87
            rw [gi_n a64 (by omega), nI_clamp (by omega), wr_r, show (16 : Int32) = nI 16 from rfl, nI_mu, Nat.mul_comm]
          · intro q hq
            show ∃ m, m ≤ 8 ∧ upd (gm_ln τ') a (nI n) q = nI m ∧ q + m ≤ 64 ∧ ∀ i, i < m → ¬ gm_en τ' (q + i) = 0
            by_cases y : q = a
            · exact ⟨n, n8, by rw [y, u_eq], by omega, fun i hi => by rw [y]; exact q6 i (by omega) hi⟩
            · rw [u_ne y]; exact l2 q hq
          · intro p q hpq hq hne m m1 m2
            have hne : ¬ upd (gm_ln τ') a (nI n) q = 0 := hne
            have m2 : upd (gm_ln τ') a (nI n) p = nI m := m2
            by_cases y : q = a
            · by_cases y2 : p = a
              · omega
              · rw [u_ne y2, q5] at m2
                obtain ⟨m', m1', m2', m3', m4'⟩ := k2 p (by omega)
                have em : m = m' := (nI_eq (by omega) (by omega)).mp (m2.symm.trans m2')
                apply Nat.le_of_not_lt
                intro lt
                have := m4' (a - p) (by omega)
                rw [show p + (a - p) = a + 0 by omega] at this
                exact this (hz 0 (by omega))
            · rw [u_ne y, q5] at hne
              by_cases y2 : p = a
              · rw [y2, u_eq] at m2
                have em : m = n := ((nI_eq (by omega) (by omega)).mp m2).symm
                obtain ⟨m', m1', m2', m3', m4'⟩ := k2 q hq
                apply Nat.le_of_not_lt
                intro lt
                have mp : 0 < m' := by
                  rcases Nat.eq_zero_or_pos m' with w | w
                  · rw [w] at m2'; exact absurd m2' hne
                  · exact w
                have := m4' 0 mp
                rw [show q + 0 = a + (q - a) by omega] at this
                exact this (hz (q - a) (by omega))
              · rw [u_ne y2, q5] at m2
                exact k3 p q hpq hq hne m m1 m2
        · have z9 : ¬ nI n ≤ nI (cz (gm_o τ) 64) := fun y => z ((nI_leI (by omega) (by omega)).mp y)
          rw [if_neg z9, if_neg z9]
          exact Or.inr (Or.inr ⟨0, σ, sm_th τ 2, rfl, rfl, rfl, h⟩)
    · exact out (by unfold mc_vmalloc; rw [if_neg h1, if_neg h2]; rfl) (m_inG (i_8 h2))
