/-! ===== destroy: the tree, the regions, the root ===== -/
theorem de_out {s r : Nat} {g : Nat → Int32} (hs : s < 4) (hr : r < 64) (N : Nat) : ∀ (d i M c : Nat) (σ : CS) (τ : MS), i + d = 16 → d < M → REL (star σ τ) τ → gm_ro τ s = nI (r + 1) → gm_o τ r = 1 → (∀ x, x < i → gm_w τ (16 * r + x) = 0) → WO r i σ τ → gm_rg τ = us g (256 * s) v0 (16 * i) →
    ∃ n σ' τ', mc_Spaces_removeTree_l4 M (nI r) (nI c) (nI i) σ = some (nI n, fr σ' r) ∧ mm_destroy_l26 (N + 16 * d) (nI s) (nI c) (nI (16 * i)) τ = mm_destroy_l26 N (nI s) (nI n) (nI 256) τ' ∧ REL (star σ' τ') τ' ∧ gm_rg τ' = us g (256 * s) v0 256 ∧ WO r 16 σ' τ' ∧ gc_rg σ' = gc_rg σ ∧ gm_th τ' = gm_th τ ∧ gm_ro τ' = gm_ro τ ∧ gm_o τ' r = 1 ∧ n ≤ c + 17 * d ∧ ∀ x, x < 16 → gm_w τ' (16 * r + x) = 0 := by
  intro d
  induction d with
  | zero =>
    intro i M c σ τ hi hM h h2 o1 hy hW hg
    have : i = 16 := by omega
    subst this
    obtain ⟨M', rfl⟩ : ∃ M', M = M' + 1 := ⟨M - 1, by omega⟩
    refine ⟨c, σ, τ, ?_, rfl, h, hg, hW, rfl, rfl, rfl, o1, by omega, hy⟩
    show mc_Spaces_removeTree_b4 (mc_Spaces_removeTree_l4 M') (nI r) (nI c) (nI 16) σ = _
    unfold mc_Spaces_removeTree_b4 mc_Spaces_removeTree_b47
    rw [if_pos (show (16 : Int32) ≤ nI 16 by decide), c_mf σ hr, cv_r]
  | succ d ih =>
    intro i M c σ τ hi hM h h2 o1 hy hW hg
    obtain ⟨M', rfl⟩ : ∃ M', M = M' + 1 := ⟨M - 1, by omega⟩
    have hi16 : i < 16 := by omega
    have hent : gc_w σ (16 * r + i) = gm_w τ (16 * r + i) := hW _ (by omega) (by rw [show (16 * r + i) / 16 = r by omega, o1]; decide) (by omega)
    have cs : mc_Spaces_removeTree_l4 (M' + 1) (nI r) (nI c) (nI i) σ = if gm_w τ (16 * r + i) = 0 then mc_Spaces_removeTree_l4 M' (nI r) (nI c) (nI (i + 1)) σ else mi_cw (mc_Spaces_removeTable σ (gm_w τ (16 * r + i) - 1)) fun r4 σ3 => mc_Spaces_removeTree_l4 M' (nI r) (nI c + r4) (nI (i + 1)) σ3 := by
      show mc_Spaces_removeTree_b4 (mc_Spaces_removeTree_l4 M') (nI r) (nI c) (nI i) σ = _
      unfold mc_Spaces_removeTree_b4
      rw [if_neg (show ¬ (16 : Int32) ≤ nI i from fun z => absurd ((nI_leI (a := 16) (by omega) (by omega)).mp z) (by omega)), e16, c_rd σ (show 16 * r + i < 1024 by omega), cp_r, hent, nI_1]
    rw [cs, show N + 16 * (d + 1) = (N + 16 * d) + 16 by omega]
    by_cases z : gm_w τ (16 * r + i) = 0
    · rw [if_pos z]
      have hsk := m_skip (g := g) hs hr hi16 (N + 16 * d) 16 0 c τ (by omega) h2 z hg
      simp only [Nat.add_zero] at hsk
      rw [hsk, show 16 * i + 16 = 16 * (i + 1) by omega]
      obtain ⟨n', σ', τ', j1, j2, j3, j4, j5, j6, j7, j8, j9, j10, j11⟩ := ih (i + 1) M' c σ (sm_rg τ (us g (256 * s) v0 (16 * (i + 1)))) (by omega) (by omega) (st_rg h _) h2 o1 (fun x hx => by
        show gm_w τ (16 * r + x) = 0
        by_cases y : x = i
        · rw [y]; exact z
        · exact hy x (by omega)) (fun q a b c => hW q a b (by omega)) rfl
      exact ⟨n', σ', τ', j1, j2, j3, j4, j5, j6, j7, j8, j9, by omega, j11⟩
    · rw [if_neg z]
      have hRP : RP (gm_o τ) (gm_w τ) (gm_ro τ) (gc_eo σ) := h.2.2.2.2.2.2.1.2.2
      have hpt : ∃ t, t < 64 ∧ gm_w τ (16 * r + i) = nI (t + 1) ∧ gm_o τ t = 1 := by
        obtain ⟨⟨K, kk⟩, -⟩ := hRP
        rcases kk s hs with y | ⟨q, a, b, c, d, e⟩
        · rw [h2] at y; exact absurd ((nI_eq (b := 0) (by omega) (by omega)).mp y) (by omega)
        · have eq : q = r := by have := (nI_eq (by omega) (by omega)).mp (h2.symm.trans b); omega
          subst eq
          rcases e i hi16 with y | ⟨t', a2, b2, c2, -⟩
          · exact absurd y z
          · exact ⟨t', a2, b2, c2⟩
      obtain ⟨t, ht, h3, ot⟩ := hpt
      obtain ⟨n, σ1, τ1, i1, i2, i3, i4, i5, i6, i7, i8, i9, i10, i11⟩ := de_al (g := g) hs hr hi16 ht (N + 16 * d) 16 0 FU c 0 σ τ (by omega) (by decide) h h2 o1 h3 ot (fun x hx => absurd hx (Nat.not_lt_zero _)) hy (fun q a b c _ => hW q a b c) hg
      have i1 : mc_Spaces_removeTable σ (nI t) = some (nI n, σ1) := i1
      simp only [Nat.add_zero] at i2
      rw [h3, n_s1, i1, cw_r, nI_add, i2, show 16 * i + 16 = 16 * (i + 1) by omega]
      rw [show 16 * i + 16 = 16 * (i + 1) by omega] at i4
      obtain ⟨n', σ', τ', j1, j2, j3, j4, j5, j6, j7, j8, j9, j10, j11⟩ := ih (i + 1) M' (c + n) σ1 τ1 (by omega) (by omega) i3 (by rw [i8]; exact h2) i9 i11 i5 i4
      exact ⟨n', σ', τ', j1, j2, j3, j4, j5, j6.trans i6, j7.trans i7, j8.trans i8, j9, by omega, j11⟩
theorem RP_root {o w ro eo : Nat → Int32} {s r : Nat} (h : RP o w ro eo) (hs : s < 4) (hr : r < 64) (hro : ro s = nI (r + 1)) (ho : o r = 1) (hz : ∀ i, i < 16 → w (16 * r + i) = 0) : RP (upd o r 0) w (upd ro s 0) eo := by
  obtain ⟨⟨K, h⟩, po⟩ := h
  have Kr : K r = s := by
    rcases h s hs with z | ⟨q, a, b, c, d, -⟩
    · rw [hro] at z; exact absurd ((nI_eq (b := 0) (by omega) (by omega)).mp z) (by omega)
    · have : q = r := by have := (nI_eq (by omega) (by omega)).mp (hro.symm.trans b); omega
      rw [← this]; exact d
  refine ⟨⟨K, fun s' hs' => ?_⟩, fun q hq q4 => ?_⟩
  rotate_left
  · obtain ⟨s', r', i', t', j', a1, a2, a3, a4, a5, a6, a7, a8, a9, a10⟩ := po q hq (u_4 (by decide) q4)
    have nz : ∀ k, k < 64 → ¬ nI (k + 1) = (0 : Int32) := fun k hk y => absurd ((nI_eq (b := 0) (by omega) (by omega)).mp y) (by omega)
    have rr : ¬ r' = r := fun y => by rw [y, hz i' a3] at a7; exact nz t' a4 a7.symm
    have tr : ¬ t' = r := fun y => by rw [y, hz j' a5] at a8; exact nz q hq a8.symm
    have ss : ¬ s' = s := fun y => by rw [y, hro] at a6; have := (nI_eq (by omega) (by omega)).mp a6; omega
    exact ⟨s', r', i', t', j', a1, a2, a3, a4, a5, by rw [u_ne ss]; exact a6, a7, a8, by rw [u_ne rr]; exact a9, by rw [u_ne tr]; exact a10⟩
  by_cases y : s' = s
  · exact Or.inl (by rw [y, u_eq])
  · rw [u_ne y]
    rcases h s' hs' with z | ⟨r', a, b, c, d, e⟩
    · exact Or.inl z
    · have rr : ¬ r' = r := fun v => y (by rw [← d, v, Kr])
      refine Or.inr ⟨r', a, b, by rw [u_ne rr]; exact c, d, fun i hi => ?_⟩
      rcases e i hi with z | ⟨t, a2, b2, c2, d2, e2, f2⟩
      · exact Or.inl z
      · have tr : ¬ t = r := fun v => by rw [v, Kr] at d2; omega
        refine Or.inr ⟨t, a2, b2, by rw [u_ne tr]; exact c2, d2, e2, fun j hj => ?_⟩
        rcases f2 j hj with z | ⟨f, f1, f3, f4, f5⟩
        · exact Or.inl z
        · have fn : ¬ f = r := fun v => by rw [v, ho] at f4; exact absurd f4 (by decide)
          exact Or.inr ⟨f, f1, f3, by rw [u_ne fn]; exact f4, f5⟩
theorem c_rgl {s : Nat} (hs : s < 4) (x : Int32) (σ : CS) (N : Nat) : ∀ p, p ≤ 256 → 256 - p < N → mc_Spaces_remove_l32 N (nI s) x (nI p) (sc_rg σ (us (gc_rg σ) (256 * s) v0 p)) = some (x, sc_rg σ (us (gc_rg σ) (256 * s) v0 256)) := by
  induction N with
  | zero => intro p _ h; exact absurd h (Nat.not_lt_zero _)
  | succ N ih =>
    intro p hp hN
    show mc_Spaces_remove_b32 (mc_Spaces_remove_l32 N) (nI s) x (nI p) _ = _
    unfold mc_Spaces_remove_b32
    by_cases e : p = 256
    · subst e
      rw [if_pos (show (256 : Int32) ≤ nI 256 by decide)]
    · rw [if_neg (show ¬ (256 : Int32) ≤ nI p from fun z => absurd ((nI_leI (a := 256) (by omega) (by omega)).mp z) (by omega)), rgx, gi_n (show 256 * s + p < 1024 by omega) (by omega), nI_clamp (by omega), wr_r, nI_1]
      exact ih (p + 1) (by omega) (by omega)
theorem op_destroy {σ : CS} {τ : MS} (h : REL σ τ) (x : Int32) : kc1 (mc_destroy σ x) (mm_destroy τ x) := by
  rcases sp_all h x with ⟨s, hs, rfl, hn, hc, hm⟩ | ⟨hc, hm⟩
  · obtain ⟨r, r1, r2, r3, -⟩ := pg h hs (show 0 < 256 by omega) hn
    have hro := h.2.2.2.2.2.2.1.1
    have hrg := h.2.2.2.2.2.2.1.2.1
    have hst : REL (star σ (sm_th τ 0)) (sm_th τ 0) := by
      obtain ⟨g1, g2, g3, g4, g5, g6, ⟨q1, q2, q3⟩, g8⟩ := h
      exact ⟨g1, g2, fun _ _ _ => rfl, g4, g5, g6, ⟨q1, rfl, q3⟩, g8⟩
    obtain ⟨n, σ', τ', i1, i2, i3, i4, i5, i6, i7, i8, i9, i10, i11⟩ := de_out (g := gm_rg τ) hs r1 44 16 0 FU 1 σ (sm_th τ 0) (by omega) (by decide) hst r2 r3 (fun x hx => absurd hx (Nat.not_lt_zero _)) (fun q a b _ => h.2.2.1 q a b) rfl
    have i1 : mc_Spaces_removeTree σ (nI r) = some (nI n, fr σ' r) := i1
    have hroC : gc_ro σ' = gm_ro τ := i3.2.2.2.2.2.2.1.1.trans i8
    have i2 : mm_destroy_l26 FU (nI s) (1 : Int32) (0 : Int32) (sm_th τ 0) = mm_destroy_l26 44 (nI s) (nI n) (nI 256) τ' := i2
    have hcr : mc_Spaces_remove σ (nI s) = some (nI n, sc_rg (sc_ro (fr σ' r) (upd (gc_ro σ') s 0)) (us (gc_rg σ') (256 * s) v0 256)) := by
      unfold mc_Spaces_remove
      rw [hc, cp_r, if_neg (by decide), gi_n hs (by omega), nI_clamp (by omega), hro, r2, n_s1, i1, cw_r, gi_c hs (by omega), wr_r]
      exact c_rgl hs (nI n) (sc_ro (fr σ' r) (upd (gc_ro σ') s 0)) FU 0 (by omega) (by decide)
    have hmr : mm_destroy_l26 44 (nI s) (nI n) (nI 256) τ' = some (nI n, sm_ro (sm_o τ' (upd (gm_o τ') r 0)) (upd (gm_ro τ) s 0)) := by
      show mm_destroy_b26 (mm_destroy_l26 43) (nI s) (nI n) (nI 256) τ' = _
      unfold mm_destroy_b26 mm_destroy_b61
      rw [if_pos (show (256 : Int32) ≤ nI 256 by decide), gi_n hs (by omega), nI_clamp (n := s) (by omega), i8]
      show mi_gd (gm_ro τ s - 1 < 0 ∨ 64 ≤ (gm_ro τ s - 1).toNatClampNeg) _ = _
      rw [r2, n_s1, gi_n r1 (by omega), wr_r, gi_c hs (by omega), wr_r]
      show some (nI n, sm_ro (sm_o τ' (upd (gm_o τ') (nI r).toNatClampNeg 0)) (upd (gm_ro τ') s 0)) = _
      rw [nI_clamp (by omega), i8]
    have hne : ∀ k, k < 2 ^ 31 → ¬ nI k = (-1 : Int32) := fun k hk y => absurd (nI_pos (n := k) hk) (fun w => w (by rw [y]; decide))
    refine Or.inl ⟨nI n, sc_rg (sc_ro (fr σ' r) (upd (gc_ro σ') s 0)) (us (gc_rg σ') (256 * s) v0 256), sm_ro (sm_o τ' (upd (gm_o τ') r 0)) (upd (gm_ro τ) s 0), ?_, ?_, i7, ?_⟩
    · unfold mc_destroy
      rw [hcr, cw_r, show mc_orNotAsTold (nI n) = some (nI n, 0) by unfold mc_orNotAsTold; rw [if_neg (hne n (by omega))]]
      rfl
    · unfold mm_destroy mm_destroy_b14
      rw [hm, cp_r, if_neg (by decide), tb_0, cw_r, if_pos rfl, i2]
      exact hmr
    · have hS := RELs_fr (RELs_of i3) r1 (by rw [i9]; decide) (by rw [i9]; decide) (by rw [i9]; decide)
      have hP : RP (upd (gm_o τ') r 0) (gm_w τ') (upd (gm_ro τ') s 0) (gc_eo σ') := RP_root i3.2.2.2.2.2.2.1.2.2 hs r1 (by rw [i8]; exact r2) i9 i11
      have i8 : gm_ro τ' = gm_ro τ := i8
      rw [i8] at hP
      obtain ⟨a1, a2, a3, a4, a5, a6, -, a8⟩ := hS
      refine ⟨a1, a2, fun j hj hne => ?_, a4, a5, a6, ⟨?_, ?_, hP⟩, a8⟩
      · have hne : ¬ upd (gm_o τ') r 0 (j / 16) = 0 := hne
        have jr : ¬ j / 16 = r := fun y => hne (by rw [y, u_eq])
        rw [u_ne jr] at hne
        exact i5 j hj hne (by omega)
      · show upd (gc_ro σ') s 0 = upd (gm_ro τ) s 0
        rw [hroC]
      · show us (gc_rg σ') (256 * s) v0 256 = gm_rg τ'
        rw [i4, i6, hrg]
  · refine Or.inr ⟨0, σ, sm_th τ 1, ?_, ?_, rfl, h⟩
    · unfold mc_destroy mc_Spaces_remove; rw [hc]; rfl
    · unfold mm_destroy; rw [hm]; rfl
