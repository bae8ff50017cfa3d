/-! ===== kmalloc ===== -/
def pr (τ : MS) (k f : Nat) : Bool := decide (gm_o τ f = 2) && (decide (gm_sz τ f = nI (2 ^ k)) && !decide (gm_tk τ f = nI (2 ^ (16 / 2 ^ k) - 1)))
theorem c_lsl {σ : CS} {τ : MS} (h : REL σ τ) {k : Nat} (k1 : 1 ≤ k) (k3 : k ≤ 3) (N : Nat) : ∀ f, f ≤ 64 → 64 - f < N →
    mc_Slabs_lowestSlabWithRoom_l2 N (nI (2 ^ k)) (nI f) σ = some (o2 (fp (pr τ k) f (64 - f))) := by
  induction N with
  | zero => intro f _ h; exact absurd h (Nat.not_lt_zero _)
  | succ N ih =>
    intro f hf hN
    show mc_Slabs_lowestSlabWithRoom_b2 (mc_Slabs_lowestSlabWithRoom_l2 N) (nI (2 ^ k)) (nI f) σ = _
    unfold mc_Slabs_lowestSlabWithRoom_b2
    by_cases e : f = 64
    · subst e
      rw [if_pos (show (64 : Int32) ≤ nI 64 by decide)]
      rfl
    · have h1 : f < 64 := by omega
      obtain ⟨t1, t2, t3, t4⟩ := ft_k k (by omega) k1
      rw [if_neg (show ¬ (64 : Int32) ≤ nI f from fun z => absurd ((nI_leI (a := 64) (by omega) (by omega)).mp z) (by omega)), gi_n h1 (by omega), nI_clamp (by omega), nI_1, show 64 - f = (64 - (f + 1)) + 1 by omega]
      show _ = some (o2 (if pr τ k f then some f else fp (pr τ k) (f + 1) (64 - (f + 1))))
      have next := ih (f + 1) (by omega) (by omega)
      by_cases z : gm_o τ f = 2
      · obtain ⟨g1, g2, k', u, k1', k3', hs, ht, u0, hu⟩ := (h.2.2.2.1 f h1).1 z
        by_cases y : gm_sz τ f = nI (2 ^ k)
        · have hu2 : gc_sz σ f = nI (2 ^ k) := g1.trans y
          have hkk : u < 2 ^ (16 / 2 ^ k) := by
            have e9 : 2 ^ k = 2 ^ k' := (nI_eq (by omega) (by have := (ft_k k' (by omega) k1').2.2.1; omega)).mp (y.symm.trans hs)
            rw [e9]; exact hu
          rw [if_pos hu2, c_rm h1 k1 k3 hu2 (g2.trans ht) hkk, cp_r]
          have hp : pr τ k f = !decide (u = 2 ^ (16 / 2 ^ k) - 1) := by
            unfold pr
            rw [decide_eq_true z, decide_eq_true y, Bool.true_and, Bool.true_and, ht]
            congr 1
            by_cases w : u = 2 ^ (16 / 2 ^ k) - 1
            · rw [decide_eq_true w, decide_eq_true (by rw [w])]
            · rw [decide_eq_false w, decide_eq_false (fun v => w ((nI_eq (by omega) (by omega)).mp v))]
          by_cases w : u = 2 ^ (16 / 2 ^ k) - 1
          · rw [if_pos w, if_pos rfl, hp, decide_eq_true w, if_neg (by decide)]
            exact next
          · have hl := ((lz_k k (by omega) k1 u hkk).2 w).2.1
            have hp9 : 0 < 2 ^ k := Nat.two_pow_pos k
            rw [if_neg w, if_neg (n_ne (by omega)), hp, decide_eq_false w, if_pos (by decide)]
            rfl
        · rw [if_neg (fun w => y (g1.symm.trans w)), show pr τ k f = false by unfold pr; rw [decide_eq_false y]; simp, if_neg (by decide)]
          exact next
      · obtain ⟨g1, g2⟩ := (h.2.2.2.1 f h1).2 z
        rw [if_neg (fun w => t2 (w.symm.trans g1)), show pr τ k f = false by unfold pr; rw [decide_eq_false z]; rfl, if_neg (by decide)]
        exact next
theorem m1_q : ∀ s, s < 64 → nI s + (-1 : Int32) = if s = 0 then -1 else nI (s - 1) := m1_p
theorem m_lsl (τ : MS) (x : Int32) {k : Nat} (k1 : 1 ≤ k) (k3 : k ≤ 3) (N : Nat) : ∀ (f : Nat) (best : Int32), f < 64 → f + 1 < N → mm_kmalloc_l27 N x (nI (2 ^ k)) best (nI f) τ = mm_kmalloc_b85 x (nI (2 ^ k)) (dp (pr τ k) (f + 1) best) τ := by
  obtain ⟨t1, t2, t3, t4⟩ := ft_k k (by omega) k1
  induction N with
  | zero => intro f best _ h; exact absurd h (Nat.not_lt_zero _)
  | succ N ih =>
    intro f best hf hN
    show mm_kmalloc_b27 (mm_kmalloc_l27 N) x (nI (2 ^ k)) best (nI f) τ = mm_kmalloc_b85 x (nI (2 ^ k)) (dp (pr τ k) f (if pr τ k f then nI f else best)) τ
    unfold mm_kmalloc_b27
    rw [if_neg (nI_pos (by omega)), gi_n hf (by omega), nI_clamp (by omega), gi_c hf (by omega), gi_c hf (by omega), mi_gd_no t2, t1, m1_q f hf]
    have go : ∀ be, mm_kmalloc_l27 N x (nI (2 ^ k)) be (if f = 0 then -1 else nI (f - 1)) τ = mm_kmalloc_b85 x (nI (2 ^ k)) (dp (pr τ k) f be) τ := by
      intro be
      by_cases e : f = 0
      · subst e
        rw [if_pos rfl]
        obtain ⟨M, rfl⟩ : ∃ M, N = M + 1 := ⟨N - 1, by omega⟩
        show mm_kmalloc_b27 (mm_kmalloc_l27 M) x (nI (2 ^ k)) be (-1) τ = _
        unfold mm_kmalloc_b27
        rw [if_pos (show (-1 : Int32) < 0 by decide)]
        rfl
      · rw [if_neg e]
        obtain ⟨t, rfl⟩ : ∃ t, f = t + 1 := ⟨f - 1, by omega⟩
        exact ih t be (by omega) (by omega)
    unfold pr
    by_cases z : gm_o τ f = 2
    · rw [if_pos z, decide_eq_true z, Bool.true_and]
      by_cases y : gm_sz τ f = nI (2 ^ k)
      · rw [if_pos y, decide_eq_true y, Bool.true_and]
        by_cases w : gm_tk τ f = nI (2 ^ (16 / 2 ^ k) - 1)
        · rw [if_pos w, decide_eq_true w, if_neg (show ¬ ((!true) = true) by decide)]
          exact go best
        · rw [if_neg w, decide_eq_false w, if_pos (show (!false) = true by decide)]
          exact go (nI f)
      · rw [if_neg y, decide_eq_false y, Bool.false_and, if_neg (show ¬ (false = true) by decide)]
        exact go best
    · rw [if_neg z, decide_eq_false z, Bool.false_and, if_neg (show ¬ (false = true) by decide)]
      exact go best
/-- all but the slab f, whose objects are u -/
def REL0 (σ : CS) (τ : MS) (f k u : Nat) : Prop :=
  gc_o σ = gm_o τ ∧ FB (gc_o σ) (gc_fb σ) ∧ (∀ j, j < 1024 → ¬ gm_o τ (j / 16) = 0 → gc_w σ j = gm_w τ j) ∧
  (gm_o τ f = 2 ∧ gc_sz σ f = nI (2 ^ k) ∧ gm_sz τ f = nI (2 ^ k) ∧ gc_tk σ f = nI u ∧ gm_tk τ f = nI u ∧ ∀ g, g < 64 → ¬ g = f → (gm_o τ g = 2 → gc_sz σ g = gm_sz τ g ∧ gc_tk σ g = gm_tk τ g ∧ SL (gm_sz τ g) (gm_tk τ g)) ∧ (¬ gm_o τ g = 2 → gc_sz σ g = 0 ∧ gc_tk σ g = 0)) ∧
  (gc_en σ = gm_en τ ∧ gc_ln σ = gm_ln τ ∧ EN (gm_o τ) (gm_en τ) (gm_ln τ)) ∧ (gc_rl σ = gm_rl τ ∧ UN (gm_o τ) (gm_rl τ)) ∧
  (gc_ro σ = gm_ro τ ∧ gc_rg σ = gm_rg τ ∧ RP (gm_o τ) (gm_w τ) (gm_ro τ) (gc_eo σ)) ∧ gc_mv σ = gm_mv τ
theorem op_take {σ : CS} {τ : MS} {f k u : Nat} (h : REL0 σ τ f k u) (hf : f < 64) (k1 : 1 ≤ k) (k3 : k ≤ 3) (hu : u < 2 ^ (16 / 2 ^ k)) (hz : ¬ u = 2 ^ (16 / 2 ^ k) - 1) :
    ∃ a σ' τ', a < 1024 ∧ mc_Slabs_takeLowest σ (nI f) (nI (2 ^ k)) = some (nI a, σ') ∧ mm_kmalloc_l151 FU (nI (2 ^ k)) (nI f) 0 τ = some (nI a, τ') ∧ gm_th τ' = gm_th τ ∧ REL σ' τ' := by
  obtain ⟨ho, hF, hw, ⟨o2, s1, s2, t1, t2, hS⟩, hE, hU, ⟨r1, r2, r3⟩, hm⟩ := h
  obtain ⟨z1, z2, z3, z4, z5, z6, z7, z8⟩ := (lz_k k (by omega) k1 u hu).2 hz
  refine ⟨_, _, _, ?_, c_tl hf k1 k3 s1 t1 hu hz, m_tl hf k1 k3 t2 hu hz, rfl, ⟨ho, hF, ?_, ?_, hE, hU, ⟨r1, r2, RP_mono r3 (fun g hg z => ⟨z, fun i hi => ?_⟩) (fun g _ z => ⟨z, rfl⟩) (fun g _ z => z)⟩, hm⟩⟩
  · have hp : 0 < 2 ^ k := Nat.two_pow_pos k
    omega
  · intro j hj hne
    show fo (gc_w σ) _ _ j = fo (gm_w τ) _ _ j
    by_cases y : 16 * f + lz u * 2 ^ k ≤ j ∧ j < 16 * f + lz u * 2 ^ k + 2 ^ k
    · rw [fo_in y, fo_in y]
    · rw [fo_out y, fo_out y]; exact hw j hj hne
  · intro g hg
    show (gm_o τ g = 2 → gc_sz σ g = gm_sz τ g ∧ upd (gc_tk σ) f (nI (u ||| 2 ^ lz u)) g = upd (gm_tk τ) f (nI (u ||| 2 ^ lz u)) g ∧ SL (gm_sz τ g) (upd (gm_tk τ) f (nI (u ||| 2 ^ lz u)) g)) ∧ (¬ gm_o τ g = 2 → gc_sz σ g = 0 ∧ upd (gc_tk σ) f (nI (u ||| 2 ^ lz u)) g = 0)
    by_cases y : g = f
    · subst y
      rw [u_eq, u_eq]
      exact ⟨fun _ => ⟨s1.trans s2.symm, rfl, k, _, k1, k3, s2, rfl, z6, z5⟩, fun w => absurd o2 w⟩
    · rw [u_ne y, u_ne y]; exact hS g hg y
  · have gf : ¬ g = f := fun y => by rw [y, o2] at z; exact absurd z (by decide)
    show fo (gm_w τ) _ _ (16 * g + i) = _
    rw [fo_out (by omega)]
theorem sz_k {x : Int32} (h1 : ¬ x < 1) (h2 : x ≤ 8) (τ : MS) : ∃ k, 1 ≤ k ∧ k ≤ 3 ∧ mc_sizeFor x = some (nI (2 ^ k)) ∧ mm_kmalloc τ x = mm_kmalloc_l27 FU x (nI (2 ^ k)) (-1) (nI 63) τ := by
  unfold mc_sizeFor mm_kmalloc
  by_cases a : (2 : Int32) < x
  · by_cases b : (4 : Int32) < x
    · exact ⟨3, by omega, by omega, by rw [if_pos a, if_pos b]; rfl, by rw [if_pos a, if_pos b]; rfl⟩
    · exact ⟨2, by omega, by omega, by rw [if_pos a, if_neg b]; rfl, by rw [if_pos a, if_neg b]; rfl⟩
  · exact ⟨1, by omega, by omega, by rw [if_neg a]; rfl, by rw [if_neg a]; rfl⟩
theorem REL_new {σ : CS} {τ : MS} (h : REL σ τ) {f k : Nat} (hf : f < 64) (h0 : gm_o τ f = 0) :
    REL0 (sc_sz (gv σ f 2) (upd (gc_sz σ) f (nI (2 ^ k)))) (sm_tk (sm_sz (ow τ f 2) (upd (gm_sz τ) f (nI (2 ^ k)))) (upd (gm_tk τ) f 0)) f k 0 := by
  obtain ⟨ho, hF, hw, hS, ⟨e1, e2, e3⟩, ⟨u1, u2⟩, ⟨r1, r2, r3⟩, hm⟩ := h
  have keep : ∀ g, ∀ c : Int32, ¬ c = 0 → gm_o τ g = c → upd (gm_o τ) f 2 g = c := fun g c hc hg => by
    by_cases z : g = f
    · rw [z, h0] at hg; exact absurd hg.symm hc
    · rw [u_ne z]; exact hg
  refine ⟨by show upd (gc_o σ) f 2 = upd (gm_o τ) f 2; rw [ho], FB_give hF hf (by decide), ?_, ⟨u_eq, u_eq, u_eq, ?_, u_eq, ?_⟩, ⟨e1, e2, EN_mono e3 (fun g _ hg => keep g 3 (by decide) hg)⟩, ⟨u1, UN_mono u2 (fun g _ hg => keep g 5 (by decide) hg)⟩, ⟨r1, r2, ?_⟩, hm⟩
  · intro j hj hne
    show zw (gc_w σ) f j = zw (gm_w τ) f j
    have hne : ¬ upd (gm_o τ) f 2 (j / 16) = 0 := hne
    rw [zw_at, zw_at]
    by_cases z : j / 16 = f
    · rw [if_pos z, if_pos z]
    · rw [if_neg z, if_neg z]
      rw [u_ne z] at hne
      exact hw j hj hne
  · show gc_tk σ f = nI 0
    exact ((hS f hf).2 (by rw [h0]; decide)).2
  · intro g hg y
    show (upd (gm_o τ) f 2 g = 2 → upd (gc_sz σ) f (nI (2 ^ k)) g = upd (gm_sz τ) f (nI (2 ^ k)) g ∧ gc_tk σ g = upd (gm_tk τ) f 0 g ∧ SL (upd (gm_sz τ) f (nI (2 ^ k)) g) (upd (gm_tk τ) f 0 g)) ∧ (¬ upd (gm_o τ) f 2 g = 2 → upd (gc_sz σ) f (nI (2 ^ k)) g = 0 ∧ gc_tk σ g = 0)
    rw [u_ne y, u_ne y, u_ne y, u_ne y]
    exact hS g hg
  · refine RP_mono r3 (fun g hg z => ⟨keep g 1 (by decide) z, fun i hi => ?_⟩) (fun g hg z => ⟨keep g 4 (by decide) z, rfl⟩) (fun g _ z => u_4 (v := 2) (by decide) z)
    exact zw_ne (fun y => by rw [y, h0] at z; exact absurd z (by decide)) hi
theorem op_kmalloc {σ : CS} {τ : MS} (h : REL σ τ) (x : Int32) : OK3 (mc_kmalloc σ x) (mm_kmalloc τ x) 2 := by
  have hszk : ∃ k, 1 ≤ k ∧ k ≤ 3 ∧ mc_sizeFor x = some (nI (2 ^ k)) ∧ mm_kmalloc τ x = mm_kmalloc_l27 FU x (nI (2 ^ k)) (-1) (nI 63) τ := by
    unfold mc_sizeFor mm_kmalloc
    by_cases a : (2 : Int32) < x
    · by_cases b : (4 : Int32) < x
      · exact ⟨3, by omega, by omega, by rw [if_pos a, if_pos b]; rfl, by rw [if_pos a, if_pos b]; rfl⟩
      · exact ⟨2, by omega, by omega, by rw [if_pos a, if_neg b]; rfl, by rw [if_pos a, if_neg b]; rfl⟩
    · exact ⟨1, by omega, by omega, by rw [if_neg a]; rfl, by rw [if_neg a]; rfl⟩
  obtain ⟨k, k1, k3, hsf, hmk⟩ := hszk
  obtain ⟨t1, t2, t3, t4⟩ := ft_k k (by omega) k1
  rw [m_lsl τ x k1 k3 FU 63 (-1) (by omega) (by decide), dp_f] at hmk
  have out : mc_kmalloc σ x = some (0, 1, σ) → mm_in x 1 8 = some 0 → OK3 (mc_kmalloc σ x) (mm_kmalloc τ x) 2 := by
    intro h1 h2
    refine Or.inr (Or.inl ⟨0, σ, sm_th τ 1, h1, ?_, rfl, h⟩)
    rw [hmk]
    unfold mm_kmalloc_b85
    rw [h2, cp_r, if_pos rfl]
    rfl
  by_cases h1 : x < 1
  · exact out (by unfold mc_kmalloc; rw [if_pos h1]; rfl) (m_inL h1)
  · by_cases h2 : x ≤ 8
    · obtain ⟨n, n1, n8, rfl⟩ := i_18 h1 h2
      have hmi : mm_in (nI n) (1 : Int32) (8 : Int32) = some 1 := by
        unfold mm_in
        rw [if_neg h1, if_neg (show ¬ (8 : Int32) < nI n from fun z => absurd ((nI_ltI (a := 8) (b := n) (by omega) (by omega)).mp z) (by omega))]
      have hls : mc_Slabs_lowestSlabWithRoom σ (nI (2 ^ k)) = some (o2 (fp (pr τ k) 0 64)) := c_lsl h k1 k3 FU 0 (by omega) (by decide)
      have hcm : mc_kmalloc σ (nI n) = mi_cw (mc_Slabs_add σ (nI (2 ^ k))) fun r3 σ2 => mi_tq (mc_orNotEnough r3) σ2 fun r4 => some (r4, 0, σ2) := by
        unfold mc_kmalloc
        rw [if_neg h1, if_pos h2, hsf, cp_r]
      rw [hcm, hmk]
      unfold mc_Slabs_add mm_kmalloc_b85
      rw [hls, cp_r, hmi, cp_r, if_neg (show ¬ (1 : Int32) = 0 by decide)]
      have fin : ∀ {f u : Nat} {σ1 : CS} {τ1 : MS}, REL0 σ1 τ1 f k u → f < 64 → u < 2 ^ (16 / 2 ^ k) → ¬ u = 2 ^ (16 / 2 ^ k) - 1 → gm_th τ1 = 0 →
          OK3 (mi_cw (mc_Slabs_add_b17 (nI (2 ^ k)) (nI f) σ1) fun r3 σ2 => mi_tq (mc_orNotEnough r3) σ2 fun r4 => some (r4, 0, σ2)) (mm_kmalloc_l151 FU (nI (2 ^ k)) (nI f) 0 τ1) 2 := by
        intro f u σ1 τ1 hR hf hu hz hth
        obtain ⟨a, σ', τ', a1, a2, a3, a4, a5⟩ := op_take hR hf k1 k3 hu hz
        refine Or.inl ⟨nI a, σ', τ', ?_, a3, a4.trans hth, a5⟩
        unfold mc_Slabs_add_b17
        rw [if_neg (n_ne (by omega)), a2, cw_r, cw_r]
        unfold mc_orNotEnough
        rw [if_neg (n_ne (by omega))]
        rfl
      cases e : fp (pr τ k) 0 64 with
      | some f =>
        obtain ⟨-, f2, f3, -⟩ := fp_lt _ _ 0 f e
        have f64 : f < 64 := by omega
        unfold pr at f3
        rw [Bool.and_eq_true, Bool.and_eq_true] at f3
        have z := of_decide_eq_true f3.1
        have y := of_decide_eq_true f3.2.1
        obtain ⟨ho, hF, hw, hS, hE, hU, hr, hm⟩ := h
        obtain ⟨g1, g2, k', u, k1', k3', hs, ht, u0, hu⟩ := (hS f f64).1 z
        have e9 : 2 ^ k = 2 ^ k' := (nI_eq (by omega) (by have := (ft_k k' (by omega) k1').2.2.1; omega)).mp (y.symm.trans hs)
        rw [← e9] at hu
        have hnf : ¬ u = 2 ^ (16 / 2 ^ k) - 1 := fun w => by
          have q := f3.2.2
          rw [ht, w, decide_eq_true rfl] at q
          cases q
        rw [show o2 (some f) = nI f from rfl, if_neg (n_ne (by omega))]
        show OK3 _ (if (0 : Int32) ≤ nI f then mm_kmalloc_b115 (nI (2 ^ k)) (nI f) τ else _) 2
        rw [if_pos (nI_pos' (by omega))]
        unfold mm_kmalloc_b115 mm_kmalloc_b116
        rw [tb_0, cw_r, if_pos rfl, if_pos (nI_pos' (by omega))]
        exact fin (σ1 := σ) (τ1 := sm_th τ 0) ⟨ho, hF, hw, ⟨z, g1.trans y, y, g2.trans ht, ht, fun g hg _ => hS g hg⟩, hE, hU, hr, hm⟩ f64 hu hnf rfl
      | none =>
        rw [show o2 none = (-1 : Int32) from rfl, if_pos rfl]
        show OK3 _ (if (0 : Int32) ≤ -1 then _ else _) 2
        rw [if_neg (show ¬ (0 : Int32) ≤ -1 by decide), m_cf, cp_r]
        have hle := cz_le (gm_o τ) 64
        unfold mc_Slabs_newSlab
        by_cases z : cz (gm_o τ) 64 = 0
        · rw [g_none h.2.1 (by rw [h.1]; exact z) 2, z, if_pos (show nI 0 = (0 : Int32) from rfl)]
          exact Or.inr (Or.inr ⟨0, σ, sm_th τ 2, rfl, rfl, rfl, h⟩)
        · rw [if_neg (show ¬ nI (cz (gm_o τ) 64) = (0 : Int32) from fun y => z ((nI_eq (b := 0) (by omega) (by omega)).mp y))]
          obtain ⟨f, f1, f2, f3, f4⟩ := g_give (σ := σ) (τ := sm_th τ 0) h.1 h.2.1 (Nat.pos_of_ne_zero z) 2
          rw [f3, cw_r, if_neg (n_ne (by omega)), gi_n f1 (by omega), nI_clamp (by omega), wr_r, cw_r]
          unfold mm_kmalloc_b115 mm_kmalloc_b116
          rw [tb_0, cw_r, if_pos rfl, if_neg (show ¬ (0 : Int32) ≤ -1 by decide), f4, cw_r, gi_n f1 (by omega), nI_clamp (by omega), wr_r, gi_c f1 (by omega), wr_r]
          have hp : 1 < 2 ^ (16 / 2 ^ k) := Nat.one_lt_two_pow (by have := Nat.div_pos (show 2 ^ k ≤ 16 by omega) (Nat.two_pow_pos k); omega)
          exact fin (REL_new (τ := sm_th τ 0) h f1 f2) f1 (by omega) (by omega) rfl
    · exact out (by unfold mc_kmalloc; rw [if_neg h1, if_neg h2]; rfl) (m_inG (i_8 h2))
