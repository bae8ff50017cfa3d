/-! ===== removePage against drop ===== -/
theorem RELs_fr {σ : CS} {τ : MS} (h : RELs σ τ) {f : Nat} (hf : f < 64) (h2 : ¬ gm_o τ f = 2) (h3 : ¬ gm_o τ f = 3) (h5 : ¬ gm_o τ f = 5) : RELs (fr σ f) (sm_o τ (upd (gm_o τ) f 0)) := by
  obtain ⟨ho, hF, hw, hS, ⟨e1, e2, e3⟩, ⟨u1, u2⟩, r1, hm⟩ := h
  have keep : ∀ g, ∀ c : Int32, ¬ gm_o τ f = c → gm_o τ g = c → upd (gm_o τ) f 0 g = c := fun g c hc hg => by
    by_cases z : g = f
    · rw [z] at hg; exact absurd hg hc
    · rw [u_ne z]; exact hg
  refine ⟨by show upd (gc_o σ) f 0 = upd (gm_o τ) f 0; rw [ho], FB_free hF hf, ?_, ?_, ⟨e1, e2, EN_mono e3 (fun g _ hg => keep g 3 h3 hg)⟩, ⟨u1, UN_mono u2 (fun g _ hg => keep g 5 h5 hg)⟩, r1, hm⟩
  · intro j hj hne
    have hne : ¬ upd (gm_o τ) f 0 (j / 16) = 0 := hne
    refine hw j hj (fun z => hne ?_)
    by_cases v : j / 16 = f
    · rw [v, u_eq]
    · rw [u_ne v]; exact z
  · refine RS_o hS rfl rfl rfl rfl (o' := upd (gm_o τ) f 0) rfl (fun g _ => ⟨fun w => ?_, fun w => keep g 2 h2 w⟩)
    by_cases v : g = f
    · rw [v, u_eq] at w; exact absurd w (by decide)
    · rw [u_ne v] at w; exact w
/-- frame f is free, the word a is 0 -/
def dpC (σ : CS) (a f : Nat) : CS := sc_w (fr σ f) (upd (gc_w (fr σ f)) a 0)
def dpM (τ : MS) (a f : Nat) : MS := sm_w (sm_o τ (upd (gm_o τ) f 0)) (upd (gm_w τ) a 0)
theorem dpC_ro (σ : CS) (a f : Nat) : gc_ro (dpC σ a f) = gc_ro σ := rfl
theorem dpC_eo (σ : CS) (a f : Nat) : gc_eo (dpC σ a f) = gc_eo σ := rfl
theorem dpC_w (σ : CS) (a f : Nat) : gc_w (dpC σ a f) = upd (gc_w σ) a 0 := rfl
theorem dpM_o (τ : MS) (a f : Nat) : gm_o (dpM τ a f) = upd (gm_o τ) f 0 := rfl
theorem dpM_w (τ : MS) (a f : Nat) : gm_w (dpM τ a f) = upd (gm_w τ) a 0 := rfl
theorem dpM_ro (τ : MS) (a f : Nat) : gm_ro (dpM τ a f) = gm_ro τ := rfl
theorem dpM_th (τ : MS) (a f : Nat) : gm_th (dpM τ a f) = gm_th τ := rfl
theorem dpM_rg (τ : MS) (a f : Nat) (g : Nat → Int32) : dpM (sm_rg τ g) a f = sm_rg (dpM τ a f) g := rfl
theorem c_re {σ : CS} {s p r : Nat} (hs : s < 4) (hp : p < 256) (hr : r < 64) (h : gc_ro σ s = nI (r + 1)) : mc_Spaces_rootEntry σ (nI s) (nI p) = some (nI (16 * r + p / 16)) := by
  unfold mc_Spaces_rootEntry
  rw [gi_n hs (by omega), nI_clamp (by omega), h, n_s1, (d16 p (by omega)).1, e16]
theorem c_th {σ : CS} {s r : Nat} (hs : s < 4) (hr : r < 64) (h : gc_ro σ s = nI (r + 1)) : mc_Spaces_isThere σ (nI s) = some 1 := by
  unfold mc_Spaces_isThere
  rw [if_neg (nI_pos (by omega)), if_neg (show ¬ (4 : Int32) ≤ nI s from fun z => absurd ((nI_leI (a := 4) (by omega) (by omega)).mp z) (by omega)), gi_n hs (by omega), nI_clamp (by omega), h, if_neg (show ¬ nI (r + 1) = (0 : Int32) from fun y => absurd ((nI_eq (b := 0) (by omega) (by omega)).mp y) (by omega))]
theorem c_to {σ : CS} {s p r : Nat} (hs : s < 4) (hp : p < 256) (hr : r < 64) (h : gc_ro σ s = nI (r + 1)) : mc_Spaces_tableOf σ (nI s) (nI p) = some (gc_w σ (16 * r + p / 16) - 1) := by
  unfold mc_Spaces_tableOf
  rw [c_th hs hr h, cp_r, if_neg (by decide), isP hp, cp_r, if_neg (by decide), c_re hs hp hr h, cp_r, c_rd σ (show 16 * r + p / 16 < 1024 by omega), cp_r]
theorem c_fw {σ : CS} {s p r t : Nat} (hs : s < 4) (hp : p < 256) (hr : r < 64) (ht : t < 64) (h : gc_ro σ s = nI (r + 1)) (hw : gc_w σ (16 * r + p / 16) = nI (t + 1)) : mc_Spaces_frameOf σ (nI s) (nI p) = some (gc_w σ (16 * t + p % 16) - 1) := by
  unfold mc_Spaces_frameOf
  rw [c_to hs hp hr h, cp_r, hw, n_s1, if_neg (n_ne (by omega)), (d16 p (by omega)).2, e16, c_rd σ (show 16 * t + p % 16 < 1024 by omega), cp_r]
theorem c_dd {ρ : CS} {s p r t : Nat} (hs : s < 4) (hp : p < 256) (hr : r < 64) (ht : t < 64) (h : gc_ro ρ s = nI (r + 1)) :
    (mi_cv (mc_Frames_makeFree ρ (nI t)) fun σ6 => mi_cp (mc_Spaces_rootEntry σ6 (nI s) (nI p)) fun r7 => mi_cv (mc_Frames_write σ6 r7 (0 : Int32)) fun σ8 => some σ8) = some (dpC ρ (16 * r + p / 16) t) := by
  rw [c_mf ρ ht, cv_r, c_re (σ := fr ρ t) hs hp hr h, cp_r, c_wr _ (show 16 * r + p / 16 < 1024 by omega), cv_r]
  rfl
theorem c_drop {σ : CS} {s p r t f : Nat} (hs : s < 4) (hp : p < 256) (hr : r < 64) (ht : t < 64) (hf : f < 64) (h1 : gc_ro σ s = nI (r + 1)) (h2 : gc_w σ (16 * r + p / 16) = nI (t + 1)) (h3 : gc_w σ (16 * t + p % 16) = nI (f + 1)) :
    mc_Spaces_removePage σ (nI s) (nI p) = some (if et (gc_w (dpC σ (16 * t + p % 16) f)) t then dpC (dpC σ (16 * t + p % 16) f) (16 * r + p / 16) t else dpC σ (16 * t + p % 16) f) := by
  unfold mc_Spaces_removePage
  rw [c_to hs hp hr h1, cp_r, c_fw hs hp hr ht h1 h2, cp_r, h2, h3, n_s1, n_s1, c_mf σ hf, cv_r, (d16 p (by omega)).2, e16, c_wr _ (show 16 * t + p % 16 < 1024 by omega), cv_r]
  show (mi_cp (mc_Spaces_isEmptyTable (dpC σ (16 * t + p % 16) f) (nI t)) fun r5 => if r5 = 0 then some (dpC σ (16 * t + p % 16) f) else mi_cv (mc_Frames_makeFree (dpC σ (16 * t + p % 16) f) (nI t)) fun σ6 => mi_cp (mc_Spaces_rootEntry σ6 (nI s) (nI p)) fun r7 => mi_cv (mc_Frames_write σ6 r7 (0 : Int32)) fun σ8 => some σ8) = _
  have hρ : gc_ro (dpC σ (16 * t + p % 16) f) s = nI (r + 1) := h1
  generalize dpC σ (16 * t + p % 16) f = ρ at hρ ⊢
  rw [c_et ρ ht, cp_r, c_dd hs hp hr ht hρ]
  cases e : et (gc_w ρ) t with
  | false => rfl
  | true => rfl
theorem m_dd {π : MS} {s p r t : Nat} (hs : s < 4) (hp : p < 256) (hr : r < 64) (ht : t < 64) (h : gm_ro π s = nI (r + 1)) (b : Bool) :
    mm_drop_b94 (nI s) (nI p) (nI t) (bi b) π = some (if b then (2, dpM π (16 * r + p / 16) t) else (1, π)) := by
  unfold mm_drop_b94
  cases b with
  | false => rfl
  | true =>
    rw [if_neg (show ¬ bi true = 0 by decide), gi_n ht (by omega), nI_clamp (n := t) (by omega), wr_r]
    rw [re_w (τ := sm_o π (upd (gm_o π) t 0)) hs hp hr h, cp_r, gi_n (show 16 * r + p / 16 < 1024 by omega) (by omega), nI_clamp (by omega), wr_r]
    rfl
theorem m_drop {τ : MS} {s p r t f : Nat} (hs : s < 4) (hp : p < 256) (hr : r < 64) (ht : t < 64) (hf : f < 64) (h2 : gm_ro τ s = nI (r + 1)) (h3 : gm_w τ (16 * r + p / 16) = nI (t + 1)) (h4 : gm_w τ (16 * t + p % 16) = nI (f + 1)) :
    mm_drop τ (nI s) (nI p) = some (if et (gm_w (dpM τ (16 * t + p % 16) f)) t then (2, dpM (dpM τ (16 * t + p % 16) f) (16 * r + p / 16) t) else (1, dpM τ (16 * t + p % 16) f)) := by
  unfold mm_drop
  rw [fo_w hs hp hr ht h2 h3 h4, cp_r, if_pos (nI_pos' (by omega)), re_w hs hp hr h2, cp_r, gi_n (show 16 * r + p / 16 < 1024 by omega) (by omega), nI_clamp (n := 16 * r + p / 16) (by omega), h3, n_s1, gi_n hf (by omega), nI_clamp (n := f) (by omega), wr_r]
  rw [en_w (τ := sm_o τ (upd (gm_o τ) f 0)) hs hp hr h2 h3, cp_r, gi_n (show 16 * t + p % 16 < 1024 by omega) (by omega), nI_clamp (by omega), wr_r]
  show mm_drop_l53 FU (nI s) (nI p) (nI t) (1 : Int32) (0 : Int32) (dpM τ (16 * t + p % 16) f) = _
  have hρ : gm_ro (dpM τ (16 * t + p % 16) f) s = nI (r + 1) := h2
  generalize dpM τ (16 * t + p % 16) f = π at hρ ⊢
  have w := m_etl π (nI s) (nI p) ht FU 0 true (by omega) (by decide) ⟨fun _ i hi => absurd hi (Nat.not_lt_zero _), fun _ => rfl⟩
  have w : mm_drop_l53 FU (nI s) (nI p) (nI t) (1 : Int32) (0 : Int32) π = _ := w
  rw [w, m_dd hs hp hr ht hρ]
theorem RELs_dp {σ : CS} {τ : MS} (h : RELs σ τ) {f : Nat} (hf : f < 64) (h2 : ¬ gm_o τ f = 2) (h3 : ¬ gm_o τ f = 3) (h5 : ¬ gm_o τ f = 5) (a : Nat) : RELs (dpC σ a f) (dpM τ a f) :=
  RELs_w (RELs_fr h hf h2 h3 h5) a 0 (gc_eo σ)
theorem REL_d2 {ρ : CS} {π : MS} {s r i t : Nat} (hS : RELs ρ π) (hX : RPx t (gm_o π) (gm_w π) (gm_ro π) (gc_eo ρ)) (hs : s < 4) (hr : r < 64) (hro : gm_ro π s = nI (r + 1)) (hi : i < 16) (ht : t < 64) (hw : gm_w π (16 * r + i) = nI (t + 1)) (ho : gm_o π t = 1) (hz : ∀ j, j < 16 → gm_w π (16 * t + j) = 0) : REL (dpC ρ (16 * r + i) t) (dpM π (16 * r + i) t) :=
  REL_mk (RELs_dp hS ht (by rw [ho]; decide) (by rw [ho]; decide) (by rw [ho]; decide) _) (RP_dt hX hs hr hro hi ht hw ho hz)
theorem rt_ne {o w ro eo : Nat → Int32} {s r i t : Nat} (h : RP o w ro eo) (hs : s < 4) (hr : r < 64) (hi : i < 16) (ht : t < 64) (h2 : ro s = nI (r + 1)) (h3 : w (16 * r + i) = nI (t + 1)) : ∀ s' r', s' < 4 → r' < 64 → ro s' = nI (r' + 1) → ¬ r' = t := by
  intro s' r' hs' hr' hro' y
  obtain ⟨⟨K, k⟩, -⟩ := h
  have Kr : K r' = s' := by
    rcases k s' hs' with z | ⟨q, a, b, c, d, -⟩
    · rw [hro'] at z; exact absurd ((nI_eq (b := 0) (by omega) (by omega)).mp z) (by omega)
    · have : q = r' := by have := (nI_eq (by omega) (by omega)).mp (hro'.symm.trans b); omega
      rw [← this]; exact d
  rcases k s hs with z | ⟨q, a, b, c, d, e⟩
  · rw [h2] at z; exact absurd ((nI_eq (b := 0) (by omega) (by omega)).mp z) (by omega)
  · have eq : q = r := by have := (nI_eq (by omega) (by omega)).mp (h2.symm.trans b); omega
    subst eq
    rcases e i hi with z | ⟨t', a2, b2, c2, d2, -⟩
    · rw [h3] at z; exact absurd ((nI_eq (b := 0) (by omega) (by omega)).mp z) (by omega)
    · have et : t' = t := by have := (nI_eq (by omega) (by omega)).mp (h3.symm.trans b2); omega
      rw [et, ← y, Kr] at d2
      omega
theorem et_z0 {w : Nat → Int32} {t : Nat} (h : et w t = true) : ∀ i, i < 16 → w (16 * t + i) = 0 := of_decide_eq_true h
theorem et_eq {v w : Nat → Int32} {t : Nat} (h : ∀ i, i < 16 → v (16 * t + i) = w (16 * t + i)) : et v t = et w t := by
  unfold et
  by_cases z : ∀ i, i < 16 → w (16 * t + i) = 0
  · rw [af_t z, af_t (fun i hi => (h i hi).trans (z i hi))]
  · rw [af_f z, af_f (fun y => z (fun i hi => (h i hi).symm.trans (y i hi)))]
theorem et_ex {w : Nat → Int32} {t : Nat} (h : et w t = false) : ∃ i, i < 16 ∧ ¬ w (16 * t + i) = 0 := by
  by_cases z : ∃ i, i < 16 ∧ ¬ w (16 * t + i) = 0
  · exact z
  · exfalso
    have : et w t = true := af_t (fun i hi => Decidable.byContradiction (fun v => z ⟨i, hi, v⟩))
    rw [this] at h
    cases h
/-- the page of a space goes on both sides; the answer is 1, or 2 where the table went too -/
theorem drop_sim {σ : CS} {τ : MS} {g : Nat → Int32} (h : REL σ (sm_rg τ g)) {s p r t f : Nat} (hs : s < 4) (hp : p < 256) (hr : r < 64) (ht : t < 64) (hf : f < 64) (h2 : gm_ro τ s = nI (r + 1)) (h3 : gm_w τ (16 * r + p / 16) = nI (t + 1)) (o1 : gm_o τ r = 1) (ot : gm_o τ t = 1) (h4 : gm_w τ (16 * t + p % 16) = nI (f + 1)) (of : gm_o τ f = 4) (ef : gc_eo σ f = nI (16 * t + p % 16)) :
    ∃ σ' τ' n, mc_Spaces_removePage σ (nI s) (nI p) = some σ' ∧ mm_drop τ (nI s) (nI p) = some (n, τ') ∧ ¬ n ≤ 0 ∧ REL σ' (sm_rg τ' g) ∧ gm_ro τ' = gm_ro τ ∧ gm_th τ' = gm_th τ ∧ gm_rg τ' = gm_rg τ := by
  have hw : ∀ j, j < 1024 → ¬ gm_o τ (j / 16) = 0 → gc_w σ j = gm_w τ j := h.2.2.1
  have hro : gc_ro σ = gm_ro τ := h.2.2.2.2.2.2.1.1
  have hRP : RP (gm_o τ) (gm_w τ) (gm_ro τ) (gc_eo σ) := h.2.2.2.2.2.2.1.2.2
  have hc := c_drop (σ := σ) hs hp hr ht hf (by rw [hro]; exact h2) (by rw [hw _ (by omega) (by rw [show (16 * r + p / 16) / 16 = r by omega, o1]; decide)]; exact h3) (by rw [hw _ (by omega) (by rw [show (16 * t + p % 16) / 16 = t by omega, ot]; decide)]; exact h4)
  have hm := m_drop hs hp hr ht hf h2 h3 h4
  have hroot := rt_ne hRP hs hr (show p / 16 < 16 by omega) ht h2 h3
  have hX : RPx t (gm_o (dpM (sm_rg τ g) (16 * t + p % 16) f)) (gm_w (dpM (sm_rg τ g) (16 * t + p % 16) f)) (gm_ro (dpM (sm_rg τ g) (16 * t + p % 16) f)) (gc_eo (dpC σ (16 * t + p % 16) f)) := RP_dp hRP ht ot (show p % 16 < 16 by omega) h4 hf of ef hroot
  have hS := RELs_dp (RELs_of h) hf (by show ¬ gm_o τ f = 2; rw [of]; decide) (by show ¬ gm_o τ f = 3; rw [of]; decide) (by show ¬ gm_o τ f = 5; rw [of]; decide) (16 * t + p % 16)
  have tf : ¬ t = f := fun y => by rw [y, of] at ot; exact absurd ot (by decide)
  have rt := hroot s r hs hr h2
  have heq : et (gc_w (dpC σ (16 * t + p % 16) f)) t = et (gm_w (dpM τ (16 * t + p % 16) f)) t := by
    rw [dpC_w, dpM_w]
    refine et_eq (fun i hi => ?_)
    by_cases y : i = p % 16
    · rw [y, u_eq, u_eq]
    · rw [u_ne (by omega), u_ne (by omega)]
      exact hw _ (by omega) (by rw [show (16 * t + i) / 16 = t by omega, ot]; decide)
  rw [heq] at hc
  cases e : et (gm_w (dpM τ (16 * t + p % 16) f)) t with
  | false =>
    rw [e, if_neg (by decide)] at hc hm
    refine ⟨_, _, 1, hc, hm, by decide, ?_, rfl, rfl, rfl⟩
    rw [← dpM_rg]
    exact REL_mk hS (RP_ne hX (et_ex (w := gm_w (dpM τ (16 * t + p % 16) f)) e))
  | true =>
    rw [e, if_pos rfl] at hc hm
    have o2 : gm_o (dpM (sm_rg τ g) (16 * t + p % 16) f) t = 1 := by
      rw [dpM_o]
      show upd (gm_o τ) f 0 t = 1
      rw [u_ne tf]; exact ot
    have w2 : gm_w (dpM (sm_rg τ g) (16 * t + p % 16) f) (16 * r + p / 16) = nI (t + 1) := by
      rw [dpM_w]
      show upd (gm_w τ) (16 * t + p % 16) 0 (16 * r + p / 16) = nI (t + 1)
      rw [u_ne (by omega)]; exact h3
    have hZ := REL_d2 hS hX hs hr h2 (show p / 16 < 16 by omega) ht w2 o2 (et_z0 (w := gm_w (dpM τ (16 * t + p % 16) f)) e)
    refine ⟨_, _, 2, hc, hm, by decide, ?_, rfl, rfl, rfl⟩
    rw [← dpM_rg, ← dpM_rg]
    exact hZ
