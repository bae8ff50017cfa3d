/-! ===== destroy ===== -/
/-- the class's store with the reference's words and regions -/
def star (σ : CS) (τ : MS) : CS := sc_rg (sc_w σ (gm_w τ)) (gm_rg τ)
theorem st_rg {σ : CS} {τ : MS} (h : REL (star σ τ) τ) (g : Nat → Int32) : REL (star σ (sm_rg τ g)) (sm_rg τ g) := by
  obtain ⟨g1, g2, g3, g4, g5, g6, ⟨r1, r2, r3⟩, g8⟩ := h
  exact ⟨g1, g2, g3, g4, g5, g6, ⟨r1, rfl, r3⟩, g8⟩
theorem st_dp (σ : CS) (τ : MS) (a f : Nat) : dpC (star σ τ) a f = star (fr σ f) (dpM τ a f) := rfl
theorem drop_rel {σ : CS} {τ : MS} (h : REL σ τ) {s r i t j f : Nat} (hs : s < 4) (hi : i < 16) (hj : j < 16) (hr : r < 64) (ht : t < 64) (hf : f < 64) (h2 : gm_ro τ s = nI (r + 1)) (h3 : gm_w τ (16 * r + i) = nI (t + 1)) (o1 : gm_o τ r = 1) (ot : gm_o τ t = 1) (h4 : gm_w τ (16 * t + j) = nI (f + 1)) (of : gm_o τ f = 4) (ef : gc_eo σ f = nI (16 * t + j)) :
    (et (gm_w (dpM τ (16 * t + j) f)) t = false → REL (dpC σ (16 * t + j) f) (dpM τ (16 * t + j) f)) ∧
    (et (gm_w (dpM τ (16 * t + j) f)) t = true → REL (dpC (dpC σ (16 * t + j) f) (16 * r + i) t) (dpM (dpM τ (16 * t + j) f) (16 * r + i) t)) := by
  have hRP : RP (gm_o τ) (gm_w τ) (gm_ro τ) (gc_eo σ) := h.2.2.2.2.2.2.1.2.2
  have hroot := rt_ne hRP hs hr hi ht h2 h3
  have hX : RPx t (gm_o (dpM τ (16 * t + j) f)) (gm_w (dpM τ (16 * t + j) f)) (gm_ro (dpM τ (16 * t + j) f)) (gc_eo (dpC σ (16 * t + j) f)) := RP_dp hRP ht ot hj h4 hf of ef hroot
  have hS := RELs_dp (RELs_of h) hf (by rw [of]; decide) (by rw [of]; decide) (by rw [of]; decide) (16 * t + j)
  have tf : ¬ t = f := fun y => by rw [y, of] at ot; exact absurd ot (by decide)
  have rt := hroot s r hs hr h2
  refine ⟨fun e => REL_mk hS (RP_ne hX (et_ex e)), fun e => ?_⟩
  have o2 : gm_o (dpM τ (16 * t + j) f) t = 1 := by rw [dpM_o, u_ne tf]; exact ot
  have w2 : gm_w (dpM τ (16 * t + j) f) (16 * r + i) = nI (t + 1) := by rw [dpM_w, u_ne (by omega)]; exact h3
  exact REL_d2 hS hX hs hr h2 hi ht w2 o2 (et_z0 e)
theorem et_z {w : Nat → Int32} {t : Nat} (h : et w t = true) : ∀ i, i < 16 → w (16 * t + i) = 0 := of_decide_eq_true h
theorem m_f0 {τ : MS} {s p r : Nat} (hs : s < 4) (hp : p < 256) (hr : r < 64) (h2 : gm_ro τ s = nI (r + 1)) (h3 : gm_w τ (16 * r + p / 16) = 0) : mm_frameOf τ (nI s) (nI p) = some (-1) := by
  unfold mm_frameOf mm_hasTable
  rw [re_w hs hp hr h2, cp_r, gi_n (show 16 * r + p / 16 < 1024 by omega) (by omega), nI_clamp (by omega), h3, if_pos (by decide), cp_r, if_pos rfl]
theorem m_f1 {τ : MS} {s p r t : Nat} (hs : s < 4) (hp : p < 256) (hr : r < 64) (ht : t < 64) (h2 : gm_ro τ s = nI (r + 1)) (h3 : gm_w τ (16 * r + p / 16) = nI (t + 1)) (h4 : gm_w τ (16 * t + p % 16) = 0) : mm_frameOf τ (nI s) (nI p) = some (-1) := by
  unfold mm_frameOf mm_hasTable
  rw [re_w hs hp hr h2, cp_r, gi_n (show 16 * r + p / 16 < 1024 by omega) (by omega), nI_clamp (by omega), h3, if_neg (nI_nle (by omega) (by omega)), cp_r, if_neg (by decide), en_w hs hp hr h2 h3, cp_r, gi_n (show 16 * t + p % 16 < 1024 by omega) (by omega), nI_clamp (by omega), h4]
  rfl
theorem nI_z (a : Nat) : nI a + (0 : Int32) = nI a := nI_add a 0
theorem nI_2 (a : Nat) : nI a + (2 : Int32) = nI (a + 2) := nI_add a 2
abbrev v0 : Int32 := vp_nar .boolean 0
theorem m_stp {τ τ' : MS} {s p c n : Nat} (hs : s < 4) (hp : p < 256) (hd : mm_drop τ (nI s) (nI p) = some (nI n, τ')) (N : Nat) :
    mm_destroy_l26 (N + 1) (nI s) (nI c) (nI p) τ = mm_destroy_l26 N (nI s) (nI (c + n)) (nI (p + 1)) (sm_rg τ' (upd (gm_rg τ') (256 * s + p) v0)) := by
  show mm_destroy_b26 (mm_destroy_l26 N) (nI s) (nI c) (nI p) τ = _
  unfold mm_destroy_b26
  rw [if_neg (show ¬ (256 : Int32) ≤ nI p from fun z => absurd ((nI_leI (a := 256) (by omega) (by omega)).mp z) (by omega)), hd, cw_r, rgy, gi_n (show 256 * s + p < 1024 by omega) (by omega), nI_clamp (by omega), wr_r, nI_add, nI_1]
/-- pages without a frame: only their regions go -/
theorem m_skip {s r i : Nat} {g : Nat → Int32} (hs : s < 4) (hr : r < 64) (hi : i < 16) (N : Nat) : ∀ (d j c : Nat) (τ : MS), j + d = 16 → gm_ro τ s = nI (r + 1) → gm_w τ (16 * r + i) = 0 → gm_rg τ = us g (256 * s) v0 (16 * i + j) →
    mm_destroy_l26 (N + d) (nI s) (nI c) (nI (16 * i + j)) τ = mm_destroy_l26 N (nI s) (nI c) (nI (16 * i + 16)) (sm_rg τ (us g (256 * s) v0 (16 * i + 16))) := by
  intro d
  induction d with
  | zero =>
    intro j c τ hj h2 h3 hg
    have : j = 16 := by omega
    subst this
    rw [← hg]
    rfl
  | succ d ih =>
    intro j c τ hj h2 h3 hg
    have hf := m_f0 (p := 16 * i + j) hs (by omega) hr h2 (by rw [show (16 * i + j) / 16 = i by omega]; exact h3)
    have hd : mm_drop τ (nI s) (nI (16 * i + j)) = some (nI 0, τ) := m_d0 hf
    rw [← Nat.add_assoc, m_stp hs (by omega) hd, Nat.add_zero, Nat.add_assoc]
    rw [ih (j + 1) c (sm_rg τ (upd (gm_rg τ) (256 * s + (16 * i + j)) v0)) (by omega) h2 h3 (by show upd (gm_rg τ) (256 * s + (16 * i + j)) v0 = _; rw [hg]; rfl)]
theorem c_zero {t : Nat} (ht : t < 64) (m : Nat) (σ : CS) : ∀ (d j M : Nat), j + d = 16 → d < M → (∀ k, j ≤ k → k < 16 → gc_w σ (16 * t + k) = 0) → mc_Spaces_removeTable_l4 M (nI t) (nI m) (nI j) σ = some (nI m, fr σ t) := by
  intro d
  induction d with
  | zero =>
    intro j M hj hM _
    have : j = 16 := by omega
    subst this
    cases M with
    | zero => exact absurd hM (Nat.not_lt_zero _)
    | succ M =>
      show mc_Spaces_removeTable_b4 (mc_Spaces_removeTable_l4 M) (nI t) (nI m) (nI 16) σ = _
      unfold mc_Spaces_removeTable_b4 mc_Spaces_removeTable_b50
      rw [if_pos (show (16 : Int32) ≤ nI 16 by decide), c_mf σ ht, cv_r]
  | succ d ih =>
    intro j M hj hM hz
    cases M with
    | zero => exact absurd hM (Nat.not_lt_zero _)
    | succ M =>
      show mc_Spaces_removeTable_b4 (mc_Spaces_removeTable_l4 M) (nI t) (nI m) (nI j) σ = _
      unfold mc_Spaces_removeTable_b4
      rw [if_neg (show ¬ (16 : Int32) ≤ nI j from fun z => absurd ((nI_leI (a := 16) (by omega) (by omega)).mp z) (by omega)), e16, c_rd σ (show 16 * t + j < 1024 by omega), cp_r, if_pos (hz j (Nat.le_refl _) (by omega)), nI_1]
      exact ih (j + 1) M (by omega) (by omega) (fun k h1 h2 => hz k (by omega) h2)
/-- the words that the class still reads: all but root r's first i entries (the class leaves them as they were) -/
def WO (r i : Nat) (σ : CS) (τ : MS) : Prop := ∀ q, q < 1024 → ¬ gm_o τ (q / 16) = 0 → ¬ (16 * r ≤ q ∧ q < 16 * r + i) → gc_w σ q = gm_w τ q
theorem de_al {s r i t : Nat} {g : Nat → Int32} (hs : s < 4) (hr : r < 64) (hi : i < 16) (ht : t < 64) (N : Nat) : ∀ (d j M c k : Nat) (σ : CS) (τ : MS), j + d = 16 → d < M → REL (star σ τ) τ → gm_ro τ s = nI (r + 1) → gm_o τ r = 1 → gm_w τ (16 * r + i) = nI (t + 1) → gm_o τ t = 1 →
    (∀ x, x < j → gm_w τ (16 * t + x) = 0) → (∀ x, x < i → gm_w τ (16 * r + x) = 0) → (∀ q, q < 1024 → ¬ gm_o τ (q / 16) = 0 → ¬ (16 * r ≤ q ∧ q < 16 * r + i) → ¬ (16 * t ≤ q ∧ q < 16 * t + j) → gc_w σ q = gm_w τ q) → gm_rg τ = us g (256 * s) v0 (16 * i + j) →
    ∃ n σ' τ', mc_Spaces_removeTable_l4 M (nI t) (nI (k + 1)) (nI j) σ = some (nI n, σ') ∧ mm_destroy_l26 (N + d) (nI s) (nI (c + k)) (nI (16 * i + j)) τ = mm_destroy_l26 N (nI s) (nI (c + n)) (nI (16 * i + 16)) τ' ∧
      REL (star σ' τ') τ' ∧ gm_rg τ' = us g (256 * s) v0 (16 * i + 16) ∧ WO r (i + 1) σ' τ' ∧ gc_rg σ' = gc_rg σ ∧ gm_th τ' = gm_th τ ∧ gm_ro τ' = gm_ro τ ∧ gm_o τ' r = 1 ∧ n ≤ k + 1 + d ∧ ∀ x, x < i + 1 → gm_w τ' (16 * r + x) = 0 := by
  intro d
  induction d with
  | zero =>
    intro j M c k σ τ hj hM h h2 o1 h3 ot hz hy hW hg
    exfalso
    have : j = 16 := by omega
    subst this
    obtain ⟨⟨K, kk⟩, -⟩ := h.2.2.2.2.2.2.1.2.2
    rcases kk s hs with z | ⟨q, a, b, c, d, e⟩
    · rw [h2] at z; exact absurd ((nI_eq (b := 0) (by omega) (by omega)).mp z) (by omega)
    · have eq : q = r := by have := (nI_eq (by omega) (by omega)).mp (h2.symm.trans b); omega
      subst eq
      rcases e i hi with z | ⟨t', a2, b2, c2, d2, ⟨x, x1, x2⟩, -⟩
      · rw [h3] at z; exact absurd ((nI_eq (b := 0) (by omega) (by omega)).mp z) (by omega)
      · have et : t' = t := by have := (nI_eq (by omega) (by omega)).mp (h3.symm.trans b2); omega
        subst et
        exact x2 (hz x x1)
  | succ d ih =>
    intro j M c k σ τ hj hM h h2 o1 h3 ot hz hy hW hg
    have hRP : RP (gm_o τ) (gm_w τ) (gm_ro τ) (gc_eo σ) := h.2.2.2.2.2.2.1.2.2
    have rt : ¬ r = t := rt_ne hRP hs hr hi ht h2 h3 s r hs hr h2
    have hent : gc_w σ (16 * t + j) = gm_w τ (16 * t + j) := hW _ (by omega) (by rw [show (16 * t + j) / 16 = t by omega, ot]; decide) (by omega) (by omega)
    have e3 : gm_w τ (16 * r + (16 * i + j) / 16) = nI (t + 1) := by rw [show (16 * i + j) / 16 = i by omega]; exact h3
    have cs : ∀ (M' : Nat), mc_Spaces_removeTable_l4 (M' + 1) (nI t) (nI (k + 1)) (nI j) σ = if gm_w τ (16 * t + j) = 0 then mc_Spaces_removeTable_l4 M' (nI t) (nI (k + 1)) (nI (j + 1)) σ else mi_cv (mc_Frames_makeFree σ (gm_w τ (16 * t + j) - 1)) fun σ3 => mc_Spaces_removeTable_l4 M' (nI t) (nI (k + 1 + 1)) (nI (j + 1)) σ3 := by
      intro M'
      show mc_Spaces_removeTable_b4 (mc_Spaces_removeTable_l4 M') (nI t) (nI (k + 1)) (nI j) σ = _
      unfold mc_Spaces_removeTable_b4
      rw [if_neg (show ¬ (16 : Int32) ≤ nI j from fun z => absurd ((nI_leI (a := 16) (by omega) (by omega)).mp z) (by omega)), e16, c_rd σ (show 16 * t + j < 1024 by omega), cp_r, hent, nI_1, nI_1]
    obtain ⟨M', rfl⟩ : ∃ M', M = M' + 1 := ⟨M - 1, by omega⟩
    rw [cs M']
    by_cases z : gm_w τ (16 * t + j) = 0
    · rw [if_pos z]
      have hf := m_f1 (p := 16 * i + j) hs (by omega) hr ht h2 e3 (by rw [show (16 * i + j) % 16 = j by omega]; exact z)
      have hd : mm_drop τ (nI s) (nI (16 * i + j)) = some (nI 0, τ) := m_d0 hf
      rw [← Nat.add_assoc N d 1, m_stp hs (by omega) hd, Nat.add_zero, Nat.add_assoc (16 * i) j 1]
      obtain ⟨n, σ', τ', i1, i2, i3, i4, i5, i6, i7, i8, i9, i10, i11⟩ := ih (j + 1) M' c k σ (sm_rg τ (upd (gm_rg τ) (256 * s + (16 * i + j)) v0)) (by omega) (by omega) (st_rg h _) h2 o1 h3 ot (fun x hx => by
        by_cases y : x = j
        · rw [y]; exact z
        · exact hz x (by omega)) hy (fun q a b c d => hW q a b c (by omega)) (by show upd (gm_rg τ) (256 * s + (16 * i + j)) v0 = _; rw [hg]; rfl)
      exact ⟨n, σ', τ', i1, i2, i3, i4, i5, i6, i7, i8, i9, by omega, i11⟩
    · rw [if_neg z]
      -- the entry's page
      have hpg : ∃ f, f < 64 ∧ gm_w τ (16 * t + j) = nI (f + 1) ∧ gm_o τ f = 4 ∧ gc_eo σ f = nI (16 * t + j) := by
        obtain ⟨⟨K, kk⟩, -⟩ := hRP
        rcases kk s hs with y | ⟨q, a, b, c, d, e⟩
        · rw [h2] at y; exact absurd ((nI_eq (b := 0) (by omega) (by omega)).mp y) (by omega)
        · have eq : q = r := by have := (nI_eq (by omega) (by omega)).mp (h2.symm.trans b); omega
          subst eq
          rcases e i hi with y | ⟨t', a2, b2, c2, d2, -, f2⟩
          · rw [h3] at y; exact absurd ((nI_eq (b := 0) (by omega) (by omega)).mp y) (by omega)
          · have et : t' = t := by have := (nI_eq (by omega) (by omega)).mp (h3.symm.trans b2); omega
            subst et
            rcases f2 j (by omega) with y | y
            · exact absurd y z
            · exact y
      obtain ⟨f, hf, h4, of, ef⟩ := hpg
      rw [h4, n_s1, c_mf σ hf, cv_r]
      have hd := m_drop (p := 16 * i + j) hs (by omega) hr ht hf h2 e3 (by rw [show (16 * i + j) % 16 = j by omega]; exact h4)
      rw [show (16 * i + j) / 16 = i by omega, show (16 * i + j) % 16 = j by omega] at hd
      obtain ⟨dr1, dr2⟩ := drop_rel h hs hi (show j < 16 by omega) hr ht hf h2 h3 o1 ot h4 of ef
      have tf : ¬ t = f := fun y => by rw [y, of] at ot; exact absurd ot (by decide)
      have rf : ¬ r = f := fun y => by rw [y, of] at o1; exact absurd o1 (by decide)
      have mono : ∀ q, ¬ upd (gm_o τ) f 0 q = 0 → ¬ gm_o τ q = 0 := fun q hq y => by
        by_cases w : q = f
        · exact hq (by rw [w, u_eq])
        · exact hq (by rw [u_ne w]; exact y)
      cases e : et (gm_w (dpM τ (16 * t + j) f)) t with
      | false =>
        rw [e, if_neg (by decide)] at hd
        have hd : mm_drop τ (nI s) (nI (16 * i + j)) = some (nI 1, dpM τ (16 * t + j) f) := hd
        have hR := dr1 e
        rw [st_dp] at hR
        have hw2 := dpM_w τ (16 * t + j) f
        have ho2 := dpM_o τ (16 * t + j) f
        have hro2 := dpM_ro τ (16 * t + j) f
        have hth2 := dpM_th τ (16 * t + j) f
        have hrg2 : gm_rg (dpM τ (16 * t + j) f) = gm_rg τ := rfl
        rw [← Nat.add_assoc N d 1, m_stp hs (by omega) hd, Nat.add_assoc (16 * i) j 1, Nat.add_assoc c k 1]
        generalize dpM τ (16 * t + j) f = π at hR hw2 ho2 hro2 hth2 hrg2 ⊢
        obtain ⟨n, σ', τ', i1, i2, i3, i4, i5, i6, i7, i8, i9, i10, i11⟩ := ih (j + 1) M' c (k + 1) (fr σ f) (sm_rg π (upd (gm_rg π) (256 * s + (16 * i + j)) v0)) (by omega) (by omega) (st_rg hR _) (by show gm_ro π s = _; rw [hro2]; exact h2) (by show gm_o π r = 1; rw [ho2, u_ne rf]; exact o1) (by show gm_w π (16 * r + i) = _; rw [hw2, u_ne (by omega)]; exact h3) (by show gm_o π t = 1; rw [ho2, u_ne tf]; exact ot) (fun x hx => by
          show gm_w π (16 * t + x) = 0
          rw [hw2]
          by_cases y : x = j
          · rw [y, u_eq]
          · rw [u_ne (by omega)]; exact hz x (by omega)) (fun x hx => by
          show gm_w π (16 * r + x) = 0
          rw [hw2, u_ne (by omega)]; exact hy x hx) (fun q a b c d => by
          show gc_w σ q = gm_w π q
          rw [hw2, u_ne (by omega)]
          refine hW q a (mono _ ?_) c (by omega)
          rw [← ho2]; exact b) (by show upd (gm_rg π) (256 * s + (16 * i + j)) v0 = _; rw [hrg2, hg]; rfl)
        exact ⟨n, σ', τ', i1, i2, i3, i4, i5, i6, i7.trans hth2, i8.trans hro2, i9, by omega, i11⟩
      | true =>
        rw [e, if_pos rfl] at hd
        have hR := dr2 e
        rw [st_dp, st_dp] at hR
        have hzz := et_z e
        have hw1 := dpM_w τ (16 * t + j) f
        have ho1 := dpM_o τ (16 * t + j) f
        have hro1 := dpM_ro τ (16 * t + j) f
        have hth1 := dpM_th τ (16 * t + j) f
        have hrg1 : gm_rg (dpM τ (16 * t + j) f) = gm_rg τ := rfl
        generalize dpM τ (16 * t + j) f = ρ at hR hd hzz hw1 ho1 hro1 hth1 hrg1
        have hw2 := dpM_w ρ (16 * r + i) t
        have ho2 := dpM_o ρ (16 * r + i) t
        have hro2 := dpM_ro ρ (16 * r + i) t
        have hth2 := dpM_th ρ (16 * r + i) t
        have hrg2 : gm_rg (dpM ρ (16 * r + i) t) = gm_rg ρ := rfl
        have hd : mm_drop τ (nI s) (nI (16 * i + j)) = some (nI 2, dpM ρ (16 * r + i) t) := hd
        generalize dpM ρ (16 * r + i) t = π at hR hd hw2 ho2 hro2 hth2 hrg2
        rw [← Nat.add_assoc N d 1, m_stp hs (by omega) hd, Nat.add_assoc (16 * i) j 1]
        have hsk := m_skip (g := g) hs hr hi N d (j + 1) (c + k + 2) (sm_rg π (upd (gm_rg π) (256 * s + (16 * i + j)) v0)) (by omega) (by show gm_ro π s = _; rw [hro2, hro1]; exact h2) (by show gm_w π (16 * r + i) = 0; rw [hw2, u_eq]) (by show upd (gm_rg π) (256 * s + (16 * i + j)) v0 = _; rw [hrg2, hrg1, hg]; rfl)
        rw [hsk, c_zero ht (k + 1 + 1) (fr σ f) d (j + 1) M' (by omega) (by omega) (fun x x1 x2 => by
          show gc_w σ (16 * t + x) = 0
          rw [hW _ (by omega) (by rw [show (16 * t + x) / 16 = t by omega, ot]; decide) (by omega) (by omega)]
          have := hzz x x2
          rw [hw1, u_ne (by omega)] at this
          exact this)]
        refine ⟨k + 1 + 1, fr (fr σ f) t, sm_rg (sm_rg π (upd (gm_rg π) (256 * s + (16 * i + j)) v0)) (us g (256 * s) v0 (16 * i + 16)), rfl, by rw [show c + k + 2 = c + (k + 1 + 1) by omega], st_rg (st_rg hR _) _, rfl, ?_, rfl, hth2.trans hth1, hro2.trans hro1, ?_, by omega, fun x hx => ?_⟩
        · intro q a b c
          have b : ¬ gm_o π (q / 16) = 0 := b
          show gc_w σ q = gm_w π q
          rw [ho2, ho1] at b
          have b1 : ¬ q / 16 = t := fun y => b (by rw [y, u_eq])
          rw [u_ne b1] at b
          rw [hw2, u_ne (by omega), hw1, u_ne (by omega)]
          exact hW q a (mono _ b) (by omega) (by omega)
        · show gm_o π r = 1
          rw [ho2, u_ne rt, ho1, u_ne rf]; exact o1
        · show gm_w π (16 * r + x) = 0
          rw [hw2]
          by_cases y : x = i
          · rw [y, u_eq]
          · rw [u_ne (by omega), hw1, u_ne (by omega)]
            exact hy x (by omega)
