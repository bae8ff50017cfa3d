/-! ===== the relation between the stores ===== -/
/-- a slab's size 2^k and its objects -/
def SL (s t : Int32) : Prop := ∃ k u, 1 ≤ k ∧ k ≤ 3 ∧ s = nI (2 ^ k) ∧ t = nI u ∧ 0 < u ∧ u < 2 ^ (16 / 2 ^ k)
def RS (σ : CS) (τ : MS) : Prop := ∀ f, f < 64 → (gm_o τ f = 2 → gc_sz σ f = gm_sz τ f ∧ gc_tk σ f = gm_tk τ f ∧ SL (gm_sz τ f) (gm_tk τ f)) ∧ (¬ gm_o τ f = 2 → gc_sz σ f = 0 ∧ gc_tk σ f = 0)
/-- ranges: entries are frames of theirs, each once (by the ghost K), and ranges lie apart -/
def EN (o en ln : Nat → Int32) : Prop := ∃ K : Nat → Nat, (∀ p, p < 64 → en p = 0 ∨ ∃ f, f < 64 ∧ en p = nI (f + 1) ∧ o f = 3 ∧ K f = p) ∧
  (∀ p, p < 64 → ∃ n, n ≤ 8 ∧ ln p = nI n ∧ p + n ≤ 64 ∧ ∀ i, i < n → ¬ en (p + i) = 0) ∧
  ∀ p q, p < q → q < 64 → ¬ ln q = 0 → ∀ n, n ≤ 8 → ln p = nI n → p + n ≤ q
def UN (o rl : Nat → Int32) : Prop := (∀ f, f < 64 → ∃ n, n ≤ 32 ∧ rl f = nI n ∧ f + n ≤ 64 ∧ ∀ i, i < n → o (f + i) = 5) ∧
  ∀ p q, p < q → q < 64 → ¬ rl q = 0 → ∀ n, n ≤ 32 → rl p = nI n → p + n ≤ q
/-- an entry j of table t -/
def RPp (o w eo : Nat → Int32) (t j : Nat) : Prop := w (16 * t + j) = 0 ∨ ∃ f, f < 64 ∧ w (16 * t + j) = nI (f + 1) ∧ o f = 4 ∧ eo f = nI (16 * t + j)
def RPt (K : Nat → Nat) (o w eo : Nat → Int32) (s r i : Nat) : Prop := w (16 * r + i) = 0 ∨ ∃ t, t < 64 ∧ w (16 * r + i) = nI (t + 1) ∧ o t = 1 ∧ K t = 16 + 16 * s + i ∧ (∃ j, j < 16 ∧ ¬ w (16 * t + j) = 0) ∧ ∀ j, j < 16 → RPp o w eo t j
/-- spaces: roots, tables below them (each once, by the ghost K), pages (each once, by entryOf) -/
def RPf (o w ro eo : Nat → Int32) : Prop := ∃ K : Nat → Nat, ∀ s, s < 4 → ro s = 0 ∨ ∃ r, r < 64 ∧ ro s = nI (r + 1) ∧ o r = 1 ∧ K r = s ∧ ∀ i, i < 16 → RPt K o w eo s r i
/-- a way from the root of s to the page f -/
def PT (o w ro : Nat → Int32) (f s r i t j : Nat) : Prop := s < 4 ∧ r < 64 ∧ i < 16 ∧ t < 64 ∧ j < 16 ∧ ro s = nI (r + 1) ∧ w (16 * r + i) = nI (t + 1) ∧ w (16 * t + j) = nI (f + 1) ∧ o r = 1 ∧ o t = 1
/-- every page lies behind some space -/
def PO (o w ro : Nat → Int32) : Prop := ∀ f, f < 64 → o f = 4 → ∃ s r i t j, PT o w ro f s r i t j
def RP (o w ro eo : Nat → Int32) : Prop := RPf o w ro eo ∧ PO o w ro
def REL (σ : CS) (τ : MS) : Prop :=
  gc_o σ = gm_o τ ∧ FB (gc_o σ) (gc_fb σ) ∧ (∀ j, j < 1024 → ¬ gm_o τ (j / 16) = 0 → gc_w σ j = gm_w τ j) ∧ RS σ τ ∧
  (gc_en σ = gm_en τ ∧ gc_ln σ = gm_ln τ ∧ EN (gm_o τ) (gm_en τ) (gm_ln τ)) ∧ (gc_rl σ = gm_rl τ ∧ UN (gm_o τ) (gm_rl τ)) ∧
  (gc_ro σ = gm_ro τ ∧ gc_rg σ = gm_rg τ ∧ RP (gm_o τ) (gm_w τ) (gm_ro τ) (gc_eo σ)) ∧ gc_mv σ = gm_mv τ
theorem EN_mono {o o' en ln : Nat → Int32} (h : EN o en ln) (hm : ∀ f, f < 64 → o f = 3 → o' f = 3) : EN o' en ln := by
  obtain ⟨K, h1, h2, h3⟩ := h
  refine ⟨K, fun p hp => ?_, h2, h3⟩
  rcases h1 p hp with z | ⟨f, a, b, c, d⟩
  · exact Or.inl z
  · exact Or.inr ⟨f, a, b, hm f a c, d⟩
theorem UN_mono {o o' rl : Nat → Int32} (h : UN o rl) (hm : ∀ f, f < 64 → o f = 5 → o' f = 5) : UN o' rl := by
  obtain ⟨h1, h2⟩ := h
  refine ⟨fun f hf => ?_, h2⟩
  obtain ⟨n, a, b, c, d⟩ := h1 f hf
  exact ⟨n, a, b, c, fun i hi => hm _ (by omega) (d i hi)⟩
theorem RPf_mono {o o' w w' ro eo eo' : Nat → Int32} (h : RPf o w ro eo) (h1 : ∀ f, f < 64 → o f = 1 → o' f = 1 ∧ ∀ i, i < 16 → w' (16 * f + i) = w (16 * f + i)) (h4 : ∀ f, f < 64 → o f = 4 → o' f = 4 ∧ eo' f = eo f) : RPf o' w' ro eo' := by
  obtain ⟨K, h⟩ := h
  refine ⟨K, fun s hs => ?_⟩
  rcases h s hs with z | ⟨r, a, b, c, d, e⟩
  · exact Or.inl z
  · refine Or.inr ⟨r, a, b, (h1 r a c).1, d, fun i hi => ?_⟩
    have hw := (h1 r a c).2 i hi
    rcases e i hi with z | ⟨t, a2, b2, c2, d2, ⟨j, e2, f2⟩, g2⟩
    · exact Or.inl (hw.trans z)
    · refine Or.inr ⟨t, a2, hw.trans b2, (h1 t a2 c2).1, d2, ⟨j, e2, by rw [(h1 t a2 c2).2 j e2]; exact f2⟩, fun j hj => ?_⟩
      have hv := (h1 t a2 c2).2 j hj
      rcases g2 j hj with z | ⟨f, a3, b3, c3, d3⟩
      · exact Or.inl (hv.trans z)
      · exact Or.inr ⟨f, a3, hv.trans b3, (h4 f a3 c3).1, (h4 f a3 c3).2.trans d3⟩
theorem PO_mono {o o' w w' ro : Nat → Int32} (h : PO o w ro) (h1 : ∀ f, f < 64 → o f = 1 → o' f = 1 ∧ ∀ i, i < 16 → w' (16 * f + i) = w (16 * f + i)) (h5 : ∀ f, f < 64 → o' f = 4 → o f = 4) : PO o' w' ro := by
  intro f hf h4
  obtain ⟨s, r, i, t, j, a1, a2, a3, a4, a5, a6, a7, a8, a9, a10⟩ := h f hf (h5 f hf h4)
  exact ⟨s, r, i, t, j, a1, a2, a3, a4, a5, a6, ((h1 r a2 a9).2 i a3).trans a7, ((h1 t a4 a10).2 j a5).trans a8, (h1 r a2 a9).1, (h1 t a4 a10).1⟩
theorem RP_mono {o o' w w' ro eo eo' : Nat → Int32} (h : RP o w ro eo) (h1 : ∀ f, f < 64 → o f = 1 → o' f = 1 ∧ ∀ i, i < 16 → w' (16 * f + i) = w (16 * f + i)) (h4 : ∀ f, f < 64 → o f = 4 → o' f = 4 ∧ eo' f = eo f) (h5 : ∀ f, f < 64 → o' f = 4 → o f = 4) : RP o' w' ro eo' :=
  ⟨RPf_mono h.1 h1 h4, PO_mono h.2 h1 h5⟩
theorem u_ne {o : Nat → Int32} {f g : Nat} {v : Int32} (h : ¬ g = f) : upd o f v g = o g := if_neg h
theorem u_eq {o : Nat → Int32} {f : Nat} {v : Int32} : upd o f v f = v := if_pos rfl
theorem u_4 {o : Nat → Int32} {f g : Nat} {v : Int32} (hv : ¬ v = 4) (h : upd o f v g = 4) : o g = 4 := by
  by_cases z : g = f
  · rw [z, u_eq] at h; exact absurd h hv
  · rw [u_ne z] at h; exact h
theorem zw_ne {w : Nat → Int32} {f g i : Nat} (h : ¬ g = f) (hi : i < 16) : zw w f (16 * g + i) = w (16 * g + i) := by
  rw [zw_at, if_neg (by omega)]
theorem zw_eq {w : Nat → Int32} {f i : Nat} (hi : i < 16) : zw w f (16 * f + i) = 0 := by
  rw [zw_at, if_pos (by omega)]
/-- a free frame is given to an owner that is no slab -/
theorem REL_give {σ : CS} {τ : MS} (h : REL σ τ) {f : Nat} (hf : f < 64) (h0 : gm_o τ f = 0) {v : Int32} (hv : ¬ v = 0) (hv2 : ¬ v = 2) (hv4 : ¬ v = 4) : REL (gv σ f v) (ow τ f v) := by
  obtain ⟨ho, hF, hw, hS, ⟨e1, e2, e3⟩, ⟨u1, u2⟩, ⟨r1, r2, r3⟩, hm⟩ := h
  have keep : ∀ g, ∀ c : Int32, ¬ c = 0 → gm_o τ g = c → upd (gm_o τ) f v g = c := fun g c hc hg => by
    by_cases z : g = f
    · rw [z, h0] at hg; exact absurd hg.symm hc
    · rw [u_ne z]; exact hg
  refine ⟨?_, FB_give hF hf hv, ?_, ?_, ⟨e1, e2, EN_mono e3 (fun g _ hg => keep g 3 (by decide) hg)⟩, ⟨u1, UN_mono u2 (fun g _ hg => keep g 5 (by decide) hg)⟩, ⟨r1, r2, ?_⟩, hm⟩
  · show upd (gc_o σ) f v = upd (gm_o τ) f v
    rw [ho]
  · intro j hj hne
    show zw (gc_w σ) f j = zw (gm_w τ) f j
    have hne : ¬ upd (gm_o τ) f v (j / 16) = 0 := hne
    rw [zw_at, zw_at]
    by_cases z : j / 16 = f
    · rw [if_pos z, if_pos z]
    · rw [if_neg z, if_neg z]
      rw [u_ne z] at hne
      exact hw j hj hne
  · intro g hg
    obtain ⟨s1, s2⟩ := hS g hg
    refine ⟨fun z => ?_, fun z => ?_⟩
    · have z : upd (gm_o τ) f v g = 2 := z
      by_cases y : g = f
      · rw [y, u_eq] at z; exact absurd z hv2
      · rw [u_ne y] at z; exact s1 z
    · have z : ¬ upd (gm_o τ) f v g = 2 := z
      by_cases y : g = f
      · exact s2 (by rw [y, h0]; decide)
      · rw [u_ne y] at z; exact s2 z
  · refine RP_mono r3 (fun g hg z => ⟨keep g 1 (by decide) z, fun i hi => ?_⟩) (fun g hg z => ⟨keep g 4 (by decide) z, rfl⟩) (fun g _ z => u_4 hv4 z)
    exact zw_ne (fun y => by rw [y, h0] at z; exact absurd z (by decide)) hi
/-! ===== queries ===== -/
theorem q_free {σ : CS} {τ : MS} (h : REL σ τ) : mc_free σ = some (nI (cz (gm_o τ) 64)) ∧ mm_free τ = some (nI (cz (gm_o τ) 64), sm_th τ 0) := by
  refine ⟨?_, ?_⟩
  · unfold mc_free
    rw [c_cf h.2.1, h.1]
    rfl
  · unfold mm_free
    show mi_cp (mm_countFree (sm_th τ 0)) _ = _
    rw [m_cf]
    rfl
theorem REL_th {σ : CS} {τ : MS} (h : REL σ τ) (v : Int32) : REL σ (sm_th τ v) := h
theorem q_moved {σ : CS} {τ : MS} (h : REL σ τ) : mc_moved σ = some (gm_mv τ) ∧ mm_moved τ = some (gm_mv τ, sm_th τ 0) := by
  refine ⟨?_, rfl⟩
  rw [← h.2.2.2.2.2.2.2]
  rfl
theorem i_in (n : Nat) (hn : n < 2 ^ 31) {x : Int32} (h1 : ¬ x < 0) (h2 : ¬ nI n ≤ x) : ∃ k, k < n ∧ x = nI k := by
  obtain ⟨k, hk, rfl⟩ := nI_of h1
  exact ⟨k, Nat.lt_of_not_le (fun z => h2 ((nI_leI hn hk).mpr z)), rfl⟩
theorem i_lt (n : Nat) {x : Int32} (hn : n + 1 < 2 ^ 31) (h : nI (n + 1) ≤ x) : nI n < x := by
  rw [Int32.le_iff_toInt_le, nI_toInt (by omega)] at h
  rw [Int32.lt_iff_toInt_lt, nI_toInt (by omega)]
  omega
theorem m_inL {x a b : Int32} (h : x < a) : mm_in x a b = some 0 := by unfold mm_in; rw [if_pos h]
theorem m_inG {x a b : Int32} (h : b < x) : mm_in x a b = some 0 := by
  unfold mm_in
  by_cases h1 : x < a
  · rw [if_pos h1]
  · rw [if_neg h1, if_pos h]
theorem m_inI {k n : Nat} (h : k < n + 1) (hn : n + 1 < 2 ^ 31) : mm_in (nI k) 0 (nI n) = some 1 := by
  unfold mm_in
  rw [if_neg (nI_pos (by omega)), if_neg (fun z => absurd ((nI_ltI (by omega) (by omega)).mp z) (by omega))]
theorem q_owner {σ : CS} {τ : MS} (h : REL σ τ) (x : Int32) : ∃ v, mc_owner σ x = some v ∧ mm_owner τ x = some (v, sm_th τ 0) := by
  have out : mc_isFrame x = some 0 → mm_in x 0 63 = some 0 → ∃ v, mc_owner σ x = some v ∧ mm_owner τ x = some (v, sm_th τ 0) := by
    intro h1 h2
    refine ⟨-1, ?_, ?_⟩
    · unfold mc_owner mc_Frames_ownerOf; rw [h1]; rfl
    · unfold mm_owner
      show mi_cp (mm_in x 0 63) _ = _
      rw [h2]; rfl
  by_cases h1 : x < 0
  · exact out (by unfold mc_isFrame; rw [if_pos h1]) (m_inL h1)
  · by_cases h2 : (64 : Int32) ≤ x
    · exact out (by unfold mc_isFrame; rw [if_neg h1, if_pos h2]) (m_inG (i_lt 63 (by omega) h2))
    · obtain ⟨k, hk, rfl⟩ := i_in 64 (by omega) h1 h2
      refine ⟨gm_o τ k, ?_, ?_⟩
      · unfold mc_owner mc_Frames_ownerOf
        rw [isF hk, cp_r, if_neg (by decide), gi_n hk (by omega), nI_clamp (by omega), h.1]
        rfl
      · unfold mm_owner
        show mi_cp (mm_in (nI k) 0 (nI 63)) _ = _
        rw [m_inI hk (by omega), cp_r, if_neg (by decide), gi_n hk (by omega), nI_clamp (by omega)]
theorem q_blocks {σ : CS} {τ : MS} (h : REL σ τ) {k : Nat} (hk : k < 7) : ∃ v, mc_blocks σ (nI k) = some v ∧ mm_blocks τ (nI k) = some (v, sm_th τ 0) := by
  refine ⟨_, c_bl h.2.1 hk, ?_⟩
  rw [m_bl τ hk, h.1]
