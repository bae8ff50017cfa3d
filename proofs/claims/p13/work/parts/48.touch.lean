/-! ===== a page gets a frame ===== -/
/-- spaces, with one table x that may be empty -/
def RPxf (x : Nat) (o w ro eo : Nat → Int32) : Prop := ∃ K : Nat → Nat, ∀ s, s < 4 → ro s = 0 ∨ ∃ r, r < 64 ∧ ro s = nI (r + 1) ∧ o r = 1 ∧ K r = s ∧ ∀ i, i < 16 →
  (w (16 * r + i) = 0 ∨ ∃ t, t < 64 ∧ w (16 * r + i) = nI (t + 1) ∧ o t = 1 ∧ K t = 16 + 16 * s + i ∧ (t = x ∨ ∃ j, j < 16 ∧ ¬ w (16 * t + j) = 0) ∧ ∀ j, j < 16 → RPp o w eo t j)
def RPx (x : Nat) (o w ro eo : Nat → Int32) : Prop := RPxf x o w ro eo ∧ PO o w ro
theorem RPx_of {x : Nat} {o w ro eo : Nat → Int32} (h : RP o w ro eo) : RPx x o w ro eo := by
  obtain ⟨⟨K, h⟩, po⟩ := h
  refine ⟨⟨K, fun s hs => ?_⟩, po⟩
  rcases h s hs with z | ⟨r, a, b, c, d, e⟩
  · exact Or.inl z
  · refine Or.inr ⟨r, a, b, c, d, fun i hi => ?_⟩
    rcases e i hi with z | ⟨t, a2, b2, c2, d2, e2, f2⟩
    · exact Or.inl z
    · exact Or.inr ⟨t, a2, b2, c2, d2, Or.inr e2, f2⟩
/-- the frame g becomes the page of entry j of table t, which lies at entry i of the root of s -/
theorem RP_page {o w ro eo : Nat → Int32} {s r i t j g : Nat} (h : RPx t o w ro eo) (hs : s < 4) (hr : r < 64) (hro : ro s = nI (r + 1)) (hi : i < 16) (ht : t < 64) (hw : w (16 * r + i) = nI (t + 1)) (ho : o t = 1) (hj : j < 16) (h0 : w (16 * t + j) = 0) (hg : g < 64) (og : o g = 0) :
    RP (upd o g 4) (upd (zw w g) (16 * t + j) (nI (g + 1))) ro (upd eo g (nI (16 * t + j))) := by
  obtain ⟨⟨K, h⟩, po⟩ := h
  have hgn : ¬ nI (g + 1) = (0 : Int32) := fun y => absurd ((nI_eq (b := 0) (by omega) (by omega)).mp y) (by omega)
  have Kt : K t = 16 + 16 * s + i ∧ K r = s ∧ o r = 1 := by
    rcases h s hs with z | ⟨r', a, b, c, d, e⟩
    · rw [hro] at z; exact absurd ((nI_eq (b := 0) (by omega) (by omega)).mp z) (by omega)
    · have er : r' = r := by have := (nI_eq (by omega) (by omega)).mp (hro.symm.trans b); omega
      subst er
      rcases e i hi with z | ⟨t', a2, b2, c2, d2, e2, f2⟩
      · rw [hw] at z; exact absurd ((nI_eq (b := 0) (by omega) (by omega)).mp z) (by omega)
      · have et : t' = t := by have := (nI_eq (by omega) (by omega)).mp (hw.symm.trans b2); omega
        subst et
        exact ⟨d2, d, c⟩
  obtain ⟨Kt, Kr, or⟩ := Kt
  have ne : ∀ q, ¬ o q = 0 → ¬ q = g := fun q hq y => hq (by rw [y]; exact og)
  have wd : ∀ q k, ¬ q = g → k < 16 → ¬ 16 * q + k = 16 * t + j → upd (zw w g) (16 * t + j) (nI (g + 1)) (16 * q + k) = w (16 * q + k) := fun q k hq hk hne => by
    rw [u_ne hne, zw_ne hq hk]
  refine ⟨⟨K, fun s' hs' => ?_⟩, fun q hq q4 => ?_⟩
  rotate_left
  · by_cases y : q = g
    · subst y
      have rn := ne r (by rw [or]; decide)
      have tn := ne t (by rw [ho]; decide)
      have rt : ¬ r = t := fun y => by rw [y, Kt] at Kr; omega
      exact ⟨s, r, i, t, j, hs, hr, hi, ht, hj, hro, by rw [wd r i rn hi (by omega)]; exact hw, u_eq, by rw [u_ne rn]; exact or, by rw [u_ne tn]; exact ho⟩
    · rw [u_ne y] at q4
      obtain ⟨s', r', i', t', j', a1, a2, a3, a4, a5, a6, a7, a8, a9, a10⟩ := po q hq q4
      have rn := ne r' (by rw [a9]; decide)
      have tn := ne t' (by rw [a10]; decide)
      have nz : ∀ k, k < 64 → ¬ nI (k + 1) = (0 : Int32) := fun k hk y => absurd ((nI_eq (b := 0) (by omega) (by omega)).mp y) (by omega)
      exact ⟨s', r', i', t', j', a1, a2, a3, a4, a5, a6, by rw [wd r' i' rn a3 (fun y => by rw [y, h0] at a7; exact nz t' a4 a7.symm)]; exact a7, by rw [wd t' j' tn a5 (fun y => by rw [y, h0] at a8; exact nz q hq a8.symm)]; exact a8, by rw [u_ne rn]; exact a9, by rw [u_ne tn]; exact a10⟩
  rcases h s' hs' with z | ⟨r', a, b, c, d, e⟩
  · exact Or.inl z
  · have rn := ne r' (by rw [c]; decide)
    have rt : ¬ r' = t := fun y => by rw [y, Kt] at d; omega
    refine Or.inr ⟨r', a, b, by rw [u_ne rn]; exact c, d, fun i' hi' => ?_⟩
    have w1 := wd r' i' rn hi' (by omega)
    rcases e i' hi' with z | ⟨t', a2, b2, c2, d2, e2, f2⟩
    · exact Or.inl (w1.trans z)
    · have tn := ne t' (by rw [c2]; decide)
      refine Or.inr ⟨t', a2, w1.trans b2, by rw [u_ne tn]; exact c2, d2, ?_, fun j' hj' => ?_⟩
      · by_cases y : t' = t
        · exact ⟨j, hj, by rw [y, u_eq]; exact hgn⟩
        · rcases e2 with e2 | ⟨k, k1, k2⟩
          · exact absurd e2 y
          · exact ⟨k, k1, by rw [wd t' k tn k1 (by omega)]; exact k2⟩
      · by_cases y : t' = t ∧ j' = j
        · obtain ⟨y1, y2⟩ := y
          subst y1
          subst y2
          exact Or.inr ⟨g, hg, u_eq, u_eq, u_eq⟩
        · have w2 := wd t' j' tn hj' (by omega)
          rcases f2 j' hj' with z | ⟨f, f1, f3, f4, f5⟩
          · exact Or.inl (w2.trans z)
          · have fn := ne f (by rw [f4]; decide)
            exact Or.inr ⟨f, f1, w2.trans f3, by rw [u_ne fn]; exact f4, by rw [u_ne fn]; exact f5⟩
/-- the frame g becomes an empty table at entry i of the root of s -/
theorem RP_table {o w ro eo : Nat → Int32} {s r i g : Nat} (h : RP o w ro eo) (hs : s < 4) (hr : r < 64) (hro : ro s = nI (r + 1)) (or : o r = 1) (hi : i < 16) (h0 : w (16 * r + i) = 0) (hg : g < 64) (og : o g = 0) :
    RPx g (upd o g 1) (upd (zw w g) (16 * r + i) (nI (g + 1))) ro eo := by
  obtain ⟨⟨K, h⟩, po⟩ := h
  have ne : ∀ q, ¬ o q = 0 → ¬ q = g := fun q hq y => hq (by rw [y]; exact og)
  have rg := ne r (by rw [or]; decide)
  have Kr : K r = s := by
    rcases h s hs with z | ⟨r', a, b, c, d, e⟩
    · rw [hro] at z; exact absurd ((nI_eq (b := 0) (by omega) (by omega)).mp z) (by omega)
    · have er : r' = r := by have := (nI_eq (by omega) (by omega)).mp (hro.symm.trans b); omega
      rw [← er]; exact d
  have wd : ∀ q k, ¬ q = g → k < 16 → ¬ 16 * q + k = 16 * r + i → upd (zw w g) (16 * r + i) (nI (g + 1)) (16 * q + k) = w (16 * q + k) := fun q k hq hk hne => by
    rw [u_ne hne, zw_ne hq hk]
  refine ⟨⟨kU K g (16 + 16 * s + i), fun s' hs' => ?_⟩, fun q hq q4 => ?_⟩
  rotate_left
  · obtain ⟨s', r', i', t', j', a1, a2, a3, a4, a5, a6, a7, a8, a9, a10⟩ := po q hq (u_4 (by decide) q4)
    have rn := ne r' (by rw [a9]; decide)
    have tn := ne t' (by rw [a10]; decide)
    have nz : ∀ k, k < 64 → ¬ nI (k + 1) = (0 : Int32) := fun k hk y => absurd ((nI_eq (b := 0) (by omega) (by omega)).mp y) (by omega)
    exact ⟨s', r', i', t', j', a1, a2, a3, a4, a5, a6, by rw [wd r' i' rn a3 (fun y => by rw [y, h0] at a7; exact nz t' a4 a7.symm)]; exact a7, by rw [wd t' j' tn a5 (fun y => by rw [y, h0] at a8; exact nz q hq a8.symm)]; exact a8, by rw [u_ne rn]; exact a9, by rw [u_ne tn]; exact a10⟩
  rcases h s' hs' with z | ⟨r', a, b, c, d, e⟩
  · exact Or.inl z
  · have rn := ne r' (by rw [c]; decide)
    refine Or.inr ⟨r', a, b, by rw [u_ne rn]; exact c, by rw [kU_n rn]; exact d, fun i' hi' => ?_⟩
    by_cases y : r' = r ∧ i' = i
    · obtain ⟨y1, y2⟩ := y
      subst y1
      subst y2
      have es : s' = s := by rw [← d, Kr]
      subst es
      refine Or.inr ⟨g, hg, u_eq, u_eq, kU_e, Or.inl rfl, fun j hj => Or.inl ?_⟩
      rw [u_ne (by omega), zw_eq hj]
    · have w1 := wd r' i' rn hi' (by omega)
      rcases e i' hi' with z | ⟨t', a2, b2, c2, d2, ⟨k, k1, k2⟩, f2⟩
      · exact Or.inl (w1.trans z)
      · have tn := ne t' (by rw [c2]; decide)
        have tr : ¬ t' = r := fun v => by rw [v, Kr] at d2; omega
        refine Or.inr ⟨t', a2, w1.trans b2, by rw [u_ne tn]; exact c2, by rw [kU_n tn]; exact d2, Or.inr ⟨k, k1, by rw [wd t' k tn k1 (by omega)]; exact k2⟩, fun j' hj' => ?_⟩
        have w2 := wd t' j' tn hj' (by omega)
        rcases f2 j' hj' with z | ⟨f, f1, f3, f4, f5⟩
        · exact Or.inl (w2.trans z)
        · have fn := ne f (by rw [f4]; decide)
          exact Or.inr ⟨f, f1, w2.trans f3, by rw [u_ne fn]; exact f4, f5⟩
/-- the relation, spaces set aside -/
def RELs (σ : CS) (τ : MS) : Prop :=
  gc_o σ = gm_o τ ∧ FB (gc_o σ) (gc_fb σ) ∧ (∀ j, j < 1024 → ¬ gm_o τ (j / 16) = 0 → gc_w σ j = gm_w τ j) ∧ RS σ τ ∧
  (gc_en σ = gm_en τ ∧ gc_ln σ = gm_ln τ ∧ EN (gm_o τ) (gm_en τ) (gm_ln τ)) ∧ (gc_rl σ = gm_rl τ ∧ UN (gm_o τ) (gm_rl τ)) ∧ (gc_ro σ = gm_ro τ ∧ gc_rg σ = gm_rg τ) ∧ gc_mv σ = gm_mv τ
theorem RELs_of {σ : CS} {τ : MS} (h : REL σ τ) : RELs σ τ := ⟨h.1, h.2.1, h.2.2.1, h.2.2.2.1, h.2.2.2.2.1, h.2.2.2.2.2.1, ⟨h.2.2.2.2.2.2.1.1, h.2.2.2.2.2.2.1.2.1⟩, h.2.2.2.2.2.2.2⟩
theorem REL_mk {σ : CS} {τ : MS} (h : RELs σ τ) (hp : RP (gm_o τ) (gm_w τ) (gm_ro τ) (gc_eo σ)) : REL σ τ := by
  obtain ⟨a, b, c, d, e, f, ⟨g1, g2⟩, i⟩ := h
  exact ⟨a, b, c, d, e, f, ⟨g1, g2, hp⟩, i⟩
theorem RELs_give {σ : CS} {τ : MS} (h : RELs σ τ) {f : Nat} (hf : f < 64) (h0 : gm_o τ f = 0) {v : Int32} (hv : ¬ v = 0) (hv2 : ¬ v = 2) : RELs (gv σ f v) (ow τ f v) := by
  obtain ⟨ho, hF, hw, hS, ⟨e1, e2, e3⟩, ⟨u1, u2⟩, r1, hm⟩ := h
  have keep : ∀ g, ∀ c : Int32, ¬ c = 0 → gm_o τ g = c → upd (gm_o τ) f v g = c := fun g c hc hg => by
    by_cases z : g = f
    · rw [z, h0] at hg; exact absurd hg.symm hc
    · rw [u_ne z]; exact hg
  refine ⟨?_, FB_give hF hf hv, ?_, ?_, ⟨e1, e2, EN_mono e3 (fun g _ hg => keep g 3 (by decide) hg)⟩, ⟨u1, UN_mono u2 (fun g _ hg => keep g 5 (by decide) hg)⟩, r1, hm⟩
  · show upd (gc_o σ) f v = upd (gm_o τ) f v
    rw [ho]
  · intro j hj hne
    show zw (gc_w σ) f j = zw (gm_w τ) f j
    have hne : ¬ upd (gm_o τ) f v (j / 16) = 0 := hne
    rw [zw_at, zw_at]
    by_cases z : j / 16 = f
    · rw [if_pos z, if_pos z]
    · rw [if_neg z, if_neg z]
      rw [u_ne z] at hne
      exact hw j hj hne
  · intro g hg
    obtain ⟨s1, s2⟩ := hS g hg
    refine ⟨fun z => ?_, fun z => ?_⟩
    · have z : upd (gm_o τ) f v g = 2 := z
      by_cases y : g = f
      · rw [y, u_eq] at z; exact absurd z hv2
      · rw [u_ne y] at z; exact s1 z
    · have z : ¬ upd (gm_o τ) f v g = 2 := z
      by_cases y : g = f
      · exact s2 (by rw [y, h0]; decide)
      · rw [u_ne y] at z; exact s2 z
/-- a word is written on both sides, and entryOf as it likes -/
theorem RELs_w {σ : CS} {τ : MS} (h : RELs σ τ) (a : Nat) (v : Int32) (eo : Nat → Int32) : RELs (sc_eo (sc_w σ (upd (gc_w σ) a v)) eo) (sm_w τ (upd (gm_w τ) a v)) := by
  obtain ⟨ho, hF, hw, r⟩ := h
  refine ⟨ho, hF, fun j hj hne => ?_, r⟩
  show upd (gc_w σ) a v j = upd (gm_w τ) a v j
  by_cases z : j = a
  · rw [z, u_eq, u_eq]
  · rw [u_ne z, u_ne z]; exact hw j hj hne
