/-! ===== contig: a page moves ===== -/
theorem nz1 {k : Nat} (hk : k < 1024) : ¬ nI (k + 1) = (0 : Int32) := fun y => absurd ((nI_eq (b := 0) (by omega) (by omega)).mp y) (by omega)
theorem n1_i {a b : Nat} (ha : a < 1024) (hb : b < 1024) (h : nI (a + 1) = nI (b + 1)) : a = b := by
  have := (nI_eq (by omega) (by omega)).mp h
  omega
/-- the spaces, with their ghost K -/
def RPk (K : Nat → Nat) (o w ro eo : Nat → Int32) : Prop := ∀ s, s < 4 → ro s = 0 ∨ ∃ r, r < 64 ∧ ro s = nI (r + 1) ∧ o r = 1 ∧ K r = s ∧ ∀ i, i < 16 → RPt K o w eo s r i
theorem PT_k {K : Nat → Nat} {o w ro eo : Nat → Int32} {f s r i t j : Nat} (h : RPk K o w ro eo) (hf : f < 64) (p : PT o w ro f s r i t j) : K r = s ∧ K t = 16 + 16 * s + i ∧ o f = 4 ∧ eo f = nI (16 * t + j) := by
  obtain ⟨a1, a2, a3, a4, a5, a6, a7, a8, a9, a10⟩ := p
  rcases h s a1 with z | ⟨r', b1, b2, b3, b4, b5⟩
  · rw [a6] at z; exact absurd z (nz1 (by omega))
  · have er : r' = r := n1_i (by omega) (by omega) (b2.symm.trans a6)
    subst er
    rcases b5 i a3 with z | ⟨t', c1, c2, c3, c4, c5, c6⟩
    · rw [a7] at z; exact absurd z (nz1 (by omega))
    · have et : t' = t := n1_i (by omega) (by omega) (c2.symm.trans a7)
      subst et
      rcases c6 j a5 with z | ⟨g, d1, d2, d3, d4⟩
      · rw [a8] at z; exact absurd z (nz1 (by omega))
      · have eg : g = f := n1_i (by omega) (by omega) (d2.symm.trans a8)
        subst eg
        exact ⟨b4, c4, d3, d4⟩
/-- the page f moves to the free frame g -/
theorem RP_move {K : Nat → Nat} {o w w' ro eo : Nat → Int32} {f g s r i t j : Nat} (h : RPk K o w ro eo) (po : PO o w ro) (hf : f < 64) (hg : g < 64) (og : o g = 0) (p : PT o w ro f s r i t j)
    (hw : ∀ q k, q < 64 → k < 16 → o q = 1 → ¬ 16 * q + k = 16 * t + j → w' (16 * q + k) = w (16 * q + k)) (hx : w' (16 * t + j) = nI (g + 1)) :
    RPk K (upd (upd o g 4) f 5) w' ro (upd eo g (nI (16 * t + j))) ∧ PO (upd (upd o g 4) f 5) w' ro := by
  obtain ⟨kr, kt, of, ef⟩ := PT_k h hf p
  have p0 := p
  obtain ⟨a1, a2, a3, a4, a5, a6, a7, a8, a9, a10⟩ := p
  have gf : ¬ g = f := fun y => by rw [y, of] at og; exact absurd og (by decide)
  have k1 : ∀ q, o q = 1 → upd (upd o g 4) f 5 q = 1 := fun q hq => by
    rw [u_ne (fun y => by rw [y, of] at hq; exact absurd hq (by decide)), u_ne (fun y => by rw [y, og] at hq; exact absurd hq (by decide))]
    exact hq
  have og4 : upd (upd o g 4) f 5 g = 4 := by rw [u_ne gf, u_eq]
  refine ⟨fun s' hs' => ?_, fun q hq q4 => ?_⟩
  · rcases h s' hs' with z | ⟨r', b1, b2, b3, b4, b5⟩
    · exact Or.inl z
    · have rt : ¬ r' = t := fun y => by rw [y, kt] at b4; omega
      refine Or.inr ⟨r', b1, b2, k1 r' b3, b4, fun i' hi' => ?_⟩
      have w1 := hw r' i' b1 hi' b3 (by omega)
      rcases b5 i' hi' with z | ⟨t', c1, c2, c3, c4, ⟨x, x1, x2⟩, c6⟩
      · exact Or.inl (w1.trans z)
      · refine Or.inr ⟨t', c1, w1.trans c2, k1 t' c3, c4, ⟨x, x1, ?_⟩, fun j' hj' => ?_⟩
        · by_cases y : 16 * t' + x = 16 * t + j
          · rw [y, hx]; exact nz1 (by omega)
          · rw [hw t' x c1 x1 c3 y]; exact x2
        · by_cases y : 16 * t' + j' = 16 * t + j
          · refine Or.inr ⟨g, hg, ?_, og4, ?_⟩
            · rw [y]; exact hx
            · rw [u_eq, y]
          · have w2 := hw t' j' c1 hj' c3 y
            rcases c6 j' hj' with z | ⟨q, d1, d2, d3, d4⟩
            · exact Or.inl (w2.trans z)
            · have qf : ¬ q = f := fun v => by
                rw [v, ef] at d4
                exact y ((nI_eq (by omega) (by omega)).mp d4).symm
              have qg : ¬ q = g := fun v => by rw [v, og] at d3; exact absurd d3 (by decide)
              exact Or.inr ⟨q, d1, w2.trans d2, by rw [u_ne qf, u_ne qg]; exact d3, by rw [u_ne qg]; exact d4⟩
  · have rt : ¬ r = t := fun y => by rw [y, kt] at kr; omega
    by_cases y : q = g
    · subst y
      exact ⟨s, r, i, t, j, a1, a2, a3, a4, a5, a6, by rw [hw r i a2 a3 a9 (by omega)]; exact a7, hx, k1 r a9, k1 t a10⟩
    · have qf : ¬ q = f := fun v => by rw [v, u_eq] at q4; exact absurd q4 (by decide)
      rw [u_ne qf, u_ne y] at q4
      obtain ⟨s', r', i', t', j', b⟩ := po q hq q4
      have k2 := PT_k h hq b
      obtain ⟨b1, b2, b3, b4, b5, b6, b7, b8, b9, b10⟩ := b
      have rt' : ¬ r' = t := fun v => by have := k2.1; rw [v, kt] at this; omega
      exact ⟨s', r', i', t', j', b1, b2, b3, b4, b5, b6, by rw [hw r' i' b2 b3 b9 (by omega)]; exact b7, by rw [hw t' j' b4 b5 b10 (fun v => by rw [v, a8] at b8; exact qf (n1_i (by omega) (by omega) b8).symm)]; exact b8, k1 r' b9, k1 t' b10⟩
/-- what the reference sees of a page, by the spaces' rows -/
theorem nf_k {K : Nat → Nat} {o w ro eo : Nat → Int32} {τ : MS} (h : RPk K o w ro eo) (hro : gm_ro τ = ro) (hw : ∀ q k, q < 64 → k < 16 → o q = 1 → gm_w τ (16 * q + k) = w (16 * q + k)) {s p : Nat} (hs : s < 4) (hp : p < 256) :
    gm_ro τ s ≤ 0 ∨ (¬ gm_ro τ s ≤ 0 ∧ ∃ v, mm_frameOf τ (nI s) (nI p) = some v ∧ (v = -1 ∨ ∃ g t, g < 64 ∧ t < 64 ∧ v = nI g ∧ o g = 4 ∧ K t = 16 + 16 * s + p / 16 ∧ eo g = nI (16 * t + p % 16) ∧ mm_entry τ (nI s) (nI p) = some (nI (16 * t + p % 16)))) := by
  rcases h s hs with z | ⟨r, b1, b2, b3, b4, b5⟩
  · rw [hro, z]; exact Or.inl (by decide)
  · have e1 : gm_ro τ s = nI (r + 1) := by rw [hro]; exact b2
    refine Or.inr ⟨by rw [e1]; exact nI_nle (by omega) (by omega), ?_⟩
    have w1 := hw r (p / 16) b1 (by omega) b3
    rcases b5 (p / 16) (by omega) with z | ⟨t, c1, c2, c3, c4, -, c6⟩
    · exact ⟨-1, m_f0 hs hp b1 e1 (w1.trans z), Or.inl rfl⟩
    · have e2 := w1.trans c2
      have w2 := hw t (p % 16) c1 (by omega) c3
      rcases c6 (p % 16) (by omega) with z | ⟨g, d1, d2, d3, d4⟩
      · exact ⟨-1, m_f1 hs hp b1 c1 e1 e2 (w2.trans z), Or.inl rfl⟩
      · exact ⟨nI g, fo_w hs hp b1 c1 e1 e2 (w2.trans d2), Or.inr ⟨g, t, d1, c1, rfl, d3, c4, d4, en_w hs hp b1 e1 e2⟩⟩
/-- page p of space s isn't f -/
def NF (τ : MS) (f s p : Nat) : Prop := gm_ro τ s ≤ 0 ∨ (¬ gm_ro τ s ≤ 0 ∧ ∃ v, mm_frameOf τ (nI s) (nI p) = some v ∧ ¬ v = nI f)
theorem rn_in (k2 : Int32 → Int32 → Int32 → MS → Option MS) {f g s : Nat} (hs : s < 4) (τ : MS) (N : Nat) : ∀ p, p ≤ 256 → 256 - p < N → (∀ q, p ≤ q → q < 256 → NF τ f s q) → mm_rename_l10 k2 N (nI f) (nI g) (nI s) (nI p) τ = k2 (nI f) (nI g) (nI (s + 1)) τ := by
  induction N with
  | zero => intro p _ h; exact absurd h (Nat.not_lt_zero _)
  | succ N ih =>
    intro p hp hN hn
    show mm_rename_b10 k2 (mm_rename_l10 k2 N) (nI f) (nI g) (nI s) (nI p) τ = _
    unfold mm_rename_b10
    by_cases e : p = 256
    · subst e
      rw [if_pos (show (256 : Int32) ≤ nI 256 by decide), nI_1]
    · rw [if_neg (show ¬ (256 : Int32) ≤ nI p from fun z => absurd ((nI_leI (a := 256) (by omega) (by omega)).mp z) (by omega)), gi_n hs (by omega), nI_clamp (by omega)]
      rcases hn p (Nat.le_refl _) (by omega) with z | ⟨z, v, v1, v2⟩
      · rw [if_pos z, nI_1]
      · rw [if_neg z, v1, cp_r, if_neg v2, nI_1]
        exact ih (p + 1) (by omega) (by omega) (fun q a b => hn q (by omega) b)
theorem rn_at (k2 : Int32 → Int32 → Int32 → MS → Option MS) {f g s p e : Nat} (hs : s < 4) (hp : p < 256) (he : e < 1024) (τ : MS) (h0 : ¬ gm_ro τ s ≤ 0) (hfo : mm_frameOf τ (nI s) (nI p) = some (nI f)) (hen : mm_entry τ (nI s) (nI p) = some (nI e)) (N : Nat) : ∀ d q, q + d = p → (∀ x, q ≤ x → x < p → NF τ f s x) →
    mm_rename_l10 k2 (N + d + 1) (nI f) (nI g) (nI s) (nI q) τ = mm_rename_l10 k2 N (nI f) (nI g) (nI s) (nI (p + 1)) (sm_w τ (upd (gm_w τ) e (nI (g + 1)))) := by
  intro d
  induction d with
  | zero =>
    intro q hq _
    have : q = p := by omega
    subst this
    show mm_rename_b10 k2 (mm_rename_l10 k2 N) (nI f) (nI g) (nI s) (nI q) τ = _
    unfold mm_rename_b10
    rw [if_neg (show ¬ (256 : Int32) ≤ nI q from fun z => absurd ((nI_leI (a := 256) (by omega) (by omega)).mp z) (by omega)), gi_n hs (by omega), nI_clamp (n := s) (by omega), if_neg h0, hfo, cp_r, if_pos rfl, hen, cp_r, gi_n he (by omega), nI_clamp (n := e) (by omega), wr_r, nI_1, n1_a]
  | succ d ih =>
    intro q hq hn
    show mm_rename_b10 k2 (mm_rename_l10 k2 (N + d + 1)) (nI f) (nI g) (nI s) (nI q) τ = _
    unfold mm_rename_b10
    rw [if_neg (show ¬ (256 : Int32) ≤ nI q from fun z => absurd ((nI_leI (a := 256) (by omega) (by omega)).mp z) (by omega)), gi_n hs (by omega), nI_clamp (n := s) (by omega), if_neg h0]
    rcases hn q (Nat.le_refl _) (by omega) with z | ⟨z, v, v1, v2⟩
    · exact absurd z h0
    · rw [v1, cp_r, if_neg v2, nI_1]
      exact ih (q + 1) (by omega) (fun x a b => hn x (by omega) b)
theorem rn_out {f g : Nat} (τ : MS) (N : Nat) : ∀ s, s ≤ 4 → 4 - s < N → (∀ x q, s ≤ x → x < 4 → q < 256 → NF τ f x q) → mm_rename_l2 N (nI f) (nI g) (nI s) τ = some τ := by
  induction N with
  | zero => intro s _ h; exact absurd h (Nat.not_lt_zero _)
  | succ N ih =>
    intro s hs hN hn
    show mm_rename_b2 (mm_rename_l2 N) (nI f) (nI g) (nI s) τ = _
    unfold mm_rename_b2
    by_cases e : s = 4
    · subst e
      rw [if_pos (show (4 : Int32) ≤ nI 4 by decide)]
    · rw [if_neg (show ¬ (4 : Int32) ≤ nI s from fun z => absurd ((nI_leI (a := 4) (by omega) (by omega)).mp z) (by omega))]
      have w := rn_in (mm_rename_l2 N) (f := f) (g := g) (show s < 4 by omega) τ FU 0 (by omega) (by decide) (fun q _ b => hn s q (Nat.le_refl _) (by omega) b)
      have w : mm_rename_l10 (mm_rename_l2 N) FU (nI f) (nI g) (nI s) (0 : Int32) τ = _ := w
      rw [w]
      exact ih (s + 1) (by omega) (by omega) (fun x q a b c => hn x q (by omega) b c)
theorem rn_all {f g s p e : Nat} (hs : s < 4) (hp : p < 256) (he : e < 1024) (τ : MS) (h0 : ¬ gm_ro τ s ≤ 0) (hfo : mm_frameOf τ (nI s) (nI p) = some (nI f)) (hen : mm_entry τ (nI s) (nI p) = some (nI e))
    (hb : ∀ x q, x < 4 → q < 256 → ¬ (x = s ∧ q = p) → NF τ f x q) (ha : ∀ x q, x < 4 → q < 256 → NF (sm_w τ (upd (gm_w τ) e (nI (g + 1)))) f x q) (N : Nat) : ∀ d y, y + d = s → 5 - y < N → mm_rename_l2 N (nI f) (nI g) (nI y) τ = some (sm_w τ (upd (gm_w τ) e (nI (g + 1)))) := by
  induction N with
  | zero => intro d y _ h; exact absurd h (Nat.not_lt_zero _)
  | succ N ih =>
    intro d y hy hN
    show mm_rename_b2 (mm_rename_l2 N) (nI f) (nI g) (nI y) τ = _
    unfold mm_rename_b2
    rw [if_neg (show ¬ (4 : Int32) ≤ nI y from fun z => absurd ((nI_leI (a := 4) (by omega) (by omega)).mp z) (by omega))]
    by_cases ey : y = s
    · subst ey
      have w := rn_at (mm_rename_l2 N) (f := f) (g := g) hs hp he τ h0 hfo hen (299 - p) p 0 (by omega) (fun x _ b => hb y x hs (by omega) (by omega))
      rw [show 299 - p + p + 1 = FU by show _ = 300; omega] at w
      have w : mm_rename_l10 (mm_rename_l2 N) FU (nI f) (nI g) (nI y) (0 : Int32) τ = _ := w
      rw [w, rn_in (mm_rename_l2 N) hs _ _ (p + 1) (by omega) (by omega) (fun q _ b => ha y q hs b)]
      exact rn_out _ N (y + 1) (by omega) (by omega) (fun x q _ b c => ha x q b c)
    · have w := rn_in (mm_rename_l2 N) (f := f) (g := g) (show y < 4 by omega) τ FU 0 (by omega) (by decide) (fun q _ b => hb y q (by omega) b (by omega))
      have w : mm_rename_l10 (mm_rename_l2 N) FU (nI f) (nI g) (nI y) (0 : Int32) τ = _ := w
      rw [w]
      exact ih (d - 1) (y + 1) (by omega) (by omega)
