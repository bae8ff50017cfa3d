/-! ===== contig: a page moves, the two sides ===== -/
/-- the first m words of g are those of f -/
def cpw (w : Nat → Int32) (f g m : Nat) : Nat → Int32 := fun j => if 16 * g ≤ j ∧ j < 16 * g + m then w (16 * f + (j - 16 * g)) else w j
theorem cpw_0 (w : Nat → Int32) (f g : Nat) : cpw w f g 0 = w := by
  funext j
  exact if_neg (by omega)
theorem cpw_s (w : Nat → Int32) (f g m : Nat) : upd (cpw w f g m) (16 * g + m) (w (16 * f + m)) = cpw w f g (m + 1) := by
  funext j
  unfold upd cpw
  by_cases e : j = 16 * g + m
  · rw [if_pos e, if_pos (by omega), e, show 16 * g + m - 16 * g = m by omega]
  · rw [if_neg e]
    by_cases z : 16 * g ≤ j ∧ j < 16 * g + m
    · rw [if_pos z, if_pos (by omega)]
    · rw [if_neg z, if_neg (by omega)]
theorem cpw_ne (w : Nat → Int32) {f g m q k : Nat} (hq : ¬ q = g) (hm : m ≤ 16) (hk : k < 16) : cpw w f g m (16 * q + k) = w (16 * q + k) := if_neg (by omega)
theorem cpw_at (w : Nat → Int32) {f g k : Nat} (hk : k < 16) : cpw w f g 16 (16 * g + k) = w (16 * f + k) := by
  unfold cpw
  rw [if_pos (by omega), show 16 * g + k - 16 * g = k by omega]
theorem c_cpl {f g : Nat} (hf : f < 64) (hg : g < 64) (hfg : ¬ f = g) (w : Nat → Int32) (N : Nat) : ∀ (m : Nat) (σ : CS), m ≤ 16 → 16 - m < N → gc_w σ = cpw w f g m → mc_Frames_copyWords_l2 N (nI f) (nI g) (nI m) σ = some (sc_w σ (cpw w f g 16)) := by
  induction N with
  | zero => intro m σ _ h; exact absurd h (Nat.not_lt_zero _)
  | succ N ih =>
    intro m σ hm hN hw
    show mc_Frames_copyWords_b2 (mc_Frames_copyWords_l2 N) (nI f) (nI g) (nI m) σ = _
    unfold mc_Frames_copyWords_b2
    by_cases e : m = 16
    · subst e
      rw [if_pos (show (16 : Int32) ≤ nI 16 by decide), ← hw]
    · rw [if_neg (show ¬ (16 : Int32) ≤ nI m from fun z => absurd ((nI_leI (a := 16) (by omega) (by omega)).mp z) (by omega)), e16, e16, c_rd σ (show 16 * f + m < 1024 by omega), cp_r, c_wr σ (show 16 * g + m < 1024 by omega), cv_r, nI_1, hw, cpw_ne w hfg hm (show m < 16 by omega), cpw_s]
      exact ih (m + 1) (sc_w σ (cpw w f g (m + 1))) (by omega) (by omega) rfl
theorem m_cpl {f g : Nat} (hf : f < 64) (hg : g < 64) (hfg : ¬ f = g) (w : Nat → Int32) (N : Nat) : ∀ (m : Nat) (τ : MS), m ≤ 16 → 16 - m < N → gm_w τ = cpw w f g m → mm_moveOut_l47 N (nI f) (nI g) (nI m) τ = mm_moveOut_b85 (nI f) (nI g) (sm_w τ (cpw w f g 16)) := by
  induction N with
  | zero => intro m τ _ h; exact absurd h (Nat.not_lt_zero _)
  | succ N ih =>
    intro m τ hm hN hw
    show mm_moveOut_b47 (mm_moveOut_l47 N) (nI f) (nI g) (nI m) τ = _
    unfold mm_moveOut_b47
    by_cases e : m = 16
    · subst e
      rw [if_pos (show (16 : Int32) ≤ nI 16 by decide), ← hw]
    · rw [if_neg (show ¬ (16 : Int32) ≤ nI m from fun z => absurd ((nI_leI (a := 16) (by omega) (by omega)).mp z) (by omega)), e16', e16', gi_n (show 16 * f + m < 1024 by omega) (by omega), gi_n (show 16 * g + m < 1024 by omega) (by omega), nI_clamp (n := 16 * f + m) (by omega), nI_clamp (n := 16 * g + m) (by omega), wr_r, nI_1, hw, cpw_ne w hfg hm (show m < 16 by omega), cpw_s]
      exact ih (m + 1) (sm_w τ (cpw w f g (m + 1))) (by omega) (by omega) rfl
def mvC (σ : CS) (f g e : Nat) : CS := sc_eo (sc_w (fr (sc_w (gv σ g 4) (cpw (zw (gc_w σ) g) f g 16)) f) (upd (cpw (zw (gc_w σ) g) f g 16) e (nI (g + 1)))) (upd (gc_eo σ) g (nI e))
theorem c_mvp (σ : CS) {f g e : Nat} (hf : f < 64) (hg : g < 64) (hfg : ¬ f = g) (he : e < 1024) (heo : gc_eo σ f = nI e) : mc_Spaces_movePage σ (nI f) (nI g) = some (mvC σ f g e) := by
  unfold mc_Spaces_movePage
  have w := c_cpl hf hg hfg (zw (gc_w σ) g) FU 0 (gv σ g 4) (by omega) (by decide) (cpw_0 _ f g).symm
  have w : mc_Frames_copyWords (gv σ g 4) (nI f) (nI g) = some (sc_w (gv σ g 4) (cpw (zw (gc_w σ) g) f g 16)) := w
  rw [isF hf, cp_r, if_neg (by decide), isF hg, cp_r, if_neg (by decide), c_gt σ hg, cv_r, w, cv_r, c_mf _ hf, cv_r, gi_n hf (by omega), nI_clamp (n := f) (by omega)]
  show mi_cv (mc_Spaces_link (fr (sc_w (gv σ g 4) (cpw (zw (gc_w σ) g) f g 16)) f) (gc_eo σ f) (nI g)) _ = _
  rw [heo, c_link _ he hg, cv_r]
  rfl
def mvM (τ : MS) (f g e : Nat) : MS := sm_mv (sm_w (sm_o τ (upd (gm_o τ) g 4)) (upd (cpw (gm_w τ) f g 16) e (nI (g + 1)))) (gm_mv τ + 1)
theorem m_mvo {K : Nat → Nat} {eo : Nat → Int32} {τ : MS} {f g s r i t j : Nat} (h : RPk K (gm_o τ) (gm_w τ) (gm_ro τ) eo) (po : PO (gm_o τ) (gm_w τ) (gm_ro τ)) (hf : f < 64) (hg : g < 64) (og : gm_o τ g = 0) (p : PT (gm_o τ) (gm_w τ) (gm_ro τ) f s r i t j) :
    mm_moveOut_b36 (nI f) (nI g) τ = some (mvM τ f g (16 * t + j)) := by
  obtain ⟨kr, kt, of, ef⟩ := PT_k h hf p
  have p0 := p
  obtain ⟨a1, a2, a3, a4, a5, a6, a7, a8, a9, a10⟩ := p
  have fg : ¬ f = g := fun y => by rw [← y, of] at og; exact absurd og (by decide)
  have ng : ∀ q, gm_o τ q = 1 → ¬ q = g := fun q hq y => by rw [y, og] at hq; exact absurd hq (by decide)
  have rt : ¬ r = t := fun y => by rw [y, kt] at kr; omega
  have w := m_cpl hf hg fg (gm_w τ) FU 0 (sm_o τ (upd (gm_o τ) g 4)) (by omega) (by decide) (cpw_0 _ f g).symm
  have w : mm_moveOut_l47 FU (nI f) (nI g) (0 : Int32) (sm_o τ (upd (gm_o τ) g 4)) = mm_moveOut_b85 (nI f) (nI g) (sm_w (sm_o τ (upd (gm_o τ) g 4)) (cpw (gm_w τ) f g 16)) := w
  unfold mm_moveOut_b36
  rw [gi_n hg (by omega), nI_clamp (n := g) (by omega), wr_r, w]
  have hwπ : ∀ q k, q < 64 → k < 16 → gm_o τ q = 1 → cpw (gm_w τ) f g 16 (16 * q + k) = gm_w τ (16 * q + k) := fun q k _ hk hq => cpw_ne _ (ng q hq) (by omega) hk
  have w2 : ∀ q k, q < 64 → k < 16 → gm_o τ q = 1 → ¬ 16 * q + k = 16 * t + j → upd (cpw (gm_w τ) f g 16) (16 * t + j) (nI (g + 1)) (16 * q + k) = gm_w τ (16 * q + k) := fun q k h1 h2 h3 h4 => by
    rw [u_ne h4]; exact hwπ q k h1 h2 h3
  have hM := RP_move (w' := upd (cpw (gm_w τ) f g 16) (16 * t + j) (nI (g + 1))) h po hf hg og p0 w2 u_eq
  have hren : mm_rename (sm_w (sm_o τ (upd (gm_o τ) g 4)) (cpw (gm_w τ) f g 16)) (nI f) (nI g) = some (sm_w (sm_o τ (upd (gm_o τ) g 4)) (upd (cpw (gm_w τ) f g 16) (16 * t + j) (nI (g + 1)))) := by
    have e1 : gm_w (sm_w (sm_o τ (upd (gm_o τ) g 4)) (cpw (gm_w τ) f g 16)) (16 * r + (16 * i + j) / 16) = nI (t + 1) := by
      show cpw (gm_w τ) f g 16 _ = _
      rw [show (16 * i + j) / 16 = i by omega, hwπ r i a2 a3 a9]; exact a7
    have e2 : gm_w (sm_w (sm_o τ (upd (gm_o τ) g 4)) (cpw (gm_w τ) f g 16)) (16 * t + (16 * i + j) % 16) = nI (f + 1) := by
      show cpw (gm_w τ) f g 16 _ = _
      rw [show (16 * i + j) % 16 = j by omega, hwπ t j a4 a5 a10]; exact a8
    have en := en_w (τ := sm_w (sm_o τ (upd (gm_o τ) g 4)) (cpw (gm_w τ) f g 16)) a1 (show 16 * i + j < 256 by omega) a2 a6 e1
    rw [show 16 * t + (16 * i + j) % 16 = 16 * t + j by omega] at en
    refine rn_all (p := 16 * i + j) a1 (by omega) (show 16 * t + j < 1024 by omega) (sm_w (sm_o τ (upd (gm_o τ) g 4)) (cpw (gm_w τ) f g 16)) ?_ (fo_w a1 (by omega) a2 a4 a6 e1 e2) en ?_ ?_ FU s 0 (by omega) (by decide)
    · show ¬ gm_ro τ s ≤ 0
      rw [a6]; exact nI_nle (by omega) (by omega)
    · intro x q hx hq hne
      rcases nf_k (τ := sm_w (sm_o τ (upd (gm_o τ) g 4)) (cpw (gm_w τ) f g 16)) h rfl hwπ hx hq with z | ⟨z, v, v1, v2⟩
      · exact Or.inl z
      · refine Or.inr ⟨z, v, v1, fun y => ?_⟩
        rcases v2 with v2 | ⟨g', t', b1, b2, b3, b4, b5, b6, -⟩
        · rw [v2] at y; exact n_ne (by omega) y.symm
        · have eg : g' = f := (nI_eq (by omega) (by omega)).mp (b3.symm.trans y)
          rw [eg, ef] at b6
          have := (nI_eq (by omega) (by omega)).mp b6
          have et : t' = t := by omega
          rw [et, kt] at b5
          exact hne (by omega)
    · intro x q hx hq
      rcases nf_k (τ := sm_w (sm_o τ (upd (gm_o τ) g 4)) (upd (cpw (gm_w τ) f g 16) (16 * t + j) (nI (g + 1)))) hM.1 rfl (fun _ _ _ _ _ => rfl) hx hq with z | ⟨z, v, v1, v2⟩
      · exact Or.inl z
      · refine Or.inr ⟨z, v, v1, fun y => ?_⟩
        rcases v2 with v2 | ⟨g', t', b1, b2, b3, b4, -⟩
        · rw [v2] at y; exact n_ne (by omega) y.symm
        · have eg : g' = f := (nI_eq (by omega) (by omega)).mp (b3.symm.trans y)
          rw [eg, u_eq] at b4
          exact absurd b4 (by decide)
  unfold mm_moveOut_b85
  rw [hren, cv_r, wr_r]
  rfl
/-- free, and not in the block -/
def ou (o : Nat → Int32) (b n : Nat) : Nat → Bool := fun g => decide (o g = 0) && !(decide (b ≤ g) && decide (g < b + n))
theorem ou_t {o : Nat → Int32} {b n g : Nat} (h0 : o g = 0) (hb : ¬ (b ≤ g ∧ g < b + n)) : ou o b n g = true := by
  unfold ou
  rw [decide_eq_true h0]
  by_cases z : b ≤ g
  · rw [decide_eq_true z, decide_eq_false (fun y => hb ⟨z, y⟩)]; rfl
  · rw [decide_eq_false z]; rfl
theorem ou_f {o : Nat → Int32} {b n g : Nat} (h : ¬ o g = 0 ∨ (b ≤ g ∧ g < b + n)) : ou o b n g = false := by
  unfold ou
  rcases h with h | ⟨h1, h2⟩
  · rw [decide_eq_false h]; rfl
  · rw [decide_eq_true h1, decide_eq_true h2]
    cases decide (o g = 0) <;> rfl
theorem ou_of {o : Nat → Int32} {b n g : Nat} (h : ou o b n g = true) : o g = 0 ∧ ¬ (b ≤ g ∧ g < b + n) := by
  refine ⟨Decidable.byContradiction (fun z => ?_), fun z => ?_⟩
  · rw [ou_f (Or.inl z)] at h; cases h
  · rw [ou_f (Or.inr z)] at h; cases h
theorem c_lfl (σ : CS) {b n : Nat} (hbn : b + n ≤ 64) (N : Nat) : ∀ g, g ≤ 64 → 64 - g < N → mc_Runs_lowestFreeOutside_l2 N (nI b) (nI n) (nI g) σ = some (o2 (fp (ou (gc_o σ) b n) g (64 - g))) := by
  induction N with
  | zero => intro g _ h; exact absurd h (Nat.not_lt_zero _)
  | succ N ih =>
    intro g hg hN
    show mc_Runs_lowestFreeOutside_b2 (mc_Runs_lowestFreeOutside_l2 N) (nI b) (nI n) (nI g) σ = _
    unfold mc_Runs_lowestFreeOutside_b2 mc_Runs_lowestFreeOutside_b24 mc_Runs_lowestFreeOutside_b25
    by_cases e : g = 64
    · subst e
      rw [if_pos (show (64 : Int32) ≤ nI 64 by decide)]
      rfl
    · rw [if_neg (show ¬ (64 : Int32) ≤ nI g from fun z => absurd ((nI_leI (a := 64) (by omega) (by omega)).mp z) (by omega)), nI_add, if_pos (show (0 : Int32) = 0 from rfl), if_neg (show ¬ (1 : Int32) = 0 by decide), c_ow σ (show g < 64 by omega), cp_r, nI_1, ih (g + 1) (by omega) (by omega)]
      rw [show 64 - g = (64 - (g + 1)) + 1 by omega]
      show _ = some (o2 (if ou (gc_o σ) b n g then some g else fp (ou (gc_o σ) b n) (g + 1) (64 - (g + 1))))
      by_cases z : b ≤ g ∧ g < b + n
      · rw [ou_f (Or.inr z), if_neg (fun y => absurd ((nI_ltI (by omega) (by omega)).mp y) (by omega)), if_neg (fun y => absurd ((nI_leI (by omega) (by omega)).mp y) (by omega)), if_neg (by decide)]
      · have inn : ∀ X Y : Option Int32, (if nI g < nI b then X else if nI (b + n) ≤ nI g then X else Y) = X := fun X Y => by
          by_cases y : g < b
          · rw [if_pos ((nI_ltI (by omega) (by omega)).mpr y)]
          · rw [if_neg (fun v => y ((nI_ltI (by omega) (by omega)).mp v)), if_pos ((nI_leI (by omega) (by omega)).mpr (by omega))]
        rw [inn]
        by_cases v : gc_o σ g = 0
        · rw [if_pos v, ou_t v z, if_pos rfl]; rfl
        · rw [if_neg v, ou_f (Or.inl v), if_neg (by decide)]
theorem c_lf (σ : CS) {b n : Nat} (hbn : b + n ≤ 64) : mc_Runs_lowestFreeOutside σ (nI b) (nI n) = some (o2 (fp (ou (gc_o σ) b n) 0 64)) :=
  c_lfl σ hbn FU 0 (by omega) (by decide)
theorem m_mol (τ : MS) {f b n c : Nat} (hbn : b + n ≤ 64) (hc : c < 64) (ht : ou (gm_o τ) b n c = true) (N : Nat) : ∀ d g, g + d = c → (∀ x, g ≤ x → x < c → ou (gm_o τ) b n x = false) → mm_moveOut_l3 (N + d + 1) (nI f) (nI b) (nI n) (nI g) τ = mm_moveOut_b36 (nI f) (nI c) τ := by
  intro d
  induction d with
  | zero =>
    intro g hg _
    have : g = c := by omega
    subst this
    obtain ⟨z, y⟩ := ou_of ht
    show mm_moveOut_b3 (mm_moveOut_l3 N) (nI f) (nI b) (nI n) (nI g) τ = _
    unfold mm_moveOut_b3
    rw [gi_n hc (by omega), nI_clamp (by omega), if_pos z, nI_add]
    by_cases v : g < b
    · rw [if_pos ((nI_ltI (by omega) (by omega)).mpr v)]
    · rw [if_neg (fun u => v ((nI_ltI (by omega) (by omega)).mp u)), if_pos ((nI_leI (by omega) (by omega)).mpr (by omega))]
  | succ d ih =>
    intro g hg hn
    show mm_moveOut_b3 (mm_moveOut_l3 (N + d + 1)) (nI f) (nI b) (nI n) (nI g) τ = _
    unfold mm_moveOut_b3
    rw [gi_n (show g < 64 by omega) (by omega), nI_clamp (by omega), nI_add, nI_1, ih (g + 1) (by omega) (fun x a c => hn x (by omega) c)]
    have hx := hn g (Nat.le_refl _) (by omega)
    by_cases z : gm_o τ g = 0
    · rw [if_pos z]
      by_cases y : b ≤ g ∧ g < b + n
      · rw [if_neg (fun v => absurd ((nI_ltI (by omega) (by omega)).mp v) (by omega)), if_neg (fun v => absurd ((nI_leI (by omega) (by omega)).mp v) (by omega))]
      · rw [ou_t z y] at hx; cases hx
    · rw [if_neg z]
theorem m_mo (τ : MS) {f b n c : Nat} (hbn : b + n ≤ 64) (h : fp (ou (gm_o τ) b n) 0 64 = some c) : mm_moveOut τ (nI f) (nI b) (nI n) = mm_moveOut_b36 (nI f) (nI c) τ := by
  obtain ⟨-, h2, h3, h4⟩ := fp_lt _ _ 0 c h
  have w := m_mol τ (f := f) hbn (show c < 64 by omega) h3 (299 - c) c 0 (by omega) (fun x _ b => h4 x (by omega) b)
  rw [show 299 - c + c + 1 = FU by show _ = 300; omega] at w
  exact w
