/-! ===== giving and freeing a frame ===== -/
theorem nI_mu (a b : Nat) : nI a * nI b = nI (a * b) := (Int32.ofNat_mul a b).symm
/-- the words of frame f from its word i on are 0 -/
def zf (w : Nat → Int32) (f i : Nat) : Nat → Int32 := fun j => if 16 * f + i ≤ j ∧ j < 16 * f + 16 then 0 else w j
abbrev zw (w : Nat → Int32) (f : Nat) : Nat → Int32 := zf w f 0
theorem zf_16 (w : Nat → Int32) (f : Nat) : zf w f 16 = w := by
  funext j
  unfold zf
  rw [if_neg (by omega)]
theorem zf_s (w : Nat → Int32) {f i : Nat} (hi : i < 16) : zf (upd w (16 * f + i) 0) f (i + 1) = zf w f i := by
  funext j
  unfold zf upd
  by_cases h : j = 16 * f + i
  · rw [if_neg (by omega), if_pos h, if_pos (by omega)]
  · by_cases z : 16 * f + i ≤ j ∧ j < 16 * f + 16
    · rw [if_pos (by omega), if_pos z]
    · rw [if_neg (by omega), if_neg h, if_neg z]
theorem zw_at (w : Nat → Int32) {f j : Nat} : zw w f j = if j / 16 = f then 0 else w j := by
  unfold zw zf
  by_cases h : j / 16 = f
  · rw [if_pos h, if_pos (by omega)]
  · rw [if_neg h, if_neg (by omega)]
theorem c_gtl {f : Nat} (hf : f < 64) (N : Nat) : ∀ (i : Nat) (σ : CS), i ≤ 16 → 16 - i < N → mc_Frames_giveTo_l32 N (nI f) (nI i) σ = some (sc_w σ (zf (gc_w σ) f i)) := by
  induction N with
  | zero => intro i σ _ h; exact absurd h (Nat.not_lt_zero _)
  | succ N ih =>
    intro i σ hi hN
    show mc_Frames_giveTo_b32 (mc_Frames_giveTo_l32 N) (nI f) (nI i) σ = _
    unfold mc_Frames_giveTo_b32
    by_cases e : i = 16
    · subst e
      rw [if_pos (show (16 : Int32) ≤ nI 16 by decide), zf_16]
    · have h1 : i < 16 := by omega
      rw [if_neg (show ¬ (16 : Int32) ≤ nI i from fun z => absurd ((nI_leI (a := 16) (by omega) (by omega)).mp z) (by omega))]
      have e1 : nI f * (16 : Int32) + nI i = nI (16 * f + i) := by rw [show (16 : Int32) = nI 16 from rfl, nI_mu, nI_add, Nat.mul_comm]
      rw [e1, gi_n (by omega) (by omega), nI_clamp (by omega), nI_1]
      show mc_Frames_giveTo_l32 N (nI f) (nI (i + 1)) (sc_w σ (upd (gc_w σ) (16 * f + i) 0)) = _
      rw [ih (i + 1) _ (by omega) (by omega)]
      show some (sc_w σ (zf (upd (gc_w σ) (16 * f + i) 0) f (i + 1))) = _
      rw [zf_s _ h1]
theorem isF {f : Nat} (hf : f < 64) : mc_isFrame (nI f) = some 1 := by
  unfold mc_isFrame
  rw [if_neg (nI_pos (by omega)), if_neg (show ¬ (64 : Int32) ≤ nI f from fun z => absurd ((nI_leI (a := 64) (by omega) (by omega)).mp z) (by omega))]
abbrev gv (σ : CS) (f : Nat) (v : Int32) : CS := sc_w (sc_fb (sc_o σ (upd (gc_o σ) f v)) ((gc_fb σ) &&& (((1 : Int64) <<< ((nI f).toInt64 &&& 63)) ^^^ (-1 : Int64)))) (zw (gc_w σ) f)
theorem c_gt (σ : CS) {f : Nat} (hf : f < 64) (v : Int32) : mc_Frames_giveTo σ (nI f) v = some (gv σ f v) := by
  unfold mc_Frames_giveTo
  rw [isF hf, cp_r, if_neg (by decide), gi_n hf (by omega), nI_clamp (by omega)]
  exact c_gtl hf FU 0 _ (by omega) (by decide)
abbrev fr (σ : CS) (f : Nat) : CS := sc_fb (sc_o σ (upd (gc_o σ) f 0)) ((gc_fb σ) ||| ((1 : Int64) <<< ((nI f).toInt64 &&& 63)))
theorem c_mf (σ : CS) {f : Nat} (hf : f < 64) : mc_Frames_makeFree σ (nI f) = some (fr σ f) := by
  unfold mc_Frames_makeFree
  rw [isF hf, cp_r, if_neg (by decide), gi_n hf (by omega), nI_clamp (by omega)]
  rfl
theorem m_owl {f : Nat} (hf : f < 64) (N : Nat) : ∀ (i : Nat) (τ : MS), i ≤ 16 → 16 - i < N → mm_own_l9 N (nI f) (nI i) τ = some (sm_w τ (zf (gm_w τ) f i)) := by
  induction N with
  | zero => intro i σ _ h; exact absurd h (Nat.not_lt_zero _)
  | succ N ih =>
    intro i τ hi hN
    show mm_own_b9 (mm_own_l9 N) (nI f) (nI i) τ = _
    unfold mm_own_b9
    by_cases e : i = 16
    · subst e
      rw [if_pos (show (16 : Int32) ≤ nI 16 by decide), zf_16]
    · have h1 : i < 16 := by omega
      rw [if_neg (show ¬ (16 : Int32) ≤ nI i from fun z => absurd ((nI_leI (a := 16) (by omega) (by omega)).mp z) (by omega))]
      have e1 : (16 : Int32) * nI f + nI i = nI (16 * f + i) := by rw [show (16 : Int32) = nI 16 from rfl, nI_mu, nI_add]
      rw [e1, gi_n (by omega) (by omega), nI_clamp (by omega), nI_1]
      show mm_own_l9 N (nI f) (nI (i + 1)) (sm_w τ (upd (gm_w τ) (16 * f + i) 0)) = _
      rw [ih (i + 1) _ (by omega) (by omega)]
      show some (sm_w τ (zf (upd (gm_w τ) (16 * f + i) 0) f (i + 1))) = _
      rw [zf_s _ h1]
abbrev ow (τ : MS) (f : Nat) (v : Int32) : MS := sm_w (sm_o τ (upd (gm_o τ) f v)) (zw (gm_w τ) f)
theorem m_ow (τ : MS) {f : Nat} (hf : f < 64) (v : Int32) : mm_own τ (nI f) v = some (ow τ f v) := by
  unfold mm_own
  rw [gi_n hf (by omega), nI_clamp (by omega)]
  exact m_owl hf FU 0 _ (by omega) (by decide)
/-- both sides give the same frame -/
theorem g_give {σ : CS} {τ : MS} (ho : gc_o σ = gm_o τ) (hF : FB (gc_o σ) (gc_fb σ)) (hc : 0 < cz (gm_o τ) 64) (v : Int32) :
    ∃ f, f < 64 ∧ gm_o τ f = 0 ∧ mc_Frames_giveOne σ v = some (nI f, gv σ f v) ∧ mm_give τ v = some (nI f, ow τ f v) := by
  obtain ⟨f, h1, h2, h3⟩ := lo_cz hc
  refine ⟨f, h2, h3, ?_, ?_⟩
  · rw [c_go hF, ho, h1]
    show mi_cv (mc_Frames_giveTo σ (nI f) v) _ = _
    rw [c_gt σ h2]
    rfl
  · unfold mm_give
    rw [m_lo, h1, cp_r]
    show mi_cv (mm_own τ (nI f) v) _ = _
    rw [m_ow τ h2]
    rfl
theorem g_none {σ : CS} (hF : FB (gc_o σ) (gc_fb σ)) (hc : cz (gc_o σ) 64 = 0) (v : Int32) : mc_Frames_giveOne σ v = some (-1, σ) := by
  rw [c_go hF, cz_0 hc]
theorem cz_upd (o : Nat → Int32) {f : Nat} {v : Int32} (hf : o f = 0) (hv : ¬ v = 0) (n : Nat) : cz (upd o f v) n + (if f < n then 1 else 0) = cz o n := by
  induction n with
  | zero => rfl
  | succ n ih =>
    show cz (upd o f v) n + (if upd o f v n = 0 then 1 else 0) + (if f < n + 1 then 1 else 0) = cz o n + (if o n = 0 then 1 else 0)
    unfold upd at ih ⊢
    by_cases e : n = f
    · subst e
      rw [if_pos rfl, if_neg hv, if_pos (by omega), if_pos hf]
      rw [if_neg (Nat.lt_irrefl _)] at ih
      omega
    · rw [if_neg e]
      by_cases z : f < n
      · rw [if_pos z] at ih
        rw [if_pos (show f < n + 1 by omega)]
        omega
      · rw [if_neg z] at ih
        rw [if_neg (show ¬ f < n + 1 by omega)]
        omega
theorem cz_give {o : Nat → Int32} {f : Nat} {v : Int32} (h : f < 64) (hf : o f = 0) (hv : ¬ v = 0) : cz (upd o f v) 64 + 1 = cz o 64 := by
  have := cz_upd o hf hv 64
  rw [if_pos h] at this
  exact this
/-! ===== blocks(order) ===== -/
def nb (o : Nat → Int32) (k : Nat) : Nat → Nat
  | 0 => 0
  | n + 1 => nb o k n + (if bk o k n then 1 else 0)
theorem nb_le (o : Nat → Int32) (k n : Nat) : nb o k n ≤ n := by
  induction n with
  | zero => exact Nat.le_refl _
  | succ n ih =>
    show nb o k n + (if bk o k n then 1 else 0) ≤ n + 1
    cases bk o k n <;> simp <;> omega
theorem c_bll {σ : CS} (h : FB (gc_o σ) (gc_fb σ)) {k : Nat} (hk : k < 7) (N : Nat) : ∀ b, b ≤ 64 / 2 ^ k → 64 / 2 ^ k - b < N →
    mc_Frames_countFreeBlocks_l4 N (nI k) (nI (nb (gc_o σ) k b)) (nI b) σ = some (nI (nb (gc_o σ) k (64 / 2 ^ k))) := by
  obtain ⟨g1, g2⟩ := sh_d k hk
  induction N with
  | zero => intro b _ h; exact absurd h (Nat.not_lt_zero _)
  | succ N ih =>
    intro b hb hN
    show mc_Frames_countFreeBlocks_b4 (mc_Frames_countFreeBlocks_l4 N) (nI k) (nI (nb (gc_o σ) k b)) (nI b) σ = _
    unfold mc_Frames_countFreeBlocks_b4
    rw [g1]
    by_cases e : b = 64 / 2 ^ k
    · rw [if_pos ((nI_leI (by omega) (by omega)).mpr (by omega)), e]
    · have hlt : b < 64 / 2 ^ k := by omega
      rw [if_neg (fun z => absurd ((nI_leI (by omega) (by omega)).mp z) (by omega)), sh_c k hk b hlt, c_bk h hk hlt, cp_r, nI_1, nI_1]
      have hs : nb (gc_o σ) k (b + 1) = nb (gc_o σ) k b + (if bk (gc_o σ) k b then 1 else 0) := rfl
      cases e1 : bk (gc_o σ) k b with
      | false =>
        have hs : nb (gc_o σ) k (b + 1) = nb (gc_o σ) k b := by rw [hs, e1]; rfl
        rw [if_pos (show bi false = 0 from rfl), ← hs]
        exact ih (b + 1) (by omega) (by omega)
      | true =>
        rw [e1, if_pos rfl] at hs
        rw [if_neg (show ¬ bi true = 0 by decide), ← hs]
        exact ih (b + 1) (by omega) (by omega)
theorem c_bl {σ : CS} (h : FB (gc_o σ) (gc_fb σ)) {k : Nat} (hk : k < 7) : mc_blocks σ (nI k) = some (nI (nb (gc_o σ) k (64 / 2 ^ k))) := by
  unfold mc_blocks
  have g2 := (sh_d k hk).2
  rw [if_neg (nI_pos (by omega)), if_pos (show nI k ≤ (6 : Int32) from (nI_leI (b := 6) (by omega) (by omega)).mpr (by omega))]
  unfold mc_Frames_countFreeBlocks
  rw [show (0 : Int32) = nI 0 from rfl, show mc_Frames_countFreeBlocks_l4 FU (nI k) (nI 0) (nI 0) σ = some (nI (nb (gc_o σ) k (64 / 2 ^ k))) from c_bll h hk FU 0 (Nat.zero_le _) (show 64 / 2 ^ k - 0 < 300 by omega)]
  rfl
theorem st_m : ∀ k, k < 7 → ∀ b, b < 64 / 2 ^ k → nI (b * 2 ^ k) + nI (2 ^ k) = nI ((b + 1) * 2 ^ k) ∧ ¬ (64 : Int32) ≤ nI (b * 2 ^ k) ∧ mm_in (nI k) 0 6 = some 1 := by decide +kernel
theorem st_e : ∀ k, k < 7 → (64 : Int32) ≤ nI (64 / 2 ^ k * 2 ^ k) ∧ ((1 : Int32) <<< (nI k &&& 31)) = nI (2 ^ k) ∧ mm_in (nI k) 0 6 = some 1 := by decide +kernel
theorem m_bll (τ : MS) {k : Nat} (hk : k < 7) (N : Nat) : ∀ b, b ≤ 64 / 2 ^ k → 64 / 2 ^ k - b < N →
    mm_blocks_l29 N (nI k) (nI (nb (gm_o τ) k b)) (nI (2 ^ k)) (nI (b * 2 ^ k)) τ = some (nI (nb (gm_o τ) k (64 / 2 ^ k)), τ) := by
  induction N with
  | zero => intro b _ h; exact absurd h (Nat.not_lt_zero _)
  | succ N ih =>
    intro b hb hN
    show mm_blocks_b29 (mm_blocks_l29 N) (nI k) (nI (nb (gm_o τ) k b)) (nI (2 ^ k)) (nI (b * 2 ^ k)) τ = _
    unfold mm_blocks_b29
    by_cases e : b = 64 / 2 ^ k
    · rw [e, if_pos (st_e k hk).1]
    · have hlt : b < 64 / 2 ^ k := by omega
      obtain ⟨a1, a2, a3⟩ := st_m k hk b hlt
      rw [if_neg a2, m_bk τ hk hlt, cp_r]
      have hs : nb (gm_o τ) k (b + 1) = nb (gm_o τ) k b + (if bk (gm_o τ) k b then 1 else 0) := rfl
      cases e1 : bk (gm_o τ) k b with
      | false =>
        have hs : nb (gm_o τ) k (b + 1) = nb (gm_o τ) k b := by rw [hs, e1]; rfl
        rw [if_pos (show bi false = 0 from rfl)]
        show mm_blocks_l29 N (nI k) (nI (nb (gm_o τ) k b)) (nI (2 ^ k)) (nI (b * 2 ^ k) + nI (2 ^ k)) τ = _
        rw [a1, ← hs]
        exact ih (b + 1) (by omega) (by omega)
      | true =>
        rw [e1, if_pos rfl] at hs
        rw [if_neg (show ¬ bi true = 0 by decide), a3, cp_r, if_neg (by decide), nI_1, ← hs]
        show mm_blocks_l29 N (nI k) (nI (nb (gm_o τ) k (b + 1))) (nI (2 ^ k)) (nI (b * 2 ^ k) + nI (2 ^ k)) τ = _
        rw [a1]
        exact ih (b + 1) (by omega) (by omega)
theorem m_bl (τ : MS) {k : Nat} (hk : k < 7) : mm_blocks τ (nI k) = some (nI (nb (gm_o τ) k (64 / 2 ^ k)), sm_th τ 0) := by
  unfold mm_blocks
  obtain ⟨a1, a2, a3⟩ := st_e k hk
  have g2 := (sh_d k hk).2
  show mi_cp (mm_in (nI k) 0 6) _ = _
  rw [a3, cp_r, if_neg (by decide), a2]
  have z := m_bll (sm_th τ 0) hk FU 0 (Nat.zero_le _) (show 64 / 2 ^ k - 0 < 300 by omega)
  rw [Nat.zero_mul] at z
  exact z
