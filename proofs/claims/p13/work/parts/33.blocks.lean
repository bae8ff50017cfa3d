/-! ===== free blocks: block b of order k ===== -/
def bk (o : Nat → Int32) (k b : Nat) : Bool := af o (b * 2 ^ k) (2 ^ k) && (decide (k = 6) || !af o (b / 2 * 2 ^ (k + 1)) (2 ^ (k + 1)))
theorem bi0 (b : Bool) : (bi b = 0) ↔ b = false := by cases b <;> decide
theorem cp_r {β : Type} {r : Int32} {k : Int32 → Option β} : mi_cp (some r) k = k r := rfl
theorem hf_c : ∀ k, k < 6 → ∀ b, b < 64 / 2 ^ k → ((nI (b * 2 ^ k) >>> ((nI k + (1 : Int32)) &&& 31)) <<< ((nI k + (1 : Int32)) &&& 31)) = nI (b / 2 * 2 ^ (k + 1)) ∧ nI k + (1 : Int32) = nI (k + 1) ∧ b / 2 < 64 / 2 ^ (k + 1) := by decide +kernel
theorem c_bk {σ : CS} (h : FB (gc_o σ) (gc_fb σ)) {k b : Nat} (hk : k < 7) (hb : b < 64 / 2 ^ k) : mc_Frames_isFreeBlock σ (nI (b * 2 ^ k)) (nI k) = some (bi (bk (gc_o σ) k b)) := by
  unfold mc_Frames_isFreeBlock
  rw [c_af h hk hb, cp_r]
  unfold bk
  cases e1 : af (gc_o σ) (b * 2 ^ k) (2 ^ k) with
  | false => rw [if_pos (show bi false = 0 from rfl)]; rfl
  | true =>
    rw [if_neg (show ¬ bi true = 0 by decide)]
    by_cases h6 : k = 6
    · subst h6
      rw [if_pos (show nI 6 = (6 : Int32) from rfl)]
      rfl
    · have hk6 : k < 6 := by omega
      rw [if_neg (show ¬ nI k = (6 : Int32) from fun z => h6 ((nI_eq (a := k) (b := 6) (by omega) (by omega)).mp z))]
      obtain ⟨g1, g2, g3⟩ := hf_c k hk6 b hb
      rw [g1, g2, c_af h (by omega) g3, cp_r, decide_eq_false h6]
      cases e2 : af (gc_o σ) (b / 2 * 2 ^ (k + 1)) (2 ^ (k + 1)) with
      | false => rw [if_pos (show bi false = 0 from rfl)]; rfl
      | true => rw [if_neg (show ¬ bi true = 0 by decide)]; rfl
/-! the reference -/
theorem m_opl (τ : MS) {f n : Nat} (hfn : f + n ≤ 64) (N : Nat) : ∀ (i : Nat) (b : Bool), i ≤ n → n - i < N → (b = true ↔ ∀ j, j < i → gm_o τ (f + j) = 0) →
    mm_isOpen_l5 N (nI f) (nI n) (bi b) (nI (f + i)) τ = some (bi (af (gm_o τ) f n)) := by
  induction N with
  | zero => intro i b _ h; exact absurd h (Nat.not_lt_zero _)
  | succ N ih =>
    intro i b hi hN hb
    show mm_isOpen_b5 (mm_isOpen_l5 N) (nI f) (nI n) (bi b) (nI (f + i)) τ = _
    unfold mm_isOpen_b5
    rw [nI_add f n]
    by_cases e : i = n
    · subst e
      rw [if_pos ((nI_leI (by omega) (by omega)).mpr (Nat.le_refl _))]
      have e2 : b = af (gm_o τ) f i := by
        unfold af
        cases b with
        | true => exact (decide_eq_true (hb.mp rfl)).symm
        | false => exact (decide_eq_false (fun z => absurd (hb.mpr z) (by decide))).symm
      rw [← e2]
      cases b with
      | true => exact mi_gd_no (by decide)
      | false => exact mi_gd_no (by decide)
    · rw [if_neg (fun z => absurd ((nI_leI (by omega) (by omega)).mp z) (by omega))]
      cases b with
      | false =>
        rw [if_pos (show bi false = 0 from rfl), nI_1, Nat.add_assoc]
        refine ih (i + 1) false (by omega) (by omega) ⟨fun z => absurd z (by decide), fun z => ?_⟩
        exact hb.mpr (fun j hj => z j (by omega))
      | true =>
        rw [if_neg (show ¬ bi true = 0 by decide), gi_n (by omega) (by omega), nI_clamp (by omega), nI_1, Nat.add_assoc]
        by_cases z : gm_o τ (f + i) = 0
        · rw [if_pos z]
          refine ih (i + 1) true (by omega) (by omega) ⟨fun _ j hj => ?_, fun _ => rfl⟩
          by_cases ej : j = i
          · rw [ej]; exact z
          · exact hb.mp rfl j (by omega)
        · rw [if_neg z]
          refine ih (i + 1) false (by omega) (by omega) ⟨fun y => absurd y (by decide), fun y => absurd (y i (by omega)) z⟩
theorem m_af (τ : MS) {f n : Nat} (hfn : f + n ≤ 64) : mm_isOpen τ (nI f) (nI n) = some (bi (af (gm_o τ) f n)) :=
  m_opl τ hfn FU 0 true (by omega) (show n - 0 < 300 by omega) ⟨fun _ j hj => absurd hj (Nat.not_lt_zero _), fun _ => rfl⟩
theorem hf_m : ∀ k, k < 6 → ∀ b, b < 64 / 2 ^ k → ¬ ((2 : Int32) * nI (2 ^ k)) = 0 ∧ (nI (b * 2 ^ k) - (nI (b * 2 ^ k) - nI (b * 2 ^ k) / ((2 : Int32) * nI (2 ^ k)) * ((2 : Int32) * nI (2 ^ k)))) = nI (b / 2 * 2 ^ (k + 1)) ∧ (2 : Int32) * nI (2 ^ k) = nI (2 ^ (k + 1)) ∧ b / 2 * 2 ^ (k + 1) + 2 ^ (k + 1) ≤ 64 ∧ ¬ nI (2 ^ k) = (64 : Int32) := by decide +kernel
theorem hf_l : ∀ k, k < 7 → ∀ b, b < 64 / 2 ^ k → b * 2 ^ k + 2 ^ k ≤ 64 := by decide +kernel
theorem m_bk (τ : MS) {k b : Nat} (hk : k < 7) (hb : b < 64 / 2 ^ k) : mm_isBlock τ (nI (b * 2 ^ k)) (nI (2 ^ k)) = some (bi (bk (gm_o τ) k b)) := by
  unfold mm_isBlock
  rw [m_af τ (hf_l k hk b hb), cp_r]
  unfold bk
  cases e1 : af (gm_o τ) (b * 2 ^ k) (2 ^ k) with
  | false => rw [if_pos (show bi false = 0 from rfl)]; rfl
  | true =>
    rw [if_neg (show ¬ bi true = 0 by decide)]
    by_cases h6 : k = 6
    · subst h6
      rw [if_pos (show nI (2 ^ 6) = (64 : Int32) from rfl)]
      rfl
    · have hk6 : k < 6 := by omega
      obtain ⟨g1, g2, g3, g4, g5⟩ := hf_m k hk6 b hb
      rw [if_neg g5, mi_gd_no g1, g2, g3, m_af τ g4, cp_r, decide_eq_false h6]
      cases e2 : af (gm_o τ) (b / 2 * 2 ^ (k + 1)) (2 ^ (k + 1)) with
      | false => rw [if_pos (show bi false = 0 from rfl)]; rfl
      | true => rw [if_neg (show ¬ bi true = 0 by decide)]; rfl
/-! ===== the lowest free block ===== -/
def fnd (o : Nat → Int32) (k b : Nat) : Nat → Option Nat
  | 0 => none
  | n + 1 => if bk o k b then some b else fnd o k (b + 1) n
/-- from order k on, d orders -/
def lo (o : Nat → Int32) (k : Nat) : Nat → Option Nat
  | 0 => none
  | d + 1 => match fnd o k 0 (64 / 2 ^ k) with
    | some b => some (b * 2 ^ k)
    | none => lo o (k + 1) d
theorem sh_c : ∀ k, k < 7 → ∀ b, b < 64 / 2 ^ k → (nI b <<< (nI k &&& 31)) = nI (b * 2 ^ k) := by decide +kernel
theorem sh_d : ∀ k, k < 7 → ((64 : Int32) >>> (nI k &&& 31)) = nI (64 / 2 ^ k) ∧ 64 / 2 ^ k ≤ 64 := by decide +kernel
theorem c_gol {σ : CS} (h : FB (gc_o σ) (gc_fb σ)) (k2 : Int32 → Int32 → CS → Option (Int32 × CS)) (w : Int32) {k : Nat} (hk : k < 7) (N : Nat) : ∀ b, b ≤ 64 / 2 ^ k → 64 / 2 ^ k - b < N →
    mc_Frames_giveOne_l10 k2 N w (nI k) (nI b) σ = match fnd (gc_o σ) k b (64 / 2 ^ k - b) with
      | some c => mi_cv (mc_Frames_giveTo σ (nI (c * 2 ^ k)) w) fun σ2 => some (nI (c * 2 ^ k), σ2)
      | none => k2 w (nI (k + 1)) σ := by
  obtain ⟨g1, g2⟩ := sh_d k hk
  induction N with
  | zero => intro b _ h; exact absurd h (Nat.not_lt_zero _)
  | succ N ih =>
    intro b hb hN
    show mc_Frames_giveOne_b10 k2 (mc_Frames_giveOne_l10 k2 N) w (nI k) (nI b) σ = _
    unfold mc_Frames_giveOne_b10
    rw [g1]
    by_cases e : b = 64 / 2 ^ k
    · subst e
      rw [if_pos ((nI_leI (by omega) (by omega)).mpr (Nat.le_refl _)), Nat.sub_self, nI_1]
      rfl
    · have hlt : b < 64 / 2 ^ k := by omega
      rw [if_neg (fun z => absurd ((nI_leI (by omega) (by omega)).mp z) (by omega)), sh_c k hk b hlt, c_bk h hk hlt, cp_r]
      have en : 64 / 2 ^ k - b = (64 / 2 ^ k - (b + 1)) + 1 := by omega
      rw [en]
      show _ = match (if bk (gc_o σ) k b then some b else fnd (gc_o σ) k (b + 1) (64 / 2 ^ k - (b + 1))) with
        | some c => mi_cv (mc_Frames_giveTo σ (nI (c * 2 ^ k)) w) fun σ2 => some (nI (c * 2 ^ k), σ2)
        | none => k2 w (nI (k + 1)) σ
      cases e1 : bk (gc_o σ) k b with
      | false =>
        rw [if_pos (show bi false = 0 from rfl), if_neg (by decide), nI_1]
        exact ih (b + 1) (by omega) (by omega)
      | true => rw [if_neg (show ¬ bi true = 0 by decide), if_pos rfl]
theorem c_gok {σ : CS} (h : FB (gc_o σ) (gc_fb σ)) (w : Int32) (d : Nat) : ∀ k N, k + d = 7 → d < N →
    mc_Frames_giveOne_l2 N w (nI k) σ = match lo (gc_o σ) k d with
      | some f => mi_cv (mc_Frames_giveTo σ (nI f) w) fun σ2 => some (nI f, σ2)
      | none => some (-1, σ) := by
  induction d with
  | zero =>
    intro k N hk hN
    obtain ⟨M, rfl⟩ : ∃ M, N = M + 1 := ⟨N - 1, by omega⟩
    show mc_Frames_giveOne_b2 (mc_Frames_giveOne_l2 M) w (nI k) σ = _
    unfold mc_Frames_giveOne_b2
    rw [if_pos (show (6 : Int32) < nI k from (nI_ltI (a := 6) (b := k) (by omega) (by omega)).mpr (by omega))]
    rfl
  | succ d ih =>
    intro k N hk hN
    obtain ⟨M, rfl⟩ : ∃ M, N = M + 1 := ⟨N - 1, by omega⟩
    show mc_Frames_giveOne_b2 (mc_Frames_giveOne_l2 M) w (nI k) σ = _
    unfold mc_Frames_giveOne_b2
    have g2 := (sh_d k (by omega)).2
    rw [if_neg (show ¬ (6 : Int32) < nI k from fun z => absurd ((nI_ltI (a := 6) (b := k) (by omega) (by omega)).mp z) (by omega)), show (0 : Int32) = nI 0 from rfl, c_gol h _ w (by omega) FU 0 (Nat.zero_le _) (show 64 / 2 ^ k - 0 < 300 by omega), Nat.sub_zero]
    show _ = match (match fnd (gc_o σ) k 0 (64 / 2 ^ k) with | some b => some (b * 2 ^ k) | none => lo (gc_o σ) (k + 1) d) with
      | some f => mi_cv (mc_Frames_giveTo σ (nI f) w) fun σ2 => some (nI f, σ2)
      | none => some (-1, σ)
    cases fnd (gc_o σ) k 0 (64 / 2 ^ k) with
    | some b => rfl
    | none => exact ih (k + 1) M (by omega) (by omega)
/-- the class gives the lowest frame of the lowest order that has a free block -/
theorem c_go {σ : CS} (h : FB (gc_o σ) (gc_fb σ)) (w : Int32) : mc_Frames_giveOne σ w = match lo (gc_o σ) 0 7 with
      | some f => mi_cv (mc_Frames_giveTo σ (nI f) w) fun σ2 => some (nI f, σ2)
      | none => some (-1, σ) := c_gok h w 7 0 FU rfl (by decide)
/-! the reference's search goes down, and keeps the last -/
def dn (o : Nat → Int32) (k : Nat) : Nat → Int32 → Int32
  | 0, best => best
  | n + 1, best => dn o k n (if bk o k n then nI (n * 2 ^ k) else best)
theorem fnd_s (o : Nat → Int32) (k : Nat) (n : Nat) : ∀ b, fnd o k b (n + 1) = match fnd o k b n with | some c => some c | none => if bk o k (b + n) then some (b + n) else none := by
  induction n with
  | zero => intro b; rfl
  | succ n ih =>
    intro b
    show (if bk o k b then some b else fnd o k (b + 1) (n + 1)) = match (if bk o k b then some b else fnd o k (b + 1) n) with | some c => some c | none => if bk o k (b + (n + 1)) then some (b + (n + 1)) else none
    cases bk o k b with
    | true => rfl
    | false =>
      rw [if_neg (by decide), if_neg (by decide), ih (b + 1), show b + 1 + n = b + (n + 1) by omega]
theorem dn_f (o : Nat → Int32) (k : Nat) (n : Nat) : ∀ best, dn o k n best = match fnd o k 0 n with | some c => nI (c * 2 ^ k) | none => best := by
  induction n with
  | zero => intro best; rfl
  | succ n ih =>
    intro best
    show dn o k n (if bk o k n then nI (n * 2 ^ k) else best) = _
    rw [ih, fnd_s, Nat.zero_add]
    cases fnd o k 0 n with
    | some c => rfl
    | none => cases bk o k n <;> rfl
theorem dl_m : ∀ k, k < 7 → (nI (0 * 2 ^ k) - nI (2 ^ k) < 0) ∧ (∀ b, b < 64 / 2 ^ k → 0 < b → nI (b * 2 ^ k) - nI (2 ^ k) = nI ((b - 1) * 2 ^ k) ∧ ¬ nI ((b - 1) * 2 ^ k) < 0) ∧ (64 : Int32) - nI (2 ^ k) = nI ((64 / 2 ^ k - 1) * 2 ^ k) ∧ 0 < 64 / 2 ^ k ∧ ¬ nI ((64 / 2 ^ k - 1) * 2 ^ k) < 0 ∧ ¬ (64 : Int32) < nI (2 ^ k) ∧ (2 : Int32) * nI (2 ^ k) = nI (2 ^ (k + 1)) := by decide +kernel
theorem m_lol (τ : MS) (k4 : Int32 → Int32 → MS → Option Int32) {k : Nat} (hk : k < 7) (N : Nat) : ∀ (b : Nat) (best : Int32), b < 64 / 2 ^ k → ¬ nI (b * 2 ^ k) < 0 → b + 1 < N →
    mm_lowest_l19 k4 N best (nI (2 ^ k)) (nI (b * 2 ^ k)) τ = k4 (dn (gm_o τ) k (b + 1) best) (nI (2 ^ (k + 1))) τ := by
  obtain ⟨g1, g2, g3, g4, g5, g6, g7⟩ := dl_m k hk
  induction N with
  | zero => intro b best _ _ h; exact absurd h (Nat.not_lt_zero _)
  | succ N ih =>
    intro b best hb hn hN
    show mm_lowest_b19 k4 (mm_lowest_l19 k4 N) best (nI (2 ^ k)) (nI (b * 2 ^ k)) τ = _
    unfold mm_lowest_b19
    rw [if_neg hn, m_bk τ hk hb, cp_r]
    show _ = k4 (dn (gm_o τ) k b (if bk (gm_o τ) k b then nI (b * 2 ^ k) else best)) (nI (2 ^ (k + 1))) τ
    have go : ∀ be, mm_lowest_l19 k4 N be (nI (2 ^ k)) (nI (b * 2 ^ k) - nI (2 ^ k)) τ = k4 (dn (gm_o τ) k b be) (nI (2 ^ (k + 1))) τ := by
      intro be
      by_cases e : b = 0
      · subst e
        obtain ⟨M, rfl⟩ : ∃ M, N = M + 1 := ⟨N - 1, by omega⟩
        show mm_lowest_b19 k4 (mm_lowest_l19 k4 M) be (nI (2 ^ k)) (nI (0 * 2 ^ k) - nI (2 ^ k)) τ = _
        unfold mm_lowest_b19
        rw [if_pos g1, g7]
        rfl
      · obtain ⟨h1, h2⟩ := g2 b hb (by omega)
        obtain ⟨c, rfl⟩ : ∃ c, b = c + 1 := ⟨b - 1, by omega⟩
        rw [h1]
        exact ih c be (by omega) h2 (by omega)
    cases e1 : bk (gm_o τ) k b with
    | false => rw [if_pos (show bi false = 0 from rfl)]; exact go best
    | true => rw [if_neg (show ¬ bi true = 0 by decide)]; exact go (nI (b * 2 ^ k))
theorem fnd_lt (o : Nat → Int32) (k : Nat) (n : Nat) : ∀ b c, fnd o k b n = some c → b ≤ c ∧ c < b + n ∧ bk o k c = true := by
  induction n with
  | zero => intro b c h; cases h
  | succ n ih =>
    intro b c h
    have h : (if bk o k b then some b else fnd o k (b + 1) n) = some c := h
    cases e : bk o k b with
    | true =>
      rw [e, if_pos rfl] at h
      cases h
      exact ⟨Nat.le_refl _, by omega, e⟩
    | false =>
      rw [e, if_neg (by decide)] at h
      obtain ⟨h1, h2, h3⟩ := ih (b + 1) c h
      exact ⟨by omega, by omega, h3⟩
theorem pw_k : ∀ k, k < 8 → ((64 : Int32) < nI (2 ^ k) ↔ k = 7) := by decide +kernel
def o2 (x : Option Nat) : Int32 := match x with
  | some f => nI f
  | none => -1
theorem m_lok (τ : MS) (d : Nat) : ∀ k N, k + d = 7 → d < N → mm_lowest_l4 N (-1) (nI (2 ^ k)) τ = some (o2 (lo (gm_o τ) k d)) := by
  induction d with
  | zero =>
    intro k N hk hN
    obtain ⟨M, rfl⟩ : ∃ M, N = M + 1 := ⟨N - 1, by omega⟩
    show mm_lowest_b4 (mm_lowest_l4 M) (-1) (nI (2 ^ k)) τ = _
    unfold mm_lowest_b4
    rw [if_pos ((pw_k k (by omega)).mpr (by omega))]
    rfl
  | succ d ih =>
    intro k N hk hN
    obtain ⟨M, rfl⟩ : ∃ M, N = M + 1 := ⟨N - 1, by omega⟩
    obtain ⟨g1, g2, g3, g4, g5, g6, g7⟩ := dl_m k (by omega)
    show mm_lowest_b4 (mm_lowest_l4 M) (-1) (nI (2 ^ k)) τ = _
    unfold mm_lowest_b4
    have s2 := (sh_d k (by omega)).2
    rw [if_neg g6, if_neg (show ¬ (0 : Int32) ≤ -1 by decide), g3, m_lol τ _ (by omega) FU _ (-1) (by omega) g5 (show 64 / 2 ^ k - 1 + 1 < 300 by omega), show 64 / 2 ^ k - 1 + 1 = 64 / 2 ^ k by omega, dn_f]
    show _ = some (o2 (match fnd (gm_o τ) k 0 (64 / 2 ^ k) with | some b => some (b * 2 ^ k) | none => lo (gm_o τ) (k + 1) d))
    cases e : fnd (gm_o τ) k 0 (64 / 2 ^ k) with
    | none => exact ih (k + 1) M (by omega) (by omega)
    | some c =>
      obtain ⟨M2, rfl⟩ : ∃ M2, M = M2 + 1 := ⟨M - 1, by omega⟩
      show mm_lowest_b4 (mm_lowest_l4 M2) (nI (c * 2 ^ k)) (nI (2 ^ (k + 1))) τ = some (nI (c * 2 ^ k))
      have hc := (fnd_lt (gm_o τ) k _ 0 c e).2.1
      have hl := hf_l k (by omega) c (by omega)
      unfold mm_lowest_b4
      by_cases z : (64 : Int32) < nI (2 ^ (k + 1))
      · rw [if_pos z]
      · rw [if_neg z, if_pos (nI_pos' (Nat.lt_of_le_of_lt (Nat.le_trans (Nat.le_add_right _ _) hl) (by decide)))]
theorem m_lo (τ : MS) : mm_lowest τ = some (o2 (lo (gm_o τ) 0 7)) := m_lok τ 7 0 FU rfl (by decide)
/-! ===== what 'lo' says ===== -/
theorem af_n {o : Nat → Int32} {f n i : Nat} (h : af o f n = true) (hi : i < n) : o (f + i) = 0 := of_decide_eq_true h i hi
theorem bk_af {o : Nat → Int32} {k b : Nat} (h : bk o k b = true) : af o (b * 2 ^ k) (2 ^ k) = true := by
  unfold bk at h
  cases e : af o (b * 2 ^ k) (2 ^ k) with
  | true => rfl
  | false => rw [e] at h; exact absurd h (by simp)
theorem lo_ok (o : Nat → Int32) (d : Nat) : ∀ k f, k + d = 7 → lo o k d = some f → f < 64 ∧ o f = 0 := by
  induction d with
  | zero => intro k f _ h; cases h
  | succ d ih =>
    intro k f hk h
    have h : (match fnd o k 0 (64 / 2 ^ k) with | some b => some (b * 2 ^ k) | none => lo o (k + 1) d) = some f := h
    cases e : fnd o k 0 (64 / 2 ^ k) with
    | none => rw [e] at h; exact ih (k + 1) f (by omega) h
    | some b =>
      rw [e] at h
      cases h
      obtain ⟨-, h2, h3⟩ := fnd_lt o k _ 0 b e
      have hp : 0 < 2 ^ k := Nat.two_pow_pos k
      have hl := hf_l k (by omega) b (by omega)
      exact ⟨by omega, af_n (bk_af h3) (i := 0) hp⟩
theorem fnd_no (o : Nat → Int32) (k : Nat) (n : Nat) : ∀ b, fnd o k b n = none → ∀ c, b ≤ c → c < b + n → bk o k c = false := by
  induction n with
  | zero => intro b _ c h1 h2; omega
  | succ n ih =>
    intro b h c h1 h2
    have h : (if bk o k b then some b else fnd o k (b + 1) n) = none := h
    cases e : bk o k b with
    | true => rw [e, if_pos rfl] at h; cases h
    | false =>
      rw [e, if_neg (by decide)] at h
      by_cases z : c = b
      · rw [z]; exact e
      · exact ih (b + 1) h c (by omega) (by omega)
theorem lo_no (o : Nat → Int32) (d : Nat) : ∀ k, k + d = 7 → lo o k d = none → ∀ j, k ≤ j → j < 7 → ∀ b, b < 64 / 2 ^ j → bk o j b = false := by
  induction d with
  | zero => intro k hk _ j h1 h2; omega
  | succ d ih =>
    intro k hk h j h1 h2 b hb
    have h : (match fnd o k 0 (64 / 2 ^ k) with | some b => some (b * 2 ^ k) | none => lo o (k + 1) d) = none := h
    cases e : fnd o k 0 (64 / 2 ^ k) with
    | some c => rw [e] at h; cases h
    | none =>
      rw [e] at h
      by_cases z : j = k
      · subst z
        exact fnd_no o j _ 0 e b (Nat.zero_le _) (by omega)
      · exact ih (k + 1) (by omega) h j (by omega) h2 b hb
/-- where no block is free, no frame is -/
theorem af_up {o : Nat → Int32} (h : ∀ j, j < 7 → ∀ b, b < 64 / 2 ^ j → bk o j b = false) (f : Nat) (hf : f < 64) (hz : o f = 0) (k : Nat) : k < 7 → af o (f / 2 ^ k * 2 ^ k) (2 ^ k) = true := by
  induction k with
  | zero =>
    intro _
    refine decide_eq_true (fun i hi => ?_)
    have e : f / 2 ^ 0 * 2 ^ 0 + i = f := by simp at hi ⊢; exact hi
    rw [e]; exact hz
  | succ k ih =>
    intro hk
    have hb : f / 2 ^ k < 64 / 2 ^ k := by
      have : k = 0 ∨ k = 1 ∨ k = 2 ∨ k = 3 ∨ k = 4 ∨ k = 5 := by omega
      rcases this with rfl | rfl | rfl | rfl | rfl | rfl <;> omega
    have h1 := h k (by omega) (f / 2 ^ k) hb
    unfold bk at h1
    rw [ih (by omega), decide_eq_false (by omega : ¬ k = 6), Bool.true_and, Bool.false_or] at h1
    have e : f / 2 ^ k / 2 = f / 2 ^ (k + 1) := by rw [Nat.div_div_eq_div_mul, Nat.pow_succ]
    rw [e] at h1
    cases z : af o (f / 2 ^ (k + 1) * 2 ^ (k + 1)) (2 ^ (k + 1)) with
    | true => rfl
    | false => rw [z] at h1; cases h1
theorem lo_some {o : Nat → Int32} {f : Nat} (hf : f < 64) (hz : o f = 0) : ∃ g, lo o 0 7 = some g := by
  cases e : lo o 0 7 with
  | some g => exact ⟨g, rfl⟩
  | none =>
    have h := lo_no o 7 0 rfl e
    have h6 := h 6 (by omega) (by omega) 0 (by decide)
    have a6 := af_up (fun j hj b hb => h j (by omega) hj b hb) f hf hz 6 (by omega)
    have e0 : f / 2 ^ 6 = 0 := by omega
    rw [e0] at a6
    unfold bk at h6
    rw [a6] at h6
    cases h6
theorem cz_pos {o : Nat → Int32} (n : Nat) : 0 < cz o n → ∃ f, f < n ∧ o f = 0 := by
  induction n with
  | zero => intro h; exact absurd h (Nat.lt_irrefl _)
  | succ n ih =>
    intro h
    have h : 0 < cz o n + (if o n = 0 then 1 else 0) := h
    by_cases z : o n = 0
    · exact ⟨n, by omega, z⟩
    · rw [if_neg z] at h
      obtain ⟨f, h1, h2⟩ := ih h
      exact ⟨f, by omega, h2⟩
theorem lo_cz {o : Nat → Int32} (h : 0 < cz o 64) : ∃ g, lo o 0 7 = some g ∧ g < 64 ∧ o g = 0 := by
  obtain ⟨f, h1, h2⟩ := cz_pos 64 h
  obtain ⟨g, hg⟩ := lo_some h1 h2
  obtain ⟨h3, h4⟩ := lo_ok o 7 0 g rfl hg
  exact ⟨g, hg, h3, h4⟩
theorem cz_0 {o : Nat → Int32} (h : cz o 64 = 0) : lo o 0 7 = none := by
  cases e : lo o 0 7 with
  | none => rfl
  | some g =>
    obtain ⟨h1, h2⟩ := lo_ok o 7 0 g rfl e
    have : ∀ n, g < n → 0 < cz o n := by
      intro n
      induction n with
      | zero => intro z; omega
      | succ n ih =>
        intro z
        show 0 < cz o n + (if o n = 0 then 1 else 0)
        by_cases y : g = n
        · rw [← y, if_pos h2]; omega
        · have := ih (by omega); omega
    have := this 64 h1
    omega
