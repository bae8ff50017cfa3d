/-! ===== vmalloc ===== -/
def row (en : Nat → Int32) (n p : Nat) : Bool := decide (∀ i, i < n → en (p + i) = 0)
theorem c_lrl (σ : CS) {n : Nat} (hn : 1 ≤ n) (hn8 : n ≤ 8) (N : Nat) : ∀ p c, p ≤ 64 → 64 - p < N → c < n → c ≤ p → (∀ i, i < c → gc_en σ (p - 1 - i) = 0) → (c = p ∨ ¬ gc_en σ (p - 1 - c) = 0) → (∀ q, q + n ≤ p → row (gc_en σ) n q = false) →
    mc_Ranges_lowestRoom_l4 N (nI n) (nI c) (nI p) σ = some (o2 (fp (row (gc_en σ) n) 0 (65 - n))) := by
  induction N with
  | zero => intro p c _ h; exact absurd h (Nat.not_lt_zero _)
  | succ N ih =>
    intro p c hp hN hc hcp hz hs hno
    show mc_Ranges_lowestRoom_b4 (mc_Ranges_lowestRoom_l4 N) (nI n) (nI c) (nI p) σ = _
    unfold mc_Ranges_lowestRoom_b4
    by_cases e : p = 64
    · subst e
      rw [if_pos (show (64 : Int32) ≤ nI 64 by decide)]
      cases e : fp (row (gc_en σ) n) 0 (65 - n) with
      | none => rfl
      | some q =>
        obtain ⟨-, h2, h3, -⟩ := fp_lt _ _ 0 q e
        rw [hno q (by omega)] at h3
        cases h3
    · have h1 : p < 64 := by omega
      rw [if_neg (show ¬ (64 : Int32) ≤ nI p from fun z => absurd ((nI_leI (a := 64) (by omega) (by omega)).mp z) (by omega)), gi_n h1 (by omega), nI_clamp (by omega), nI_1]
      by_cases z : gc_en σ p = 0
      · rw [if_pos z]
        unfold mc_Ranges_lowestRoom_b26
        by_cases ec : c + 1 = n
        · rw [if_pos (by rw [ec])]
          have hq : fp (row (gc_en σ) n) 0 (65 - n) = some (p + 1 - n) := by
            have hr : row (gc_en σ) n (p + 1 - n) = true := by
              refine decide_eq_true (fun i hi => ?_)
              by_cases y : i = n - 1
              · rw [show p + 1 - n + i = p by omega]; exact z
              · have := hz (n - 2 - i) (by omega)
                rw [show p - 1 - (n - 2 - i) = p + 1 - n + i by omega] at this
                exact this
            cases e2 : fp (row (gc_en σ) n) 0 (65 - n) with
            | none => exact absurd (fp_no _ _ 0 e2 (p + 1 - n) (by omega) (by omega)) (by rw [hr]; decide)
            | some q =>
              obtain ⟨-, h2, h3, h4⟩ := fp_lt _ _ 0 q e2
              by_cases y : q + n ≤ p
              · rw [hno q y] at h3; cases h3
              · by_cases y2 : q = p + 1 - n
                · rw [y2]
                · have := h4 (p + 1 - n) (by omega) (by omega)
                  rw [hr] at this; cases this
          rw [hq]
          have ea : nI p - nI n + (1 : Int32) = nI (p + 1 - n) := by
            have : nI p = nI (p + 1 - n) + nI (n - 1) := by rw [nI_add]; congr 1; omega
            have h2 : nI n = nI (n - 1) + (1 : Int32) := by rw [nI_1]; congr 1; omega
            rw [this, h2]
            generalize nI (p + 1 - n) = A
            generalize nI (n - 1) = B
            rw [Int32.sub_eq_add_neg, Int32.neg_add, Int32.sub_eq_add_neg]
            rw [Int32.add_assoc A B, ← Int32.add_assoc B (-B), Int32.add_right_neg, Int32.zero_add, Int32.add_assoc, Int32.add_left_neg, Int32.add_zero]
          rw [ea]
          rfl
        · rw [if_neg (fun y => ec ((nI_eq (by omega) (by omega)).mp y)), nI_1]
          refine ih (p + 1) (c + 1) (by omega) (by omega) (by omega) (by omega) (fun i hi => ?_) ?_ (fun q hq => ?_)
          · by_cases y : i = 0
            · subst y; rw [show p + 1 - 1 - 0 = p by omega]; exact z
            · have := hz (i - 1) (by omega)
              rw [show p - 1 - (i - 1) = p + 1 - 1 - i by omega] at this
              exact this
          · rcases hs with y | y
            · exact Or.inl (by omega)
            · by_cases y2 : c = p
              · exact Or.inl (by omega)
              · exact Or.inr (by rw [show p + 1 - 1 - (c + 1) = p - 1 - c by omega]; exact y)
          · by_cases y : q + n ≤ p
            · exact hno q y
            · refine decide_eq_false (fun w => ?_)
              rcases hs with v | v
              · omega
              · have := w (p - 1 - c - q) (by omega)
                rw [show q + (p - 1 - c - q) = p - 1 - c by omega] at this
                exact v this
      · rw [if_neg z]
        unfold mc_Ranges_lowestRoom_b26
        rw [if_neg (show ¬ (0 : Int32) = nI n from fun y => absurd ((nI_eq (a := 0) (by omega) (by omega)).mp y) (by omega)), nI_1]
        refine ih (p + 1) 0 (by omega) (by omega) (by omega) (by omega) (fun i hi => absurd hi (Nat.not_lt_zero _)) (Or.inr (by rw [show p + 1 - 1 - 0 = p by omega]; exact z)) (fun q hq => ?_)
        by_cases y : q + n ≤ p
        · exact hno q y
        · refine decide_eq_false (fun w => z ?_)
          have := w (p - q) (by omega)
          rw [show q + (p - q) = p by omega] at this
          exact this
theorem c_lr (σ : CS) {n : Nat} (hn : 1 ≤ n) (hn8 : n ≤ 8) : mc_Ranges_lowestRoom σ (nI n) = some (o2 (fp (row (gc_en σ) n) 0 (65 - n))) :=
  c_lrl σ hn hn8 FU 0 0 (by omega) (by decide) (by omega) (by omega) (fun i hi => absurd hi (Nat.not_lt_zero _)) (Or.inl rfl) (fun q hq => by omega)
theorem m_rwi (τ : MS) (k7 : Int32 → Int32 → Int32 → MS → Option Int32) {n p : Nat} (hpn : p + n ≤ 64) (best : Int32) (N : Nat) : ∀ (i : Nat) (b : Bool), i ≤ n → n - i < N → (b = true ↔ ∀ j, j < i → gm_en τ (p + j) = 0) →
    mm_rowOf_l17 k7 N (nI n) best (nI p) (bi b) (nI (p + i)) τ = mm_rowOf_b53 k7 (nI n) best (nI p) (bi (row (gm_en τ) n p)) τ := by
  induction N with
  | zero => intro i b _ h; exact absurd h (Nat.not_lt_zero _)
  | succ N ih =>
    intro i b hi hN hb
    show mm_rowOf_b17 k7 (mm_rowOf_l17 k7 N) (nI n) best (nI p) (bi b) (nI (p + i)) τ = _
    unfold mm_rowOf_b17
    rw [nI_add p n]
    by_cases e : i = n
    · subst e
      rw [if_pos ((nI_leI (by omega) (by omega)).mpr (Nat.le_refl _))]
      have e2 : b = row (gm_en τ) i p := by
        unfold row
        cases b with
        | true => exact (decide_eq_true (hb.mp rfl)).symm
        | false => exact (decide_eq_false (fun z => absurd (hb.mpr z) (by decide))).symm
      rw [← e2]
    · rw [if_neg (fun z => absurd ((nI_leI (by omega) (by omega)).mp z) (by omega))]
      cases b with
      | false =>
        rw [if_pos (show bi false = 0 from rfl), nI_1, Nat.add_assoc]
        refine ih (i + 1) false (by omega) (by omega) ⟨fun z => absurd z (by decide), fun z => ?_⟩
        exact hb.mpr (fun j hj => z j (by omega))
      | true =>
        rw [if_neg (show ¬ bi true = 0 by decide), gi_n (by omega) (by omega), nI_clamp (by omega), nI_1, Nat.add_assoc]
        by_cases z : gm_en τ (p + i) = 0
        · rw [if_pos z]
          refine ih (i + 1) true (by omega) (by omega) ⟨fun _ j hj => ?_, fun _ => rfl⟩
          by_cases ej : j = i
          · rw [ej]; exact z
          · exact hb.mp rfl j (by omega)
        · rw [if_neg z]
          refine ih (i + 1) false (by omega) (by omega) ⟨fun y => absurd y (by decide), fun y => absurd (y i (by omega)) z⟩
theorem m1_p : ∀ s, s < 64 → nI s + (-1 : Int32) = if s = 0 then -1 else nI (s - 1) := by decide +kernel
theorem m_rwl (τ : MS) {n : Nat} (hn : 1 ≤ n) (hn8 : n ≤ 8) (N : Nat) : ∀ (p : Nat) (best : Int32), p + n ≤ 64 → p + 1 < N → mm_rowOf_l7 N (nI n) best (nI p) τ = some (dp (row (gm_en τ) n) (p + 1) best) := by
  induction N with
  | zero => intro p best _ h; exact absurd h (Nat.not_lt_zero _)
  | succ N ih =>
    intro p best hp hN
    show mm_rowOf_b7 (mm_rowOf_l7 N) (nI n) best (nI p) τ = some (dp (row (gm_en τ) n) p (if row (gm_en τ) n p then nI p else best))
    unfold mm_rowOf_b7
    rw [if_neg (nI_pos (by omega))]
    have w := m_rwi τ (mm_rowOf_l7 N) hp best FU 0 true (by omega) (show n - 0 < 300 by omega) ⟨fun _ j hj => absurd hj (Nat.not_lt_zero _), fun _ => rfl⟩
    rw [Nat.add_zero] at w
    have w : mm_rowOf_l17 (mm_rowOf_l7 N) FU (nI n) best (nI p) (1 : Int32) (nI p) τ = _ := w
    rw [w]
    unfold mm_rowOf_b53
    rw [m1_p p (by omega)]
    have go : ∀ be, mm_rowOf_l7 N (nI n) be (if p = 0 then -1 else nI (p - 1)) τ = some (dp (row (gm_en τ) n) p be) := by
      intro be
      by_cases e : p = 0
      · subst e
        rw [if_pos rfl]
        obtain ⟨M, rfl⟩ : ∃ M, N = M + 1 := ⟨N - 1, by omega⟩
        show mm_rowOf_b7 (mm_rowOf_l7 M) (nI n) be (-1) τ = _
        unfold mm_rowOf_b7
        rw [if_pos (show (-1 : Int32) < 0 by decide)]
        rfl
      · rw [if_neg e]
        obtain ⟨t, rfl⟩ : ∃ t, p = t + 1 := ⟨p - 1, by omega⟩
        exact ih t be (by omega) (by omega)
    cases row (gm_en τ) n p with
    | false => rw [if_pos (show bi false = 0 from rfl)]; exact go best
    | true => rw [if_neg (show ¬ bi true = 0 by decide)]; exact go (nI p)
theorem m_rw (τ : MS) {n : Nat} (hn : 1 ≤ n) (hn8 : n ≤ 8) : mm_rowOf τ (nI n) = some (o2 (fp (row (gm_en τ) n) 0 (65 - n))) := by
  have e : (64 : Int32) - nI n = nI (64 - n) := by
    have : n = 1 ∨ n = 2 ∨ n = 3 ∨ n = 4 ∨ n = 5 ∨ n = 6 ∨ n = 7 ∨ n = 8 := by omega
    rcases this with rfl | rfl | rfl | rfl | rfl | rfl | rfl | rfl <;> decide
  unfold mm_rowOf
  rw [e, m_rwl τ hn hn8 FU (64 - n) (-1) (by omega) (show 64 - n + 1 < 300 by omega), dp_f, show 64 - n + 1 = 65 - n by omega]
  cases fp (row (gm_en τ) n) 0 (65 - n) <;> rfl
