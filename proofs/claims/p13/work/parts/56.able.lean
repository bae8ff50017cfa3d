/-! ===== contig: counting, the lowest able block ===== -/
/-- how many of p a .. p (a + n - 1) hold -/
def cr (p : Nat → Bool) (a : Nat) : Nat → Nat
  | 0 => 0
  | n + 1 => cr p a n + (if p (a + n) then 1 else 0)
theorem cr_s (p : Nat → Bool) (a n : Nat) : cr p a (n + 1) = cr p a n + (if p (a + n) then 1 else 0) := rfl
theorem cr_app (p : Nat → Bool) (a m : Nat) (k : Nat) : cr p a (m + k) = cr p a m + cr p (a + m) k := by
  induction k with
  | zero => rfl
  | succ k ih => rw [← Nat.add_assoc, cr_s, ih, cr_s, Nat.add_assoc a m k]; omega
theorem cr_eq {p q : Nat → Bool} {a : Nat} (n : Nat) : (∀ i, i < n → p (a + i) = q (a + i)) → cr p a n = cr q a n := by
  induction n with
  | zero => intro _; rfl
  | succ n ih =>
    intro h
    rw [cr_s, cr_s, ih (fun i hi => h i (by omega)), h n (by omega)]
theorem cr_pos {p : Nat → Bool} {a : Nat} (n : Nat) : 0 < cr p a n → ∃ i, i < n ∧ p (a + i) = true := by
  induction n with
  | zero => intro h; exact absurd h (Nat.not_lt_zero _)
  | succ n ih =>
    intro h
    rw [cr_s] at h
    cases e : p (a + n) with
    | true => exact ⟨n, by omega, e⟩
    | false =>
      rw [e, if_neg (by decide)] at h
      obtain ⟨i, h1, h2⟩ := ih (by omega)
      exact ⟨i, by omega, h2⟩
theorem cr_one {p q : Nat → Bool} {a x : Nat} (hp : p (a + x) = true) (hq : q (a + x) = false) (n : Nat) : (∀ i, i < n → ¬ i = x → q (a + i) = p (a + i)) → cr p a n = cr q a n + (if x < n then 1 else 0) := by
  induction n with
  | zero => intro _; rfl
  | succ n ih =>
    intro h
    rw [cr_s, cr_s, ih (fun i hi => h i (by omega))]
    by_cases e : n = x
    · subst e
      rw [hp, hq, if_pos (show true = true from rfl), if_neg (show ¬ (false = true) by decide), if_neg (show ¬ n < n by omega), if_pos (show n < n + 1 by omega)]
    · rw [h n (by omega) e]
      by_cases z : x < n
      · rw [if_pos z, if_pos (show x < n + 1 by omega)]; omega
      · rw [if_neg z, if_neg (show ¬ x < n + 1 by omega)]; omega
theorem cr_two {p q : Nat → Bool} {a : Nat} (n : Nat) : (∀ i, i < n → p (a + i) = true → q (a + i) = false) → cr p a n + cr q a n ≤ n ∧ (cr p a n + cr q a n = n ↔ ∀ i, i < n → p (a + i) = true ∨ q (a + i) = true) := by
  induction n with
  | zero => intro _; exact ⟨Nat.le_refl _, fun _ i hi => absurd hi (Nat.not_lt_zero _), fun _ => rfl⟩
  | succ n ih =>
    intro h
    obtain ⟨h1, h2⟩ := ih (fun i hi => h i (by omega))
    rw [cr_s, cr_s]
    have hn := h n (by omega)
    cases e1 : p (a + n) with
    | true =>
      rw [hn e1, if_pos rfl, if_neg (by decide)]
      refine ⟨by omega, fun z i hi => ?_, fun z => ?_⟩
      · by_cases y : i = n
        · rw [y]; exact Or.inl e1
        · exact h2.mp (by omega) i (by omega)
      · have := h2.mpr (fun i hi => z i (by omega))
        omega
    | false =>
      cases e2 : q (a + n) with
      | true =>
        rw [if_pos rfl, if_neg (by decide)]
        refine ⟨by omega, fun z i hi => ?_, fun z => ?_⟩
        · by_cases y : i = n
          · rw [y]; exact Or.inr e2
          · exact h2.mp (by omega) i (by omega)
        · have := h2.mpr (fun i hi => z i (by omega))
          omega
      | false =>
        rw [if_neg (by decide)]
        refine ⟨by omega, fun z => by omega, fun z => ?_⟩
        rcases z n (by omega) with y | y
        · rw [e1] at y; cases y
        · rw [e2] at y; cases y
abbrev io (o : Nat → Int32) (v : Int32) : Nat → Bool := fun g => decide (o g = v)
theorem cr_cz (o : Nat → Int32) (n : Nat) : cr (io o 0) 0 n = cz o n := by
  induction n with
  | zero => rfl
  | succ n ih =>
    show cr (io o 0) 0 n + (if decide (o (0 + n) = 0) = true then 1 else 0) = cz o n + (if o n = 0 then 1 else 0)
    rw [ih, Nat.zero_add]
    by_cases z : o n = 0
    · rw [if_pos z, if_pos (decide_eq_true z)]
    · rw [if_neg z, if_neg (fun y => z (of_decide_eq_true y))]
theorem cz_in (o : Nat → Int32) {a n : Nat} (h : a + n ≤ 64) : cz o 64 = cr (io o 0) 0 a + cr (io o 0) a n + cr (io o 0) (a + n) (64 - (a + n)) := by
  have e : cz o 64 = cz o (a + n + (64 - (a + n))) := by rw [show a + n + (64 - (a + n)) = 64 by omega]
  rw [e, ← cr_cz, cr_app, cr_app, Nat.zero_add, Nat.zero_add]
theorem nI_sub {a b : Nat} (h : b ≤ a) : nI a - nI b = nI (a - b) := by
  have e : nI a = nI (a - b) + nI b := by rw [nI_add, show a - b + b = a by omega]
  rw [e, Int32.add_sub_cancel]
theorem cr_le (p : Nat → Bool) (a n : Nat) : cr p a n ≤ n := by
  induction n with
  | zero => exact Nat.le_refl _
  | succ n ih =>
    rw [cr_s]
    by_cases z : p (a + n) = true
    · rw [if_pos z]; omega
    · rw [if_neg z]; omega
theorem c_ow (σ : CS) {f : Nat} (hf : f < 64) : mc_Frames_ownerOf σ (nI f) = some (gc_o σ f) := by
  unfold mc_Frames_ownerOf
  rw [isF hf, cp_r, if_neg (by decide), gi_n hf (by omega), nI_clamp (by omega)]
theorem c_col (σ : CS) (v : Int32) {a n : Nat} (han : a + n ≤ 64) (N : Nat) : ∀ i, i ≤ n → n - i < N → mc_Frames_countOwned_l6 N v (nI a) (nI n) (nI (cr (io (gc_o σ) v) a i)) (nI (a + i)) σ = some (nI (cr (io (gc_o σ) v) a n)) := by
  induction N with
  | zero => intro i _ h; exact absurd h (Nat.not_lt_zero _)
  | succ N ih =>
    intro i hi hN
    show mc_Frames_countOwned_b6 (mc_Frames_countOwned_l6 N) v (nI a) (nI n) (nI (cr (io (gc_o σ) v) a i)) (nI (a + i)) σ = _
    unfold mc_Frames_countOwned_b6
    rw [nI_add a n]
    by_cases e : i = n
    · subst e
      rw [if_pos ((nI_leI (by omega) (by omega)).mpr (Nat.le_refl _))]
    · rw [if_neg (fun z => absurd ((nI_leI (by omega) (by omega)).mp z) (by omega)), c_ow σ (show a + i < 64 by omega), cp_r, nI_1, nI_1, Nat.add_assoc]
      have w := ih (i + 1) (by omega) (by omega)
      rw [cr_s] at w
      by_cases z : gc_o σ (a + i) = v
      · rw [if_pos z]
        rw [if_pos (decide_eq_true z)] at w
        exact w
      · rw [if_neg z]
        rw [if_neg (fun y => z (of_decide_eq_true y))] at w
        exact w
theorem c_co (σ : CS) (v : Int32) {a n : Nat} (han : a + n ≤ 64) : mc_Frames_countOwned σ v (nI a) (nI n) = some (nI (cr (io (gc_o σ) v) a n)) :=
  c_col σ v han FU 0 (by omega) (show n - 0 < 300 by omega)
/-- the block of n frames from a on is able -/
def ab (o : Nat → Int32) (a n : Nat) : Bool := decide (∀ i, i < n → o (a + i) = 0 ∨ o (a + i) = 4) && !decide (cz o 64 - cr (io o 0) a n < cr (io o 4) a n)
theorem cr_04 (o : Nat → Int32) (a n : Nat) : cr (io o 0) a n + cr (io o 4) a n = n ↔ ∀ i, i < n → o (a + i) = 0 ∨ o (a + i) = 4 := by
  have h := (cr_two (p := io o 0) (q := io o 4) (a := a) n (fun i _ z => decide_eq_false (fun y => by rw [of_decide_eq_true z] at y; exact absurd y (by decide)))).2
  refine ⟨fun z i hi => ?_, fun z => h.mpr (fun i hi => ?_)⟩
  · rcases h.mp z i hi with y | y
    · exact Or.inl (of_decide_eq_true y)
    · exact Or.inr (of_decide_eq_true y)
  · rcases z i hi with y | y
    · exact Or.inl (decide_eq_true y)
    · exact Or.inr (decide_eq_true y)
theorem c_ab {σ : CS} (h : FB (gc_o σ) (gc_fb σ)) {a n : Nat} (han : a + n ≤ 64) : mc_Runs_isAble σ (nI a) (nI n) = some (bi (ab (gc_o σ) a n)) := by
  have hle := cz_in (gc_o σ) han
  have hcz := cz_le (gc_o σ) 64
  have h4 := cr_le (io (gc_o σ) 4) a n
  have h0 := cr_le (io (gc_o σ) 0) a n
  unfold mc_Runs_isAble
  rw [c_co σ 0 han, cp_r, c_co σ 4 han, cp_r, nI_add, c_cf h, cp_r, nI_sub (by omega)]
  unfold ab
  by_cases z : ∀ i, i < n → gc_o σ (a + i) = 0 ∨ gc_o σ (a + i) = 4
  · rw [if_pos (by rw [(cr_04 (gc_o σ) a n).mpr z]), decide_eq_true z]
    by_cases y : cz (gc_o σ) 64 - cr (io (gc_o σ) 0) a n < cr (io (gc_o σ) 4) a n
    · rw [if_pos ((nI_ltI (by omega) (by omega)).mpr y), decide_eq_true y]; rfl
    · rw [if_neg (fun v => y ((nI_ltI (by omega) (by omega)).mp v)), decide_eq_false y]; rfl
  · rw [if_neg (fun y => z ((cr_04 (gc_o σ) a n).mp ((nI_eq (by omega) (by omega)).mp y))), decide_eq_false z]; rfl
theorem m_a50 (τ : MS) (k11 : Int32 → Int32 → Int32 → Int32 → Int32 → Int32 → MS → Option (Int32)) {a n i : Nat} (hai : a + i < 64) (y : Int32) :
    mm_isAble_b50 k11 (nI a) (nI n) (nI (cr (io (gm_o τ) 4) a i)) (nI (cr (io (gm_o τ) 0) a i)) (nI (a + i)) y τ = k11 (nI a) (nI n) (nI (cr (io (gm_o τ) 4) a (i + 1))) (nI (cr (io (gm_o τ) 0) a (i + 1))) y (nI (a + (i + 1))) τ := by
  unfold mm_isAble_b50 mm_isAble_b70
  rw [gi_n hai (by omega), nI_clamp (by omega), nI_1, nI_1, nI_1, cr_s, cr_s, Nat.add_assoc a i 1]
  by_cases z : gm_o τ (a + i) = 4
  · have y0 : ¬ gm_o τ (a + i) = 0 := by rw [z]; decide
    rw [if_pos z, gi_c hai (by omega), if_neg y0, if_pos (decide_eq_true z), if_neg (fun v => y0 (of_decide_eq_true v))]
    rfl
  · rw [if_neg z, gi_c hai (by omega), if_neg (fun v => z (of_decide_eq_true v))]
    by_cases v : gm_o τ (a + i) = 0
    · rw [if_pos v, if_pos (decide_eq_true v)]; rfl
    · rw [if_neg v, if_neg (fun u => v (of_decide_eq_true u))]; rfl
theorem m_abl (τ : MS) {a n : Nat} (han : a + n ≤ 64) (N : Nat) : ∀ (i : Nat) (b : Bool), i ≤ n → n - i < N → (b = true ↔ ∀ j, j < i → gm_o τ (a + j) = 0 ∨ gm_o τ (a + j) = 4) →
    mm_isAble_l11 N (nI a) (nI n) (nI (cr (io (gm_o τ) 4) a i)) (nI (cr (io (gm_o τ) 0) a i)) (bi b) (nI (a + i)) τ = mm_isAble_b98 (nI (cr (io (gm_o τ) 4) a n)) (nI (cr (io (gm_o τ) 0) a n)) (bi (decide (∀ j, j < n → gm_o τ (a + j) = 0 ∨ gm_o τ (a + j) = 4))) τ := by
  induction N with
  | zero => intro i b _ h; exact absurd h (Nat.not_lt_zero _)
  | succ N ih =>
    intro i b hi hN hb
    show mm_isAble_b11 (mm_isAble_l11 N) (nI a) (nI n) (nI (cr (io (gm_o τ) 4) a i)) (nI (cr (io (gm_o τ) 0) a i)) (bi b) (nI (a + i)) τ = _
    unfold mm_isAble_b11 mm_isAble_b49
    rw [nI_add a n]
    by_cases e : i = n
    · subst e
      rw [if_pos ((nI_leI (by omega) (by omega)).mpr (Nat.le_refl _))]
      have e2 : b = decide (∀ j, j < i → gm_o τ (a + j) = 0 ∨ gm_o τ (a + j) = 4) := by
        cases b with
        | true => exact (decide_eq_true (hb.mp rfl)).symm
        | false => exact (decide_eq_false (fun z => absurd (hb.mpr z) (by decide))).symm
      rw [← e2]
    · have hai : a + i < 64 := by omega
      rw [if_neg (fun z => absurd ((nI_leI (by omega) (by omega)).mp z) (by omega))]
      cases b with
      | false =>
        rw [if_pos (show bi false = 0 from rfl), m_a50 τ _ hai]
        exact ih (i + 1) false (by omega) (by omega) ⟨fun z => absurd z (by decide), fun z => hb.mpr (fun j hj => z j (by omega))⟩
      | true =>
        have up : gm_o τ (a + i) = 0 ∨ gm_o τ (a + i) = 4 → (true = true ↔ ∀ j, j < i + 1 → gm_o τ (a + j) = 0 ∨ gm_o τ (a + j) = 4) := fun z => ⟨fun _ j hj => by
          by_cases ej : j = i
          · rw [ej]; exact z
          · exact hb.mp rfl j (by omega), fun _ => rfl⟩
        rw [if_neg (show ¬ bi true = 0 by decide), gi_n hai (by omega), gi_n hai (by omega), nI_clamp (by omega)]
        by_cases z : gm_o τ (a + i) = 0
        · rw [if_pos z, m_a50 τ _ hai]
          exact ih (i + 1) true (by omega) (by omega) (up (Or.inl z))
        · rw [if_neg z]
          by_cases y : gm_o τ (a + i) = 4
          · rw [if_pos y, m_a50 τ _ hai]
            exact ih (i + 1) true (by omega) (by omega) (up (Or.inr y))
          · rw [if_neg y, m_a50 τ _ hai]
            exact ih (i + 1) false (by omega) (by omega) ⟨fun v => absurd v (by decide), fun v => by
              rcases v i (by omega) with u | u
              · exact absurd u z
              · exact absurd u y⟩
theorem m_ab (τ : MS) {a n : Nat} (han : a + n ≤ 64) : mm_isAble τ (nI a) (nI n) = some (bi (ab (gm_o τ) a n)) := by
  have hle := cz_in (gm_o τ) han
  have hcz := cz_le (gm_o τ) 64
  have h4 := cr_le (io (gm_o τ) 4) a n
  have h0 := cr_le (io (gm_o τ) 0) a n
  have w := m_abl τ han FU 0 true (by omega) (show n - 0 < 300 by omega) ⟨fun _ j hj => absurd hj (Nat.not_lt_zero _), fun _ => rfl⟩
  have w : mm_isAble τ (nI a) (nI n) = _ := w
  rw [w]
  unfold mm_isAble_b98 ab
  rw [m_cf, cp_r, nI_sub (by omega)]
  cases e : decide (∀ j, j < n → gm_o τ (a + j) = 0 ∨ gm_o τ (a + j) = 4) with
  | false => rfl
  | true =>
    rw [if_neg (show ¬ bi true = 0 by decide)]
    by_cases y : cz (gm_o τ) 64 - cr (io (gm_o τ) 0) a n < cr (io (gm_o τ) 4) a n
    · rw [if_pos ((nI_ltI (by omega) (by omega)).mpr y), decide_eq_true y]; rfl
    · rw [if_neg (fun v => y ((nI_ltI (by omega) (by omega)).mp v)), decide_eq_false y]; rfl
abbrev abk (o : Nat → Int32) (k : Nat) : Nat → Bool := fun b => ab o (b * 2 ^ k) (2 ^ k)
def ok_ (k : Nat) (x : Option Nat) : Int32 := match x with
  | some b => nI (b * 2 ^ k)
  | none => -1
theorem c_lal {σ : CS} (h : FB (gc_o σ) (gc_fb σ)) {k : Nat} (hk : k < 7) (N : Nat) : ∀ b, b ≤ 64 / 2 ^ k → 64 / 2 ^ k - b < N → mc_Runs_lowestAble_l2 N (nI k) (nI b) σ = some (ok_ k (fp (abk (gc_o σ) k) b (64 / 2 ^ k - b))) := by
  obtain ⟨g1, g2⟩ := sh_d k hk
  induction N with
  | zero => intro b _ h; exact absurd h (Nat.not_lt_zero _)
  | succ N ih =>
    intro b hb hN
    show mc_Runs_lowestAble_b2 (mc_Runs_lowestAble_l2 N) (nI k) (nI b) σ = _
    unfold mc_Runs_lowestAble_b2
    rw [g1]
    by_cases e : b = 64 / 2 ^ k
    · subst e
      rw [if_pos ((nI_leI (by omega) (by omega)).mpr (Nat.le_refl _)), Nat.sub_self]
      rfl
    · have hlt : b < 64 / 2 ^ k := by omega
      rw [if_neg (fun z => absurd ((nI_leI (by omega) (by omega)).mp z) (by omega)), sh_c k hk b hlt, (st_e k hk).2.1, c_ab h (hf_l k hk b hlt), cp_r]
      have en : 64 / 2 ^ k - b = (64 / 2 ^ k - (b + 1)) + 1 := by omega
      rw [en]
      show _ = some (ok_ k (if ab (gc_o σ) (b * 2 ^ k) (2 ^ k) then some b else fp (abk (gc_o σ) k) (b + 1) (64 / 2 ^ k - (b + 1))))
      cases e1 : ab (gc_o σ) (b * 2 ^ k) (2 ^ k) with
      | false =>
        rw [if_pos (show bi false = 0 from rfl), if_neg (by decide), nI_1]
        exact ih (b + 1) (by omega) (by omega)
      | true => rw [if_neg (show ¬ bi true = 0 by decide), if_pos rfl]; rfl
theorem p64 : ∀ k, k < 7 → 64 / 2 ^ k < 300 := by decide +kernel
theorem c_la {σ : CS} (h : FB (gc_o σ) (gc_fb σ)) {k : Nat} (hk : k < 7) : mc_Runs_lowestAble σ (nI k) = some (ok_ k (fp (abk (gc_o σ) k) 0 (64 / 2 ^ k))) :=
  c_lal h hk FU 0 (Nat.zero_le _) (p64 k hk)
def dq (P : Nat → Bool) (k : Nat) : Nat → Int32 → Int32
  | 0, best => best
  | n + 1, best => dq P k n (if P n then nI (n * 2 ^ k) else best)
theorem dq_f (P : Nat → Bool) (k n : Nat) : ∀ best, dq P k n best = match fp P 0 n with | some c => nI (c * 2 ^ k) | none => best := by
  induction n with
  | zero => intro best; rfl
  | succ n ih =>
    intro best
    show dq P k n (if P n then nI (n * 2 ^ k) else best) = _
    rw [ih, fp_s, Nat.zero_add]
    cases fp P 0 n with
    | some c => rfl
    | none => cases P n <;> rfl
theorem m_lal (τ : MS) (x : Int32) {k : Nat} (hk : k < 7) (N : Nat) : ∀ (b : Nat) (best : Int32), b < 64 / 2 ^ k → ¬ nI (b * 2 ^ k) < 0 → b + 1 < N → mm_contig_l28 N x (nI (2 ^ k)) best (nI (b * 2 ^ k)) τ = mm_contig_b61 x (nI (2 ^ k)) (dq (abk (gm_o τ) k) k (b + 1) best) τ := by
  obtain ⟨g1, g2, g3, g4, g5, g6, g7⟩ := dl_m k hk
  induction N with
  | zero => intro b best _ _ h; exact absurd h (Nat.not_lt_zero _)
  | succ N ih =>
    intro b best hb hn hN
    show mm_contig_b28 (mm_contig_l28 N) x (nI (2 ^ k)) best (nI (b * 2 ^ k)) τ = mm_contig_b61 x (nI (2 ^ k)) (dq (abk (gm_o τ) k) k b (if ab (gm_o τ) (b * 2 ^ k) (2 ^ k) then nI (b * 2 ^ k) else best)) τ
    unfold mm_contig_b28 mm_contig_b50
    rw [if_neg hn, m_ab τ (hf_l k hk b hb), cp_r]
    have go : ∀ be, mm_contig_l28 N x (nI (2 ^ k)) be (nI (b * 2 ^ k) - nI (2 ^ k)) τ = mm_contig_b61 x (nI (2 ^ k)) (dq (abk (gm_o τ) k) k b be) τ := by
      intro be
      by_cases e : b = 0
      · subst e
        obtain ⟨M, rfl⟩ : ∃ M, N = M + 1 := ⟨N - 1, by omega⟩
        show mm_contig_b28 (mm_contig_l28 M) x (nI (2 ^ k)) be (nI (0 * 2 ^ k) - nI (2 ^ k)) τ = _
        unfold mm_contig_b28
        rw [if_pos g1]
        rfl
      · obtain ⟨h1, h2⟩ := g2 b hb (by omega)
        obtain ⟨c, rfl⟩ : ∃ c, b = c + 1 := ⟨b - 1, by omega⟩
        rw [h1]
        exact ih c be (by omega) h2 (by omega)
    cases e1 : ab (gm_o τ) (b * 2 ^ k) (2 ^ k) with
    | false => rw [if_pos (show bi false = 0 from rfl)]; exact go best
    | true => rw [if_neg (show ¬ bi true = 0 by decide)]; exact go (nI (b * 2 ^ k))
theorem m_la (τ : MS) (x : Int32) {k : Nat} (hk : k < 7) : mm_contig_b18 x (nI (2 ^ k)) τ = mm_contig_b61 x (nI (2 ^ k)) (ok_ k (fp (abk (gm_o τ) k) 0 (64 / 2 ^ k))) τ := by
  obtain ⟨g1, g2, g3, g4, g5, g6, g7⟩ := dl_m k hk
  unfold mm_contig_b18
  have w := m_lal τ x hk FU (64 / 2 ^ k - 1) (-1) (by omega) g5 (by have := p64 k hk; show _ < 300; omega)
  rw [g3, w, show 64 / 2 ^ k - 1 + 1 = 64 / 2 ^ k by omega, dq_f]
  rfl
