/-! ===== a page goes ===== -/
/-- table t has no entry -/
def et (w : Nat → Int32) (t : Nat) : Bool := af w (16 * t) 16
theorem af_t {o : Nat → Int32} {f n : Nat} (h : ∀ i, i < n → o (f + i) = 0) : af o f n = true := decide_eq_true h
theorem af_f {o : Nat → Int32} {f n : Nat} (h : ¬ ∀ i, i < n → o (f + i) = 0) : af o f n = false := decide_eq_false h
theorem c_etl (σ : CS) {t : Nat} (ht : t < 64) (N : Nat) : ∀ j, j ≤ 16 → 16 - j < N → (∀ i, i < j → gc_w σ (16 * t + i) = 0) → mc_Spaces_isEmptyTable_l2 N (nI t) (nI j) σ = some (bi (et (gc_w σ) t)) := by
  induction N with
  | zero => intro j _ h; exact absurd h (Nat.not_lt_zero _)
  | succ N ih =>
    intro j hj hN hz
    show mc_Spaces_isEmptyTable_b2 (mc_Spaces_isEmptyTable_l2 N) (nI t) (nI j) σ = _
    unfold mc_Spaces_isEmptyTable_b2
    by_cases e : j = 16
    · subst e
      rw [if_pos (show (16 : Int32) ≤ nI 16 by decide)]
      unfold et
      rw [af_t hz]
      rfl
    · rw [if_neg (show ¬ (16 : Int32) ≤ nI j from fun z => absurd ((nI_leI (a := 16) (by omega) (by omega)).mp z) (by omega)), e16, c_rd σ (show 16 * t + j < 1024 by omega), cp_r, nI_1]
      by_cases z : gc_w σ (16 * t + j) = 0
      · rw [if_pos z]
        refine ih (j + 1) (by omega) (by omega) (fun i hi => ?_)
        by_cases y : i = j
        · rw [y]; exact z
        · exact hz i (by omega)
      · rw [if_neg z]
        unfold et
        rw [af_f (fun y => z (y j (by omega)))]
        rfl
theorem c_et (σ : CS) {t : Nat} (ht : t < 64) : mc_Spaces_isEmptyTable σ (nI t) = some (bi (et (gc_w σ) t)) :=
  c_etl σ ht FU 0 (by omega) (by decide) (fun i hi => absurd hi (Nat.not_lt_zero _))
theorem m_etl (τ : MS) (x y : Int32) {t : Nat} (ht : t < 64) (N : Nat) : ∀ (j : Nat) (b : Bool), j ≤ 16 → 16 - j < N → (b = true ↔ ∀ i, i < j → gm_w τ (16 * t + i) = 0) → mm_drop_l53 N x y (nI t) (bi b) (nI j) τ = mm_drop_b94 x y (nI t) (bi (et (gm_w τ) t)) τ := by
  induction N with
  | zero => intro j b _ h; exact absurd h (Nat.not_lt_zero _)
  | succ N ih =>
    intro j b hj hN hb
    show mm_drop_b53 (mm_drop_l53 N) x y (nI t) (bi b) (nI j) τ = _
    unfold mm_drop_b53
    by_cases e : j = 16
    · subst e
      rw [if_pos (show (16 : Int32) ≤ nI 16 by decide)]
      have e2 : b = et (gm_w τ) t := by
        unfold et
        cases b with
        | true => exact (af_t (hb.mp rfl)).symm
        | false => exact (af_f (fun z => absurd (hb.mpr z) (by decide))).symm
      rw [← e2]
    · rw [if_neg (show ¬ (16 : Int32) ≤ nI j from fun z => absurd ((nI_leI (a := 16) (by omega) (by omega)).mp z) (by omega))]
      cases b with
      | false =>
        rw [if_pos (show bi false = 0 from rfl), nI_1]
        exact ih (j + 1) false (by omega) (by omega) ⟨fun z => absurd z (by decide), fun z => hb.mpr (fun i hi => z i (by omega))⟩
      | true =>
        rw [if_neg (show ¬ bi true = 0 by decide), e16', gi_n (show 16 * t + j < 1024 by omega) (by omega), nI_clamp (by omega), nI_1]
        by_cases z : gm_w τ (16 * t + j) = 0
        · rw [if_pos z]
          refine ih (j + 1) true (by omega) (by omega) ⟨fun _ i hi => ?_, fun _ => rfl⟩
          by_cases v : i = j
          · rw [v]; exact z
          · exact hb.mp rfl i (by omega)
        · rw [if_neg z]
          exact ih (j + 1) false (by omega) (by omega) ⟨fun v => absurd v (by decide), fun v => absurd (v j (by omega)) z⟩
/-- the page f of entry j of table t goes, and t stays (it may be empty) -/
theorem RP_dp {o w ro eo : Nat → Int32} {t j f : Nat} (h : RP o w ro eo) (ht : t < 64) (ho : o t = 1) (hj : j < 16) (hw : w (16 * t + j) = nI (f + 1)) (hf : f < 64) (of : o f = 4) (ef : eo f = nI (16 * t + j)) (hroot : ∀ s r, s < 4 → r < 64 → ro s = nI (r + 1) → ¬ r = t) :
    RPx t (upd o f 0) (upd w (16 * t + j) 0) ro eo := by
  obtain ⟨⟨K, h⟩, po⟩ := h
  have ne : ∀ q, o q = 1 → ¬ q = f := fun q hq y => by rw [y, of] at hq; exact absurd hq (by decide)
  refine ⟨⟨K, fun s hs => ?_⟩, fun q hq q4 => ?_⟩
  rotate_left
  · have qf : ¬ q = f := fun y => by rw [y, u_eq] at q4; exact absurd q4 (by decide)
    rw [u_ne qf] at q4
    obtain ⟨s', r', i', t', j', a1, a2, a3, a4, a5, a6, a7, a8, a9, a10⟩ := po q hq q4
    have rt := hroot s' r' a1 a2 a6
    exact ⟨s', r', i', t', j', a1, a2, a3, a4, a5, a6, by rw [u_ne (by omega)]; exact a7, by rw [u_ne (fun y => by rw [y, hw] at a8; have := (nI_eq (by omega) (by omega)).mp a8; omega)]; exact a8, by rw [u_ne (ne r' a9)]; exact a9, by rw [u_ne (ne t' a10)]; exact a10⟩
  rcases h s hs with z | ⟨r, a, b, c, d, e⟩
  · exact Or.inl z
  · have rt := hroot s r hs a b
    refine Or.inr ⟨r, a, b, by rw [u_ne (ne r c)]; exact c, d, fun i hi => ?_⟩
    have w1 : upd w (16 * t + j) 0 (16 * r + i) = w (16 * r + i) := u_ne (by omega)
    rcases e i hi with z | ⟨t', a2, b2, c2, d2, ⟨k, k1, k2⟩, f2⟩
    · exact Or.inl (w1.trans z)
    · refine Or.inr ⟨t', a2, w1.trans b2, by rw [u_ne (ne t' c2)]; exact c2, d2, ?_, fun j' hj' => ?_⟩
      · by_cases y : t' = t
        · exact Or.inl y
        · exact Or.inr ⟨k, k1, by rw [u_ne (by omega)]; exact k2⟩
      · by_cases y : 16 * t' + j' = 16 * t + j
        · exact Or.inl (by rw [y, u_eq])
        · rcases f2 j' hj' with z | ⟨g, g1, g2, g3, g4⟩
          · exact Or.inl (by rw [u_ne y]; exact z)
          · have gf : ¬ g = f := fun v => by
              rw [v, ef] at g4
              exact y ((nI_eq (by omega) (by omega)).mp g4).symm
            exact Or.inr ⟨g, g1, by rw [u_ne y]; exact g2, by rw [u_ne gf]; exact g3, g4⟩
/-- a table that isn't empty is no exception -/
theorem RP_ne {x : Nat} {o w ro eo : Nat → Int32} (h : RPx x o w ro eo) (hx : ∃ j, j < 16 ∧ ¬ w (16 * x + j) = 0) : RP o w ro eo := by
  obtain ⟨⟨K, h⟩, po⟩ := h
  refine ⟨⟨K, fun s hs => ?_⟩, po⟩
  rcases h s hs with z | ⟨r, a, b, c, d, e⟩
  · exact Or.inl z
  · refine Or.inr ⟨r, a, b, c, d, fun i hi => ?_⟩
    rcases e i hi with z | ⟨t, a2, b2, c2, d2, e2, f2⟩
    · exact Or.inl z
    · refine Or.inr ⟨t, a2, b2, c2, d2, ?_, f2⟩
      rcases e2 with v | v
      · rw [v]; exact hx
      · exact v
/-- the empty table t at entry i of the root of s goes -/
theorem RP_dt {o w ro eo : Nat → Int32} {s r i t : Nat} (h : RPx t o w ro eo) (hs : s < 4) (hr : r < 64) (hro : ro s = nI (r + 1)) (hi : i < 16) (ht : t < 64) (hw : w (16 * r + i) = nI (t + 1)) (ho : o t = 1) (hz : ∀ j, j < 16 → w (16 * t + j) = 0) :
    RP (upd o t 0) (upd w (16 * r + i) 0) ro eo := by
  obtain ⟨⟨K, h⟩, po⟩ := h
  have Kf : K r = s ∧ K t = 16 + 16 * s + i := by
    rcases h s hs with z | ⟨r', a, b, c, d, e⟩
    · rw [hro] at z; exact absurd ((nI_eq (b := 0) (by omega) (by omega)).mp z) (by omega)
    · have er : r' = r := by have := (nI_eq (by omega) (by omega)).mp (hro.symm.trans b); omega
      subst er
      rcases e i hi with z | ⟨t', a2, b2, c2, d2, e2, f2⟩
      · rw [hw] at z; exact absurd ((nI_eq (b := 0) (by omega) (by omega)).mp z) (by omega)
      · have et : t' = t := by have := (nI_eq (by omega) (by omega)).mp (hw.symm.trans b2); omega
        subst et
        exact ⟨d, d2⟩
  obtain ⟨Kr, Kt⟩ := Kf
  refine ⟨⟨K, fun s' hs' => ?_⟩, fun q hq q4 => ?_⟩
  rotate_left
  · obtain ⟨s', r', i', t', j', a1, a2, a3, a4, a5, a6, a7, a8, a9, a10⟩ := po q hq (u_4 (by decide) q4)
    have nz : ∀ k, k < 64 → ¬ nI (k + 1) = (0 : Int32) := fun k hk y => absurd ((nI_eq (b := 0) (by omega) (by omega)).mp y) (by omega)
    have tt : ¬ t' = t := fun y => by rw [y, hz j' a5] at a8; exact nz q hq a8.symm
    have kk : K r' = s' ∧ K t' = 16 + 16 * s' + i' := by
      rcases h s' a1 with z | ⟨r2, a, b, c, d, e⟩
      · rw [a6] at z; exact absurd z (nz r' a2)
      · have er : r2 = r' := by have := (nI_eq (by omega) (by omega)).mp (a6.symm.trans b); omega
        subst er
        rcases e i' a3 with z | ⟨t2, b1, b2, c2, d2, e2, f2⟩
        · rw [a7] at z; exact absurd z (nz t' a4)
        · have et : t2 = t' := by have := (nI_eq (by omega) (by omega)).mp (a7.symm.trans b2); omega
          subst et
          exact ⟨d, d2⟩
    have rt : ¬ r' = t := fun y => by have := kk.1; rw [y, Kt] at this; omega
    have tr : ¬ t' = r := fun y => by have := kk.2; rw [y, Kr] at this; omega
    exact ⟨s', r', i', t', j', a1, a2, a3, a4, a5, a6, by rw [u_ne (fun y => by rw [y, hw] at a7; have := (nI_eq (by omega) (by omega)).mp a7; omega)]; exact a7, by rw [u_ne (by omega)]; exact a8, by rw [u_ne rt]; exact a9, by rw [u_ne tt]; exact a10⟩
  rcases h s' hs' with z | ⟨r', a, b, c, d, e⟩
  · exact Or.inl z
  · have rt : ¬ r' = t := fun y => by rw [y, Kt] at d; omega
    refine Or.inr ⟨r', a, b, by rw [u_ne rt]; exact c, d, fun i' hi' => ?_⟩
    by_cases y : 16 * r' + i' = 16 * r + i
    · exact Or.inl (by rw [y, u_eq])
    · have w1 : upd w (16 * r + i) 0 (16 * r' + i') = w (16 * r' + i') := u_ne y
      rcases e i' hi' with z | ⟨t', a2, b2, c2, d2, e2, f2⟩
      · exact Or.inl (w1.trans z)
      · have tt : ¬ t' = t := fun v => by
          rw [v, Kt] at d2
          have e3 : s' = s ∧ i' = i := by omega
          have e4 : r' = r := by
            have := (nI_eq (by omega) (by omega)).mp ((e3.1 ▸ b : ro s = nI (r' + 1)).symm.trans hro)
            omega
          exact y (by rw [e4, e3.2])
        have tr : ¬ t' = r := fun v => by rw [v, Kr] at d2; omega
        refine Or.inr ⟨t', a2, w1.trans b2, by rw [u_ne tt]; exact c2, d2, ?_, fun j' hj' => ?_⟩
        · rcases e2 with v | ⟨k, k1, k2⟩
          · exact absurd v tt
          · exact ⟨k, k1, by rw [u_ne (by omega)]; exact k2⟩
        · rcases f2 j' hj' with z | ⟨g, g1, g2, g3, g4⟩
          · exact Or.inl (by rw [u_ne (by omega)]; exact z)
          · have gt : ¬ g = t := fun v => by rw [v, ho] at g3; exact absurd g3 (by decide)
            exact Or.inr ⟨g, g1, by rw [u_ne (by omega)]; exact g2, by rw [u_ne gt]; exact g3, g4⟩
