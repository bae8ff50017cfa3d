/-! ===== one call on fresh stores ===== -/
theorem in_ (n : Nat) (hn : n < 2 ^ 31) {x : Int32} (h1 : ¬ x < 0) (h2 : ¬ nI n ≤ x) : ∃ k, k < n ∧ x = nI k := by
  obtain ⟨k, hk, rfl⟩ := nI_of h1
  exact ⟨k, Nat.lt_of_not_le (fun z => h2 ((nI_leI hn hk).mpr z)), rfl⟩
theorem in_le (n : Nat) (hn : n + 1 < 2 ^ 31) {x : Int32} (h1 : ¬ x < 0) (h2 : ¬ nI n < x) : ∃ k, k < n + 1 ∧ x = nI k := by
  obtain ⟨k, hk, rfl⟩ := nI_of h1
  exact ⟨k, Nat.lt_succ_of_le (Nat.le_of_not_lt (fun z => h2 ((nI_ltI (by omega) hk).mpr z))), rfl⟩
theorem lt01 {x : Int32} (h : ¬ x < 1) : ¬ x < 0 := fun z => h (by
  rw [Int32.lt_iff_toInt_lt] at z ⊢
  have e0 : (0 : Int32).toInt = 0 := by decide
  have e1 : (1 : Int32).toInt = 1 := by decide
  omega)
theorem ev3 {S : Type} {x : Option (Int32 × Nat × S)} {v : Int32} {n : Nat} (h : x.map (fun r => (r.1, r.2.1)) = some (v, n)) : ∃ s, x = some (v, n, s) := by
  cases x with
  | none => cases h
  | some r =>
    obtain ⟨a, b, c⟩ := r
    cases h
    exact ⟨c, rfl⟩
theorem ev2 {x : Option (Int32 × MS)} {b t : Int32} (h : x.map (fun r => (r.1, gm_th r.2)) = some (b, t)) : ∃ s, x = some (b, s) ∧ gm_th s = t := by
  cases x with
  | none => cases h
  | some r =>
    obtain ⟨a, c⟩ := r
    have h := Option.some.inj h
    obtain ⟨h1, h2⟩ := Prod.mk.inj h
    subst h1
    exact ⟨c, rfl, h2⟩
theorem ev1 {x : Option MS} {t : Int32} (h : x.map (fun r => gm_th r) = some t) : ∃ s, x = some s ∧ gm_th s = t := by
  cases x with
  | none => cases h
  | some r => exact ⟨r, rfl, Option.some.inj h⟩
theorem cp_s {β : Type} {r : Int32} {k : Int32 → Option β} : mi_cp (some r) k = k r := rfl
theorem wr_s {α β : Type} {a : α} {k : α → β} : mi_wr a k = k a := rfl
theorem tb_s {τ : MS} {n : Int32} (hn : ¬ n ≤ 0) : mm_throwsBy τ n = some (1, sm_th τ n) := by
  unfold mm_throwsBy
  rw [wr_s, if_neg hn]
theorem inL {x a b : Int32} (h : x < a) : mm_in x a b = some 0 := by unfold mm_in; rw [if_pos h]
theorem inG {x a b : Int32} (h : b < x) : mm_in x a b = some 0 := by
  unfold mm_in
  by_cases h1 : x < a
  · rw [if_pos h1]
  · rw [if_neg h1, if_pos h]
/-! the class -/
theorem z_pA1 : ∀ k, k < 1024 → mc_Slabs_placeAt CS0 (nI k) = some (-1) := by decide +kernel
theorem z_pA (x : Int32) : mc_Slabs_placeAt CS0 x = some (-1) := by
  by_cases h1 : x < 0
  · unfold mc_Slabs_placeAt; rw [if_pos h1]
  · by_cases h2 : (1024 : Int32) ≤ x
    · unfold mc_Slabs_placeAt; rw [if_neg h1, if_pos h2]
    · obtain ⟨k, hk, rfl⟩ := in_ 1024 (by omega) h1 h2
      exact z_pA1 k hk
theorem z_iT1 : ∀ k, k < 4 → mc_Spaces_isThere CS0 (nI k) = some 0 := by decide +kernel
theorem z_iT (x : Int32) : mc_Spaces_isThere CS0 x = some 0 := by
  by_cases h1 : x < 0
  · unfold mc_Spaces_isThere; rw [if_pos h1]
  · by_cases h2 : (4 : Int32) ≤ x
    · unfold mc_Spaces_isThere; rw [if_neg h1, if_pos h2]
    · obtain ⟨k, hk, rfl⟩ := in_ 4 (by omega) h1 h2
      exact z_iT1 k hk
theorem z_rF1 : ∀ k, k < 64 → mc_Ranges_frameOf CS0 (nI k) = some (-1) := by decide +kernel
theorem z_rF (x : Int32) : mc_Ranges_frameOf CS0 x = some (-1) := by
  by_cases h1 : x < 0
  · unfold mc_Ranges_frameOf; rw [if_pos h1]
  · by_cases h2 : (64 : Int32) ≤ x
    · unfold mc_Ranges_frameOf; rw [if_neg h1, if_pos h2]
    · obtain ⟨k, hk, rfl⟩ := in_ 64 (by omega) h1 h2
      exact z_rF1 k hk
theorem z_fd (x : Int32) : ∃ r, mc_floorDiv x 16 = some r := by
  unfold mc_floorDiv
  rw [mi_gd_no (by decide)]
  split
  · exact ⟨_, rfl⟩
  · split
    · exact ⟨_, rfl⟩
    · exact ⟨_, rfl⟩
theorem z_rP (x : Int32) : mc_Ranges_placeAt CS0 x = some (-1) := by
  obtain ⟨r, hr⟩ := z_fd x
  unfold mc_Ranges_placeAt
  rw [hr]
  show mi_cp (mc_Ranges_frameOf CS0 r) _ = _
  rw [z_rF]
  rfl
theorem z_cS (x : Int32) : mc_checkSpace CS0 x = some (0, 1) := by
  unfold mc_checkSpace
  rw [z_iT]
  rfl
theorem z_cP (x y z : Int32) : mc_checkPages CS0 x y z = some (0, 1) := by
  unfold mc_checkPages
  rw [z_cS]
  rfl
theorem z_pO1 (y : Int32) : mc_placeOf CS0 (-1) y = some (0, 2, CS0) := by
  unfold mc_placeOf
  rw [if_pos rfl, z_pA]
  rfl
theorem z_pO2 (y : Int32) : mc_placeOf CS0 (-2) y = some (0, 2, CS0) := by
  unfold mc_placeOf
  rw [if_neg (by decide), if_pos rfl, z_rP]
  rfl
theorem z_pO3 {x : Int32} (y : Int32) (h1 : ¬ x = -1) (h2 : ¬ x = -2) : mc_placeOf CS0 x y = some (0, 1, CS0) := by
  unfold mc_placeOf
  rw [if_neg h1, if_neg h2, z_cS]
  rfl
/-! the reference -/
theorem y_iO1 : ∀ k, k < 1024 → mm_isObject MS0 (nI k) = some 0 := by decide +kernel
theorem y_iO (x : Int32) : mm_isObject MS0 x = some 0 := by
  by_cases h1 : x < 0
  · unfold mm_isObject; rw [inL h1]; rfl
  · by_cases h2 : (1023 : Int32) < x
    · unfold mm_isObject; rw [inG h2]; rfl
    · obtain ⟨k, hk, rfl⟩ := in_le 1023 (by omega) h1 h2
      exact y_iO1 k hk
theorem y_iS1 : ∀ k, k < 4 → mm_isSpace MS0 (nI k) = some 0 := by decide +kernel
theorem y_iS (x : Int32) : mm_isSpace MS0 x = some 0 := by
  by_cases h1 : x < 0
  · unfold mm_isSpace; rw [inL h1]; rfl
  · by_cases h2 : (3 : Int32) < x
    · unfold mm_isSpace; rw [inG h2]; rfl
    · obtain ⟨k, hk, rfl⟩ := in_le 3 (by omega) h1 h2
      exact y_iS1 k hk
theorem y_iS0 (x : Int32) : mm_isSpace (sm_th MS0 0) x = some 0 := y_iS x
theorem y_w1 (y : Int32) : mm_wrong MS0 (-1) y = some 2 := by
  unfold mm_wrong
  rw [if_pos rfl, y_iO]
  rfl
theorem y_w2a : ∀ k, k < 1024 → mm_wrong MS0 (-2) (nI k) = some 2 := by decide +kernel
theorem y_w2 (y : Int32) : mm_wrong MS0 (-2) y = some 2 := by
  by_cases h1 : y < 0
  · unfold mm_wrong; rw [if_neg (by decide), if_pos rfl, inL h1]; rfl
  · by_cases h2 : (1023 : Int32) < y
    · unfold mm_wrong; rw [if_neg (by decide), if_pos rfl, inG h2]; rfl
    · obtain ⟨k, hk, rfl⟩ := in_le 1023 (by omega) h1 h2
      exact y_w2a k hk
theorem y_w3 {x : Int32} (y : Int32) (h1 : ¬ x = -1) (h2 : ¬ x = -2) : mm_wrong MS0 x y = some 1 := by
  unfold mm_wrong
  rw [if_neg h1, if_neg h2, y_iS]
  rfl
theorem y_km {x y : Int32} (h : mm_in x 1 8 = mm_in y 1 8) (n : Nat) : ∀ (a b c : Int32) (σ : MS), mm_kmalloc_l27 n x a b c σ = mm_kmalloc_l27 n y a b c σ := by
  induction n with
  | zero => intro a b c σ; rfl
  | succ n ih =>
    intro a b c σ
    show mm_kmalloc_b27 (mm_kmalloc_l27 n) x a b c σ = mm_kmalloc_b27 (mm_kmalloc_l27 n) y a b c σ
    unfold mm_kmalloc_b27 mm_kmalloc_b85
    rw [h]
    simp only [ih]
/-! the cases -/
section P1
variable {Inv : CS → MS → Prop}
theorem e0c : ∀ k, k < 9 → 1 ≤ k → (mc_kmalloc CS0 (nI k)).map (fun r => (r.1, r.2.1)) = some (0, 0) := by decide +kernel
theorem e0m : ∀ k, k < 9 → 1 ≤ k → (mm_kmalloc MS0 (nI k)).map (fun r => (r.1, gm_th r.2)) = some (0, 0) := by decide +kernel
theorem e0a : (mm_kmalloc_l27 FU 0 2 (-1) 63 MS0).map (fun r => (r.1, gm_th r.2)) = some (0, 1) := by decide +kernel
theorem e0b : (mm_kmalloc_l27 FU 9 8 (-1) 63 MS0).map (fun r => (r.1, gm_th r.2)) = some (0, 1) := by decide +kernel
theorem le8 {x : Int32} (h : ¬ x ≤ 8) : 8 < x ∧ 4 < x ∧ 2 < x := by
  rw [Int32.le_iff_toInt_le] at h
  simp only [Int32.lt_iff_toInt_lt]
  have e8 : (8 : Int32).toInt = 8 := by decide
  have e4 : (4 : Int32).toInt = 4 := by decide
  have e2 : (2 : Int32).toInt = 2 := by decide
  omega
theorem lt1 {x : Int32} (h : x < 1) : ¬ 2 < x ∧ ¬ x = nI 1 := by
  rw [Int32.lt_iff_toInt_lt] at h
  have e1 : (1 : Int32).toInt = 1 := by decide
  have e2 : (2 : Int32).toInt = 2 := by decide
  refine ⟨?_, ?_⟩
  · rw [Int32.lt_iff_toInt_lt]; omega
  · intro z
    rw [z] at h
    exact absurd h (by decide)
theorem p1_0 (hI : ∀ σ τ, Inv σ τ) (x1 x2 x3 : Int32) : st_0 Inv CS0 MS0 x1 x2 x3 := by
  by_cases h1 : x1 < 1
  · have hc : mc_kmalloc CS0 x1 = some (0, 1, CS0) := by unfold mc_kmalloc; rw [if_pos h1]; rfl
    obtain ⟨τ1, h2, h3⟩ := ev2 e0a
    have hm : mm_kmalloc MS0 x1 = some (0, τ1) := by
      unfold mm_kmalloc
      rw [if_neg (lt1 h1).1, y_km (x := x1) (y := 0) ((inL h1).trans (inL (by decide)).symm), h2]
    exact ⟨0, 1, 1, CS0, 0, τ1, hc, Or.inr (Or.inl ⟨rfl, rfl⟩), hm, h3, fun h => absurd h (by decide), hI _ _⟩
  · by_cases h2 : x1 ≤ 8
    · obtain ⟨k, hk, e⟩ := in_ 9 (by omega) (lt01 h1) (x := x1) (fun z => by
        rw [Int32.le_iff_toInt_le] at h2 z
        have e8 : (8 : Int32).toInt = 8 := by decide
        have e9 : (nI 9).toInt = 9 := by decide
        omega)
      subst e
      have hk1 : 1 ≤ k := by
        rcases Nat.eq_zero_or_pos k with z | z
        · subst z; exact absurd (show nI 0 < 1 by decide) h1
        · exact z
      obtain ⟨σ1, hc⟩ := ev3 (e0c k hk hk1)
      obtain ⟨τ1, hm, h3⟩ := ev2 (e0m k hk hk1)
      exact ⟨0, 0, 0, σ1, 0, τ1, hc, Or.inl ⟨rfl, rfl⟩, hm, h3, fun _ => rfl, hI _ _⟩
    · have hc : mc_kmalloc CS0 x1 = some (0, 1, CS0) := by unfold mc_kmalloc; rw [if_neg h1, if_neg h2]; rfl
      obtain ⟨τ1, h4, h3⟩ := ev2 e0b
      obtain ⟨g1, g2, g3⟩ := le8 h2
      have hm : mm_kmalloc MS0 x1 = some (0, τ1) := by
        unfold mm_kmalloc
        rw [if_pos g3, if_pos g2, y_km (x := x1) (y := 9) ((inG g1).trans (inG (by decide)).symm), h4]
      exact ⟨0, 1, 1, CS0, 0, τ1, hc, Or.inr (Or.inl ⟨rfl, rfl⟩), hm, h3, fun h => absurd h (by decide), hI _ _⟩

theorem e1m : ∀ x, mm_kfree MS0 x = some (sm_th MS0 1) := fun x => by
  unfold mm_kfree
  rw [y_iO]
  rfl
theorem p1_1 (hI : ∀ σ τ, Inv σ τ) (x1 x2 x3 : Int32) : st_1 Inv CS0 MS0 x1 x2 x3 := by
  have hc : mc_kfree CS0 x1 = some (0, 1, CS0) := by
    unfold mc_kfree mc_Slabs_remove
    rw [z_pA]
    rfl
  exact ⟨0, 1, 1, CS0, _, hc, Or.inr ⟨rfl, rfl⟩, e1m x1, rfl, trivial, hI _ _⟩
theorem e2c : ∀ k, k < 9 → 1 ≤ k → (mc_vmalloc CS0 (nI k)).map (fun r => (r.1, r.2.1)) = some (0, 0) := by decide +kernel
theorem e2m : ∀ k, k < 9 → 1 ≤ k → (mm_vmalloc MS0 (nI k)).map (fun r => (r.1, gm_th r.2)) = some (0, 0) := by decide +kernel
theorem i19 {x : Int32} (h1 : ¬ x < 1) (h2 : x ≤ 8) : ∃ k, k < 9 ∧ 1 ≤ k ∧ x = nI k := by
  obtain ⟨k, hk, e⟩ := in_ 9 (by omega) (lt01 h1) (x := x) (fun z => by
    rw [Int32.le_iff_toInt_le] at h2 z
    have e8 : (8 : Int32).toInt = 8 := by decide
    have e9 : (nI 9).toInt = 9 := by decide
    omega)
  subst e
  refine ⟨k, hk, ?_, rfl⟩
  rcases Nat.eq_zero_or_pos k with z | z
  · subst z; exact absurd (show nI 0 < 1 by decide) h1
  · exact z
theorem e2n {x : Int32} (h : mm_in x 1 8 = some 0) : mm_vmalloc MS0 x = some (0, sm_th MS0 1) := by
  unfold mm_vmalloc
  rw [h]
  rfl
theorem p1_2 (hI : ∀ σ τ, Inv σ τ) (x1 x2 x3 : Int32) : st_2 Inv CS0 MS0 x1 x2 x3 := by
  by_cases h1 : x1 < 1
  · have hc : mc_vmalloc CS0 x1 = some (0, 1, CS0) := by unfold mc_vmalloc; rw [if_pos h1]; rfl
    exact ⟨0, 1, 1, CS0, 0, _, hc, Or.inr (Or.inl ⟨rfl, rfl⟩), e2n (inL h1), rfl, fun h => absurd h (by decide), hI _ _⟩
  · by_cases h2 : x1 ≤ 8
    · obtain ⟨k, hk, hk1, rfl⟩ := i19 h1 h2
      obtain ⟨σ1, hc⟩ := ev3 (e2c k hk hk1)
      obtain ⟨τ1, hm, h3⟩ := ev2 (e2m k hk hk1)
      exact ⟨0, 0, 0, σ1, 0, τ1, hc, Or.inl ⟨rfl, rfl⟩, hm, h3, fun _ => rfl, hI _ _⟩
    · have hc : mc_vmalloc CS0 x1 = some (0, 1, CS0) := by unfold mc_vmalloc; rw [if_neg h1, if_neg h2]; rfl
      exact ⟨0, 1, 1, CS0, 0, _, hc, Or.inr (Or.inl ⟨rfl, rfl⟩), e2n (inG (le8 h2).1), rfl, fun h => absurd h (by decide), hI _ _⟩
theorem e3c1 : ∀ k, k < 1024 → (mc_vfree CS0 (nI k)).map (fun r => (r.1, r.2.1)) = some (0, 1) := by decide +kernel
theorem e3c (x : Int32) : (mc_vfree CS0 x).map (fun r => (r.1, r.2.1)) = some (0, 1) := by
  by_cases h1 : x < 0
  · unfold mc_vfree mc_Ranges_remove; rw [if_pos h1]; rfl
  · by_cases h2 : (1024 : Int32) ≤ x
    · unfold mc_vfree mc_Ranges_remove; rw [if_neg h1, if_pos h2]; rfl
    · obtain ⟨k, hk, rfl⟩ := in_ 1024 (by omega) h1 h2
      exact e3c1 k hk
theorem e3m1 : ∀ k, k < 1024 → (mm_vfree MS0 (nI k)).map (fun r => (r.1, gm_th r.2)) = some (0, 1) := by decide +kernel
theorem e3m (x : Int32) : (mm_vfree MS0 x).map (fun r => (r.1, gm_th r.2)) = some (0, 1) := by
  by_cases h1 : x < 0
  · unfold mm_vfree; rw [inL h1]; rfl
  · by_cases h2 : (1023 : Int32) < x
    · unfold mm_vfree; rw [inG h2]; rfl
    · obtain ⟨k, hk, rfl⟩ := in_le 1023 (by omega) h1 h2
      exact e3m1 k hk
theorem p1_3 (hI : ∀ σ τ, Inv σ τ) (x1 x2 x3 : Int32) : st_3 Inv CS0 MS0 x1 x2 x3 := by
  obtain ⟨σ1, hc⟩ := ev3 (e3c x1)
  obtain ⟨τ1, hm, h3⟩ := ev2 (e3m x1)
  exact ⟨0, 1, 1, σ1, 0, τ1, hc, Or.inr ⟨rfl, rfl⟩, hm, h3, fun h => absurd h (by decide), hI _ _⟩
theorem e4c : (mc_create CS0).map (fun r => (r.1, r.2.1)) = some (0, 0) := by decide +kernel
theorem e4m : (mm_create MS0).map (fun r => (r.1, gm_th r.2)) = some (0, 0) := by decide +kernel
theorem p1_4 (hI : ∀ σ τ, Inv σ τ) (x1 x2 x3 : Int32) : st_4 Inv CS0 MS0 x1 x2 x3 := by
  obtain ⟨σ1, hc⟩ := ev3 e4c
  obtain ⟨τ1, hm, h3⟩ := ev2 e4m
  exact ⟨0, 0, 0, σ1, 0, τ1, hc, Or.inl ⟨rfl, rfl⟩, hm, h3, fun _ => rfl, hI _ _⟩
theorem p1_5 (hI : ∀ σ τ, Inv σ τ) (x1 x2 x3 : Int32) : st_5 Inv CS0 MS0 x1 x2 x3 := by
  have hc : mc_destroy CS0 x1 = some (0, 1, CS0) := by
    unfold mc_destroy mc_Spaces_remove
    rw [z_iT]
    rfl
  have hm : mm_destroy MS0 x1 = some (0, sm_th MS0 1) := by
    unfold mm_destroy
    rw [y_iS]
    rfl
  exact ⟨0, 1, 1, CS0, 0, _, hc, Or.inr ⟨rfl, rfl⟩, hm, rfl, fun h => absurd h (by decide), hI _ _⟩
theorem p1_6 (hI : ∀ σ τ, Inv σ τ) (x1 x2 x3 : Int32) : st_6 Inv CS0 MS0 x1 x2 x3 := by
  have hc : mc_mmap CS0 x1 x2 x3 = some (0, 1, CS0) := by
    unfold mc_mmap
    rw [z_cP]
    rfl
  have hm : mm_mmap MS0 x1 x2 x3 = some (sm_th MS0 1) := by
    unfold mm_mmap
    rw [y_iS]
    rfl
  exact ⟨0, 1, 1, CS0, _, hc, Or.inr ⟨rfl, rfl⟩, hm, rfl, trivial, hI _ _⟩
theorem p1_7 (hI : ∀ σ τ, Inv σ τ) (x1 x2 x3 : Int32) : st_7 Inv CS0 MS0 x1 x2 x3 := by
  have hc : mc_munmap CS0 x1 x2 x3 = some (0, 1, CS0) := by
    unfold mc_munmap
    rw [z_cP]
    rfl
  have hm : mm_munmap MS0 x1 x2 x3 = some (0, sm_th MS0 1) := by
    unfold mm_munmap
    rw [y_iS]
    rfl
  exact ⟨0, 1, 1, CS0, 0, _, hc, Or.inr ⟨rfl, rfl⟩, hm, rfl, fun h => absurd h (by decide), hI _ _⟩
theorem e8c {x y : Int32} {n : Nat} (h : mc_placeOf CS0 x y = some (0, n + 1, CS0)) : mc_load CS0 x y = some (0, n + 1, CS0) := by
  unfold mc_load
  rw [h]
  rfl
theorem e8m {x y n : Int32} (h : mm_wrong MS0 x y = some n) (hn : ¬ n ≤ 0) : mm_load MS0 x y = some (0, sm_th MS0 n) := by
  unfold mm_load
  rw [h, cp_s, tb_s hn]
  rfl
theorem p1_8 (hI : ∀ σ τ, Inv σ τ) (x1 x2 x3 : Int32) : st_8 Inv CS0 MS0 x1 x2 x3 := by
  by_cases h1 : x1 = -1
  · subst h1
    exact ⟨0, 2, 2, CS0, 0, _, e8c (z_pO1 x2), Or.inr (Or.inr (Or.inl ⟨rfl, rfl⟩)), e8m (y_w1 x2) (by decide), rfl, fun h => absurd h (by decide), hI _ _⟩
  · by_cases h2 : x1 = -2
    · subst h2
      exact ⟨0, 2, 2, CS0, 0, _, e8c (z_pO2 x2), Or.inr (Or.inr (Or.inl ⟨rfl, rfl⟩)), e8m (y_w2 x2) (by decide), rfl, fun h => absurd h (by decide), hI _ _⟩
    · exact ⟨0, 1, 1, CS0, 0, _, e8c (z_pO3 x2 h1 h2), Or.inr (Or.inl ⟨rfl, rfl⟩), e8m (y_w3 x2 h1 h2) (by decide), rfl, fun h => absurd h (by decide), hI _ _⟩
theorem e9c {x y z : Int32} {n : Nat} (h : mc_placeOf CS0 x y = some (0, n + 1, CS0)) : mc_store CS0 x y z = some (0, n + 1, CS0) := by
  unfold mc_store
  rw [h]
  rfl
theorem e9m {x y z n : Int32} (h : mm_wrong MS0 x y = some n) (hn : ¬ n ≤ 0) : mm_store MS0 x y z = some (sm_th MS0 n) := by
  unfold mm_store
  rw [h, cp_s, tb_s hn]
  rfl
theorem p1_9 (hI : ∀ σ τ, Inv σ τ) (x1 x2 x3 : Int32) : st_9 Inv CS0 MS0 x1 x2 x3 := by
  by_cases h1 : x1 = -1
  · subst h1
    exact ⟨0, 2, 2, CS0, _, e9c (z_pO1 x2), Or.inr (Or.inr (Or.inl ⟨rfl, rfl⟩)), e9m (y_w1 x2) (by decide), rfl, trivial, hI _ _⟩
  · by_cases h2 : x1 = -2
    · subst h2
      exact ⟨0, 2, 2, CS0, _, e9c (z_pO2 x2), Or.inr (Or.inr (Or.inl ⟨rfl, rfl⟩)), e9m (y_w2 x2) (by decide), rfl, trivial, hI _ _⟩
    · exact ⟨0, 1, 1, CS0, _, e9c (z_pO3 x2 h1 h2), Or.inr (Or.inl ⟨rfl, rfl⟩), e9m (y_w3 x2 h1 h2) (by decide), rfl, trivial, hI _ _⟩
theorem e10c : ∀ k, k < 6 → (mc_contig CS0 (nI k)).map (fun r => (r.1, r.2.1)) = some (0, 0) := by decide +kernel
theorem e10m : ∀ k, k < 6 → (mm_contig MS0 (nI k)).map (fun r => (r.1, gm_th r.2)) = some (0, 0) := by decide +kernel
theorem e10b : (mm_contig_b18 0 1 MS0).map (fun r => (r.1, gm_th r.2)) = some (0, 1) := by decide +kernel
theorem e10n {x : Int32} (h : mm_in x 0 5 = some 0) : (mm_contig MS0 x).map (fun r => (r.1, gm_th r.2)) = some (0, 1) := by
  have e : mm_contig MS0 x = mm_contig_b18 0 1 MS0 := by
    unfold mm_contig
    rw [h, cp_s, if_pos rfl]
  rw [e]
  exact e10b
theorem p1_10 (hI : ∀ σ τ, Inv σ τ) (x1 x2 x3 : Int32) : st_10 Inv CS0 MS0 x1 x2 x3 := by
  by_cases h1 : x1 < 0
  · have hc : mc_contig CS0 x1 = some (0, 1, CS0) := by unfold mc_contig; rw [if_pos h1]; rfl
    obtain ⟨τ1, hm, h3⟩ := ev2 (e10n (inL h1))
    exact ⟨0, 1, 1, CS0, 0, τ1, hc, Or.inr (Or.inl ⟨rfl, rfl⟩), hm, h3, fun h => absurd h (by decide), hI _ _⟩
  · by_cases h2 : x1 ≤ 5
    · obtain ⟨k, hk, e⟩ := in_le 5 (by omega) h1 (x := x1) (fun z => by
        rw [Int32.le_iff_toInt_le] at h2
        rw [Int32.lt_iff_toInt_lt] at z
        have e5 : (5 : Int32).toInt = 5 := by decide
        have e9 : (nI 5).toInt = 5 := by decide
        omega)
      subst e
      obtain ⟨σ1, hc⟩ := ev3 (e10c k hk)
      obtain ⟨τ1, hm, h3⟩ := ev2 (e10m k hk)
      exact ⟨0, 0, 0, σ1, 0, τ1, hc, Or.inl ⟨rfl, rfl⟩, hm, h3, fun _ => rfl, hI _ _⟩
    · have hc : mc_contig CS0 x1 = some (0, 1, CS0) := by unfold mc_contig; rw [if_neg h1, if_neg h2]; rfl
      obtain ⟨τ1, hm, h3⟩ := ev2 (e10n (inG (x := x1) (b := 5) (by
        rw [Int32.le_iff_toInt_le] at h2
        rw [Int32.lt_iff_toInt_lt]
        omega)))
      exact ⟨0, 1, 1, CS0, 0, τ1, hc, Or.inr (Or.inl ⟨rfl, rfl⟩), hm, h3, fun h => absurd h (by decide), hI _ _⟩
theorem e11c1 : ∀ k, k < 64 → (mc_release CS0 (nI k)).map (fun r => (r.1, r.2.1)) = some (0, 1) := by decide +kernel
theorem iF0 {x : Int32} (h1 : x < 0) : mc_isFrame x = some 0 := by unfold mc_isFrame; rw [if_pos h1]
theorem iF1 {x : Int32} (h1 : ¬ x < 0) (h2 : (64 : Int32) ≤ x) : mc_isFrame x = some 0 := by unfold mc_isFrame; rw [if_neg h1, if_pos h2]
theorem e11c (x : Int32) : (mc_release CS0 x).map (fun r => (r.1, r.2.1)) = some (0, 1) := by
  by_cases h1 : x < 0
  · unfold mc_release mc_Runs_remove; rw [iF0 h1]; rfl
  · by_cases h2 : (64 : Int32) ≤ x
    · unfold mc_release mc_Runs_remove; rw [iF1 h1 h2]; rfl
    · obtain ⟨k, hk, rfl⟩ := in_ 64 (by omega) h1 h2
      exact e11c1 k hk
theorem e11m1 : ∀ k, k < 64 → (mm_release MS0 (nI k)).map (fun r => (r.1, gm_th r.2)) = some (0, 1) := by decide +kernel
theorem e11m (x : Int32) : (mm_release MS0 x).map (fun r => (r.1, gm_th r.2)) = some (0, 1) := by
  by_cases h1 : x < 0
  · unfold mm_release; rw [inL h1]; rfl
  · by_cases h2 : (63 : Int32) < x
    · unfold mm_release; rw [inG h2]; rfl
    · obtain ⟨k, hk, rfl⟩ := in_le 63 (by omega) h1 h2
      exact e11m1 k hk
theorem p1_11 (hI : ∀ σ τ, Inv σ τ) (x1 x2 x3 : Int32) : st_11 Inv CS0 MS0 x1 x2 x3 := by
  obtain ⟨σ1, hc⟩ := ev3 (e11c x1)
  obtain ⟨τ1, hm, h3⟩ := ev2 (e11m x1)
  exact ⟨0, 1, 1, σ1, 0, τ1, hc, Or.inr ⟨rfl, rfl⟩, hm, h3, fun h => absurd h (by decide), hI _ _⟩
theorem e12c : ∀ k, k < 64 → mc_owner CS0 (nI k) = some 0 := by decide +kernel
theorem e12m : ∀ k, k < 64 → (mm_owner MS0 (nI k)).map (fun r => (r.1, gm_th r.2)) = some (0, 0) := by decide +kernel
theorem m63 {x : Int32} (h2 : (64 : Int32) ≤ x) : (63 : Int32) < x := by
  rw [Int32.le_iff_toInt_le] at h2
  rw [Int32.lt_iff_toInt_lt]
  have e1 : (63 : Int32).toInt = 63 := by decide
  have e2 : (64 : Int32).toInt = 64 := by decide
  omega
theorem e12n {x : Int32} (h : mm_in x 0 63 = some 0) : mm_owner MS0 x = some (-1, sm_th MS0 0) := by
  unfold mm_owner
  rw [h]
  rfl
theorem e12o {x : Int32} (h : mc_isFrame x = some 0) : mc_owner CS0 x = some (-1) := by
  unfold mc_owner mc_Frames_ownerOf
  rw [h]
  rfl
theorem p1_12 (hI : ∀ σ τ, Inv σ τ) (x1 x2 x3 : Int32) : st_12 Inv CS0 MS0 x1 x2 x3 := by
  by_cases h1 : x1 < 0
  · exact ⟨-1, -1, _, e12o (iF0 h1), e12n (inL h1), rfl, hI _ _⟩
  · by_cases h2 : (64 : Int32) ≤ x1
    · exact ⟨-1, -1, _, e12o (iF1 h1 h2), e12n (inG (m63 h2)), rfl, hI _ _⟩
    · obtain ⟨k, hk, rfl⟩ := in_ 64 (by omega) h1 h2
      obtain ⟨τ1, hm, h3⟩ := ev2 (e12m k hk)
      exact ⟨0, 0, τ1, e12c k hk, hm, rfl, hI _ _⟩
theorem e13m : ∀ k, k < 64 → (mm_frame MS0 (-2) (nI k)).map (fun r => (r.1, gm_th r.2)) = some (-1, 0) := by decide +kernel
theorem e13n {y : Int32} (h : mm_in y 0 63 = some 0) : mm_frame MS0 (-2) y = some (-1, sm_th MS0 0) := by
  unfold mm_frame
  rw [wr_s, if_pos rfl, h]
  rfl
theorem e13o {x : Int32} (y : Int32) (h : ¬ x = -2) : mm_frame MS0 x y = some (-1, sm_th MS0 0) := by
  unfold mm_frame
  rw [wr_s, if_neg h, y_iS0]
  rfl
theorem e13c (x y : Int32) : mc_frame CS0 x y = some (-1) := by
  unfold mc_frame
  by_cases h : x = -2
  · rw [if_pos h, z_rF]
    rfl
  · rw [if_neg h]
    unfold mc_Spaces_frameOf mc_Spaces_tableOf
    rw [z_iT]
    rfl
theorem p1_13 (hI : ∀ σ τ, Inv σ τ) (x1 x2 x3 : Int32) : st_13 Inv CS0 MS0 x1 x2 x3 := by
  by_cases h : x1 = -2
  · subst h
    by_cases h1 : x2 < 0
    · exact ⟨-1, -1, _, e13c _ _, e13n (inL h1), rfl, hI _ _⟩
    · by_cases h2 : (64 : Int32) ≤ x2
      · exact ⟨-1, -1, _, e13c _ _, e13n (inG (m63 h2)), rfl, hI _ _⟩
      · obtain ⟨k, hk, rfl⟩ := in_ 64 (by omega) h1 h2
        obtain ⟨τ1, hm, h3⟩ := ev2 (e13m k hk)
        exact ⟨-1, -1, τ1, e13c _ _, hm, rfl, hI _ _⟩
  · exact ⟨-1, -1, _, e13c _ _, e13o x2 h, rfl, hI _ _⟩
theorem e14c : ∀ k, k < 64 → ∀ w, w < 16 → mc_word CS0 (nI k) (nI w) = some 0 := by decide +kernel
theorem e14m : ∀ k, k < 64 → ∀ w, w < 16 → (mm_word MS0 (nI k) (nI w)).map (fun r => (r.1, gm_th r.2)) = some (0, 0) := by decide +kernel
theorem e14o {x : Int32} (y : Int32) (h : mc_isFrame x = some 0) : mc_word CS0 x y = some 0 := by
  unfold mc_word
  rw [h]
  rfl
theorem e14n {x : Int32} (y : Int32) (h : mm_in x 0 63 = some 0) : mm_word MS0 x y = some (0, sm_th MS0 0) := by
  unfold mm_word
  rw [h]
  rfl
theorem e14p {y : Int32} (h : mm_in y 0 15 = some 0) : ∀ x, ∃ τ1, mm_word MS0 x y = some (0, τ1) := fun x => by
  unfold mm_word mi_wr
  rw [h]
  unfold mm_in
  split
  · exact ⟨_, rfl⟩
  · split
    · exact ⟨_, rfl⟩
    · exact ⟨_, rfl⟩
theorem e14q {y : Int32} (h : y < 0 ∨ (16 : Int32) ≤ y) : ∀ x, mc_word CS0 x y = some 0 := fun x => by
  unfold mc_word mc_isFrame
  split
  · rfl
  · split
    · rfl
    · show (if y < 0 then some 0 else _) = _
      by_cases h1 : y < 0
      · rw [if_pos h1]
      · rw [if_neg h1, if_pos (h.resolve_left h1)]
theorem m15 {x : Int32} (h2 : (16 : Int32) ≤ x) : (15 : Int32) < x := by
  rw [Int32.le_iff_toInt_le] at h2
  rw [Int32.lt_iff_toInt_lt]
  have e1 : (15 : Int32).toInt = 15 := by decide
  have e2 : (16 : Int32).toInt = 16 := by decide
  omega
theorem p1_14 (hI : ∀ σ τ, Inv σ τ) (x1 x2 x3 : Int32) : st_14 Inv CS0 MS0 x1 x2 x3 := by
  by_cases g1 : x2 < 0
  · obtain ⟨τ1, hm⟩ := e14p (inL g1) x1
    exact ⟨0, 0, τ1, e14q (Or.inl g1) x1, hm, rfl, hI _ _⟩
  · by_cases g2 : (16 : Int32) ≤ x2
    · obtain ⟨τ1, hm⟩ := e14p (inG (m15 g2)) x1
      exact ⟨0, 0, τ1, e14q (Or.inr g2) x1, hm, rfl, hI _ _⟩
    · by_cases h1 : x1 < 0
      · exact ⟨0, 0, _, e14o x2 (iF0 h1), e14n x2 (inL h1), rfl, hI _ _⟩
      · by_cases h2 : (64 : Int32) ≤ x1
        · exact ⟨0, 0, _, e14o x2 (iF1 h1 h2), e14n x2 (inG (m63 h2)), rfl, hI _ _⟩
        · obtain ⟨k, hk, rfl⟩ := in_ 64 (by omega) h1 h2
          obtain ⟨w, hw, rfl⟩ := in_ 16 (by omega) g1 g2
          obtain ⟨τ1, hm, h3⟩ := ev2 (e14m k hk w hw)
          exact ⟨0, 0, τ1, e14c k hk w hw, hm, rfl, hI _ _⟩
theorem e15c : ∀ k, k < 7 → mc_blocks CS0 (nI k) = some (if k = 6 then 1 else 0) := by decide +kernel
theorem e15m : ∀ k, k < 7 → (mm_blocks MS0 (nI k)).map (fun r => (r.1, gm_th r.2)) = some (if k = 6 then 1 else 0, 0) := by decide +kernel
theorem e15i : mm_isBlock (sm_th MS0 0) 0 64 = some 1 := by decide +kernel
theorem e15n {x : Int32} (h : mm_in x 0 6 = some 0) : mm_blocks MS0 x = some (0, sm_th MS0 0) := by
  have e2 : mm_blocks_l29 FU x 0 64 0 (sm_th MS0 0) = mm_blocks_l29 299 x 0 64 64 (sm_th MS0 0) := by
    show mm_blocks_b29 (mm_blocks_l29 299) x 0 64 0 (sm_th MS0 0) = _
    unfold mm_blocks_b29
    rw [if_neg (by decide), e15i, h]
    rfl
  have e3 : mm_blocks_l29 299 x 0 64 64 (sm_th MS0 0) = some (0, sm_th MS0 0) := by
    show mm_blocks_b29 (mm_blocks_l29 298) x 0 64 64 (sm_th MS0 0) = _
    unfold mm_blocks_b29
    rw [if_pos (by decide)]
  unfold mm_blocks
  rw [wr_s, h, cp_s, if_pos rfl]
  exact e2.trans e3
theorem p1_15 (hI : ∀ σ τ, Inv σ τ) (x1 x2 x3 : Int32) : st_15 Inv CS0 MS0 x1 x2 x3 := by
  by_cases h1 : x1 < 0
  · have hc : mc_blocks CS0 x1 = some 0 := by unfold mc_blocks; rw [if_pos h1]
    exact ⟨0, 0, _, hc, e15n (inL h1), rfl, hI _ _⟩
  · by_cases h2 : x1 ≤ 6
    · obtain ⟨k, hk, e⟩ := in_le 6 (by omega) h1 (x := x1) (fun z => by
        rw [Int32.le_iff_toInt_le] at h2
        rw [Int32.lt_iff_toInt_lt] at z
        have e5 : (6 : Int32).toInt = 6 := by decide
        have e9 : (nI 6).toInt = 6 := by decide
        omega)
      subst e
      obtain ⟨τ1, hm, h3⟩ := ev2 (e15m k hk)
      exact ⟨_, _, τ1, e15c k hk, hm, rfl, hI _ _⟩
    · have hc : mc_blocks CS0 x1 = some 0 := by unfold mc_blocks; rw [if_neg h1, if_neg h2]
      exact ⟨0, 0, _, hc, e15n (inG (x := x1) (b := 6) (by
        rw [Int32.le_iff_toInt_le] at h2
        rw [Int32.lt_iff_toInt_lt]
        omega)), rfl, hI _ _⟩
theorem e16c : mc_free CS0 = some 64 := by decide +kernel
theorem e16m : (mm_free MS0).map (fun r => (r.1, gm_th r.2)) = some (64, 0) := by decide +kernel
theorem p1_16 (hI : ∀ σ τ, Inv σ τ) (x1 x2 x3 : Int32) : st_16 Inv CS0 MS0 x1 x2 x3 := by
  obtain ⟨τ1, hm, h3⟩ := ev2 e16m
  exact ⟨64, 64, τ1, e16c, hm, rfl, hI _ _⟩
theorem p1_17 (hI : ∀ σ τ, Inv σ τ) (x1 x2 x3 : Int32) : st_17 Inv CS0 MS0 x1 x2 x3 :=
  ⟨0, 0, _, rfl, rfl, rfl, hI _ _⟩
end P1
def pv_Inv (j : Nat) (σ : CS) (τ : MS) : Prop := j = 0 → σ = CS0 ∧ τ = MS0
theorem pv_0 : pv_Inv 0 CS0 MS0 := fun _ => ⟨rfl, rfl⟩
theorem pv_step (j : Nat) (σ : CS) (τ : MS) (h : 4 * j + 4 ≤ 4) (hI : pv_Inv j σ τ) (x1 x2 x3 : Int32) : st_0 (pv_Inv (j + 1)) σ τ x1 x2 x3 ∧ st_1 (pv_Inv (j + 1)) σ τ x1 x2 x3 ∧ st_2 (pv_Inv (j + 1)) σ τ x1 x2 x3 ∧ st_3 (pv_Inv (j + 1)) σ τ x1 x2 x3 ∧ st_4 (pv_Inv (j + 1)) σ τ x1 x2 x3 ∧ st_5 (pv_Inv (j + 1)) σ τ x1 x2 x3 ∧ st_6 (pv_Inv (j + 1)) σ τ x1 x2 x3 ∧ st_7 (pv_Inv (j + 1)) σ τ x1 x2 x3 ∧ st_8 (pv_Inv (j + 1)) σ τ x1 x2 x3 ∧ st_9 (pv_Inv (j + 1)) σ τ x1 x2 x3 ∧ st_10 (pv_Inv (j + 1)) σ τ x1 x2 x3 ∧ st_11 (pv_Inv (j + 1)) σ τ x1 x2 x3 ∧ st_12 (pv_Inv (j + 1)) σ τ x1 x2 x3 ∧ st_13 (pv_Inv (j + 1)) σ τ x1 x2 x3 ∧ st_14 (pv_Inv (j + 1)) σ τ x1 x2 x3 ∧ st_15 (pv_Inv (j + 1)) σ τ x1 x2 x3 ∧ st_16 (pv_Inv (j + 1)) σ τ x1 x2 x3 ∧ st_17 (pv_Inv (j + 1)) σ τ x1 x2 x3 ∧ pv_Inv (j + 1) σ τ := by
  have hj : j = 0 := by omega
  obtain ⟨rfl, rfl⟩ := hI hj
  have hn : ∀ σ τ, pv_Inv (j + 1) σ τ := fun σ τ z => absurd z (by omega)
  exact ⟨p1_0 hn x1 x2 x3, p1_1 hn x1 x2 x3, p1_2 hn x1 x2 x3, p1_3 hn x1 x2 x3, p1_4 hn x1 x2 x3, p1_5 hn x1 x2 x3, p1_6 hn x1 x2 x3, p1_7 hn x1 x2 x3, p1_8 hn x1 x2 x3, p1_9 hn x1 x2 x3, p1_10 hn x1 x2 x3, p1_11 hn x1 x2 x3, p1_12 hn x1 x2 x3, p1_13 hn x1 x2 x3, p1_14 hn x1 x2 x3, p1_15 hn x1 x2 x3, p1_16 hn x1 x2 x3, p1_17 hn x1 x2 x3, hn _ _⟩
