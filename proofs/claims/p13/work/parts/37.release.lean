/-! ===== release ===== -/
/-- n frames from f on are free, the others as before -/
def fo (o : Nat → Int32) (f n : Nat) : Nat → Int32 := fun j => if f ≤ j ∧ j < f + n then 0 else o j
theorem fo_0 (o : Nat → Int32) (f : Nat) : fo o f 0 = o := by
  funext j
  unfold fo
  rw [if_neg (by omega)]
theorem fo_s (o : Nat → Int32) (f i : Nat) : upd (fo o f i) (f + i) 0 = fo o f (i + 1) := by
  funext j
  unfold fo upd
  by_cases e : j = f + i
  · rw [if_pos e, if_pos (by omega)]
  · rw [if_neg e]
    show (if f ≤ j ∧ j < f + i then (0 : Int32) else o j) = _
    by_cases z : f ≤ j ∧ j < f + i
    · rw [if_pos z, if_pos (by omega)]
    · rw [if_neg z, if_neg (by omega)]
theorem fo_in {o : Nat → Int32} {f n j : Nat} (h : f ≤ j ∧ j < f + n) : fo o f n j = 0 := if_pos h
theorem fo_out {o : Nat → Int32} {f n j : Nat} (h : ¬ (f ≤ j ∧ j < f + n)) : fo o f n j = o j := if_neg h
theorem c_rel (σ : CS) {f n : Nat} (hfn : f + n ≤ 64) (N : Nat) : ∀ (i : Nat) (x : Int64), i ≤ n → n - i < N → FB (fo (gc_o σ) f i) x →
    ∃ y, mc_Runs_remove_l27 N (nI f) (nI n) (nI (f + i)) (sc_fb (sc_o σ (fo (gc_o σ) f i)) x) = mc_Runs_remove_b48 (nI f) (nI n) (sc_fb (sc_o σ (fo (gc_o σ) f n)) y) ∧ FB (fo (gc_o σ) f n) y := by
  induction N with
  | zero => intro i x _ h; exact absurd h (Nat.not_lt_zero _)
  | succ N ih =>
    intro i x hi hN hF
    show ∃ y, mc_Runs_remove_b27 (mc_Runs_remove_l27 N) (nI f) (nI n) (nI (f + i)) (sc_fb (sc_o σ (fo (gc_o σ) f i)) x) = _ ∧ _
    unfold mc_Runs_remove_b27
    rw [nI_add f n]
    by_cases e : i = n
    · subst e
      refine ⟨x, ?_, hF⟩
      rw [if_pos ((nI_leI (by omega) (by omega)).mpr (Nat.le_refl _))]
    · rw [if_neg (fun z => absurd ((nI_leI (by omega) (by omega)).mp z) (by omega)), c_mf _ (show f + i < 64 by omega), cv_r, nI_1, Nat.add_assoc]
      have hF2 := FB_free hF (f := f + i) (by omega)
      rw [fo_s] at hF2
      obtain ⟨y, h1, h2⟩ := ih (i + 1) _ (by omega) (by omega) hF2
      refine ⟨y, ?_, h2⟩
      rw [← h1]
      show mc_Runs_remove_l27 N (nI f) (nI n) (nI (f + (i + 1))) (sc_fb (sc_o σ (upd (fo (gc_o σ) f i) (f + i) 0)) (x ||| ((1 : Int64) <<< ((nI (f + i)).toInt64 &&& 63)))) = _
      rw [fo_s]
theorem m_rel (τ : MS) {f n : Nat} (hfn : f + n ≤ 64) (N : Nat) : ∀ i, i ≤ n → n - i < N → mm_release_l49 N (nI f) (nI n) (nI (f + i)) (sm_o τ (fo (gm_o τ) f i)) = some (nI n, sm_o τ (fo (gm_o τ) f n)) := by
  induction N with
  | zero => intro i _ h; exact absurd h (Nat.not_lt_zero _)
  | succ N ih =>
    intro i hi hN
    show mm_release_b49 (mm_release_l49 N) (nI f) (nI n) (nI (f + i)) (sm_o τ (fo (gm_o τ) f i)) = _
    unfold mm_release_b49
    rw [nI_add f n]
    by_cases e : i = n
    · subst e
      rw [if_pos ((nI_leI (by omega) (by omega)).mpr (Nat.le_refl _))]
    · rw [if_neg (fun z => absurd ((nI_leI (by omega) (by omega)).mp z) (by omega)), gi_n (show f + i < 64 by omega) (by omega), nI_clamp (by omega), wr_r, nI_1, Nat.add_assoc]
      have h1 := ih (i + 1) (by omega) (by omega)
      rw [← fo_s] at h1
      exact h1
theorem RS_o {σ : CS} {τ : MS} (h : RS σ τ) {o' : Nat → Int32} {σ' : CS} {τ' : MS} (hz : gc_sz σ' = gc_sz σ) (ht : gc_tk σ' = gc_tk σ) (mz : gm_sz τ' = gm_sz τ) (mt : gm_tk τ' = gm_tk τ) (ho : gm_o τ' = o') (h2 : ∀ g, g < 64 → (o' g = 2 ↔ gm_o τ g = 2)) : RS σ' τ' := by
  intro g hg
  rw [hz, ht, mz, mt, ho]
  obtain ⟨s1, s2⟩ := h g hg
  exact ⟨fun z => s1 ((h2 g hg).mp z), fun z => s2 (fun y => z ((h2 g hg).mpr y))⟩
/-- .. it answers, or it is refused by 1 -/
def kc1 (cx : Option (Int32 × Nat × CS)) (mx : Option (Int32 × MS)) : Prop :=
  (∃ v σ' τ', cx = some (v, 0, σ') ∧ mx = some (v, τ') ∧ gm_th τ' = 0 ∧ REL σ' τ') ∨
  (∃ b σ' τ', cx = some (0, 1, σ') ∧ mx = some (b, τ') ∧ gm_th τ' = 1 ∧ REL σ' τ')
theorem op_release {σ : CS} {τ : MS} (h : REL σ τ) (x : Int32) : kc1 (mc_release σ x) (mm_release τ x) := by
  obtain ⟨ho, hF, hw, hS, ⟨e1, e2, e3⟩, ⟨u1, u2, u3⟩, ⟨r1, r2, r3⟩, hm⟩ := h
  have h : REL σ τ := ⟨ho, hF, hw, hS, ⟨e1, e2, e3⟩, ⟨u1, u2, u3⟩, ⟨r1, r2, r3⟩, hm⟩
  have out : mc_isFrame x = some 0 → mm_in x 0 63 = some 0 → kc1 (mc_release σ x) (mm_release τ x) := by
    intro h1 h2
    refine Or.inr ⟨0, σ, sm_th τ 1, ?_, ?_, rfl, h⟩
    · unfold mc_release mc_Runs_remove; rw [h1]; rfl
    · unfold mm_release; rw [h2]; rfl
  by_cases h1 : x < 0
  · exact out (by unfold mc_isFrame; rw [if_pos h1]) (m_inL h1)
  · by_cases h2 : (64 : Int32) ≤ x
    · exact out (by unfold mc_isFrame; rw [if_neg h1, if_pos h2]) (m_inG (i_lt 63 (by omega) h2))
    · obtain ⟨f, hf, rfl⟩ := i_in 64 (by omega) h1 h2
      obtain ⟨n, n1, n2, n3, n4⟩ := u2 f hf
      have hmi : mm_in (nI f) (0 : Int32) (63 : Int32) = some 1 := m_inI (n := 63) hf (by omega)
      have hcr : mc_Runs_remove σ (nI f) = if nI n = (0 : Int32) then some ((-1 : Int32), σ) else mc_Runs_remove_l27 FU (nI f) (nI n) (nI f) σ := by
        unfold mc_Runs_remove
        rw [isF hf, cp_r, if_neg (by decide), gi_n hf (by omega), nI_clamp (by omega), gi_c hf (by omega), u1, n2]
      have hmr : mm_release τ (nI f) = if nI n ≤ (0 : Int32) then mm_release_b24 (nI f) τ else mm_release_b25 (nI f) 0 τ := by
        unfold mm_release
        rw [hmi, cp_r, if_neg (by decide), gi_n hf (by omega), nI_clamp (by omega), n2]
      unfold mc_release
      rw [hcr, hmr]
      by_cases z : n = 0
      · subst z
        exact Or.inr ⟨0, σ, sm_th τ 1, rfl, rfl, rfl, h⟩
      · have np : 0 < n := Nat.pos_of_ne_zero z
        rw [if_neg (show ¬ nI n = (0 : Int32) from fun y => z ((nI_eq (b := 0) (by omega) (by omega)).mp y)), if_neg (nI_nle np (by omega))]
        have hF0 : FB (fo (gc_o σ) f 0) (gc_fb σ) := by rw [fo_0]; exact hF
        obtain ⟨y, q1, q2⟩ := c_rel σ n3 FU 0 (gc_fb σ) (by omega) (show n - 0 < 300 by omega) hF0
        rw [fo_0, Nat.add_zero] at q1
        have q1 : mc_Runs_remove_l27 FU (nI f) (nI n) (nI f) σ = _ := q1
        rw [q1]
        have qb : mc_Runs_remove_b48 (nI f) (nI n) (sc_fb (sc_o σ (fo (gc_o σ) f n)) y) = some (nI n, sc_rl (sc_fb (sc_o σ (fo (gc_o σ) f n)) y) (upd (gc_rl σ) f 0)) := by
          unfold mc_Runs_remove_b48
          rw [gi_n hf (by omega), nI_clamp (by omega)]
          rfl
        rw [qb, cw_r]
        have hne : ¬ nI n = (-1 : Int32) := fun y => absurd (nI_pos (n := n) (by omega)) (fun w => w (by rw [y]; decide))
        have hans : mc_orNotAsTold (nI n) = some (nI n, 0) := by unfold mc_orNotAsTold; rw [if_neg hne]
        refine Or.inl ⟨nI n, sc_rl (sc_fb (sc_o σ (fo (gc_o σ) f n)) y) (upd (gc_rl σ) f 0), sm_o (sm_rl (sm_th τ 0) (upd (gm_rl τ) f 0)) (fo (gm_o τ) f n), ?_, ?_, rfl, ?_⟩
        · rw [hans]; rfl
        · unfold mm_release_b25
          rw [tb_0, cw_r, if_pos rfl, gi_n hf (by omega), gi_n hf (by omega), nI_clamp (by omega), wr_r]
          show mm_release_l49 FU (nI f) (gm_rl τ f) (nI f) (sm_rl (sm_th τ 0) (upd (gm_rl τ) f 0)) = _
          rw [n2]
          have w := m_rel (sm_rl (sm_th τ 0) (upd (gm_rl τ) f 0)) n3 FU 0 (by omega) (show n - 0 < 300 by omega)
          rw [fo_0, Nat.add_zero] at w
          exact w
        · have hfive : ∀ g, f ≤ g ∧ g < f + n → gm_o τ g = 5 := fun g hg => by
            have := n4 (g - f) (by omega)
            rw [show f + (g - f) = g by omega] at this
            exact this
          have keep : ∀ g, ∀ c : Int32, ¬ c = 5 → gm_o τ g = c → fo (gm_o τ) f n g = c := fun g c hc hg => by
            by_cases w : f ≤ g ∧ g < f + n
            · rw [hfive g w] at hg; exact absurd hg.symm hc
            · rw [fo_out w]; exact hg
          refine ⟨by show fo (gc_o σ) f n = fo (gm_o τ) f n; rw [ho], q2, ?_, ?_, ⟨e1, e2, EN_mono e3 (fun g _ hg => keep g 3 (by decide) hg)⟩, ⟨by show upd (gc_rl σ) f 0 = upd (gm_rl τ) f 0; rw [u1], ?_, ?_⟩, ⟨r1, r2, RP_mono r3 (fun g _ hg => ⟨keep g 1 (by decide) hg, fun i _ => rfl⟩) (fun g _ hg => ⟨keep g 4 (by decide) hg, rfl⟩) (fun g _ hg => by
            have hg : fo (gm_o τ) f n g = 4 := hg
            by_cases v : f ≤ g ∧ g < f + n
            · rw [fo_in v] at hg; exact absurd hg (by decide)
            · rw [fo_out v] at hg; exact hg)⟩, hm⟩
          · intro j hj hne
            have hne : ¬ fo (gm_o τ) f n (j / 16) = 0 := hne
            refine hw j hj (fun w => hne ?_)
            by_cases v : f ≤ j / 16 ∧ j / 16 < f + n
            · exact fo_in v
            · rw [fo_out v]; exact w
          · refine RS_o hS rfl rfl rfl rfl (o' := fo (gm_o τ) f n) rfl (fun g _ => ⟨fun w => ?_, fun w => keep g 2 (by decide) w⟩)
            by_cases v : f ≤ g ∧ g < f + n
            · rw [fo_in v] at w; exact absurd w (by decide)
            · rw [fo_out v] at w; exact w
          · intro g hg
            show ∃ m, m ≤ 32 ∧ upd (gm_rl τ) f 0 g = nI m ∧ g + m ≤ 64 ∧ ∀ i, i < m → fo (gm_o τ) f n (g + i) = 5
            by_cases w : g = f
            · exact ⟨0, by omega, by rw [w, u_eq]; rfl, by omega, fun i hi => absurd hi (Nat.not_lt_zero _)⟩
            · obtain ⟨m, m1, m2, m3, m4⟩ := u2 g hg
              refine ⟨m, m1, by rw [u_ne w]; exact m2, m3, fun i hi => ?_⟩
              rw [fo_out]
              · exact m4 i hi
              · intro v
                rcases Nat.lt_or_gt_of_ne w with lt | gt
                · have := u3 g f lt hf (by rw [n2]; exact fun y => z ((nI_eq (b := 0) (by omega) (by omega)).mp y)) m m1 m2
                  omega
                · have := u3 f g gt hg (by rw [m2]; exact fun y => absurd ((nI_eq (b := 0) (by omega) (by omega)).mp y) (by omega)) n n1 n2
                  omega
          · intro p q hpq hq hne m hm1 hm2
            have hne : ¬ upd (gm_rl τ) f 0 q = 0 := hne
            have hm2 : upd (gm_rl τ) f 0 p = nI m := hm2
            by_cases wq : q = f
            · rw [wq, u_eq] at hne; exact absurd rfl hne
            · rw [u_ne wq] at hne
              by_cases wp : p = f
              · rw [wp, u_eq] at hm2
                have : m = 0 := ((nI_eq (a := 0) (by omega) (by omega)).mp hm2).symm
                omega
              · rw [u_ne wp] at hm2
                exact u3 p q hpq hq hne m hm1 hm2
