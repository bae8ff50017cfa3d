/-! ===== contig: the loops ===== -/
theorem cpw_j (w : Nat → Int32) (f g j : Nat) : cpw w f g 16 j = if j / 16 = g then w (16 * f + j % 16) else w j := by
  unfold cpw
  by_cases z : j / 16 = g
  · rw [if_pos z, if_pos (by omega), show j - 16 * g = j % 16 by omega]
  · rw [if_neg z, if_neg (by omega)]
/-- in the middle: the block's first k frames are a run on the reference's side, and free on the class's -/
def CR (σ : CS) (τ : MS) (b k : Nat) : Prop :=
  (∀ g, gm_o τ g = if b ≤ g ∧ g < b + k then 5 else gc_o σ g) ∧ (∀ g, b ≤ g → g < b + k → gc_o σ g = 0) ∧ FB (gc_o σ) (gc_fb σ) ∧
  (∀ j, j < 1024 → ¬ gc_o σ (j / 16) = 0 → gc_w σ j = gm_w τ j) ∧ (∀ j, b ≤ j / 16 → j / 16 < b + k → gm_w τ j = 0) ∧ RS σ τ ∧
  (gc_en σ = gm_en τ ∧ gc_ln σ = gm_ln τ ∧ EN (gm_o τ) (gm_en τ) (gm_ln τ)) ∧ (gc_rl σ = gm_rl τ ∧ UN (gm_o τ) (gm_rl τ)) ∧
  (gc_ro σ = gm_ro τ ∧ gc_rg σ = gm_rg τ ∧ RP (gm_o τ) (gm_w τ) (gm_ro τ) (gc_eo σ)) ∧ gc_mv σ = gm_mv τ
theorem CR_0 {σ : CS} {τ : MS} (h : REL σ τ) (b : Nat) : CR σ τ b 0 := by
  obtain ⟨ho, hF, hw, r⟩ := h
  refine ⟨fun g => ?_, fun g _ _ => by omega, hF, fun j hj hn => hw j hj (by rw [← ho]; exact hn), fun j _ _ => by omega, r⟩
  rw [if_neg (by omega), ho]
theorem CR_free {σ : CS} {τ : MS} {b k : Nat} (h : CR σ τ b k) (h64 : b + k < 64) (h0 : gc_o σ (b + k) = 0) : CR σ (ow τ (b + k) 5) b (k + 1) := by
  obtain ⟨c1, c2, hF, hw, hz, hS, ⟨e1, e2, e3⟩, ⟨u1, u2⟩, ⟨r1, r2, r3⟩, hm⟩ := h
  have t0 : gm_o τ (b + k) = 0 := by rw [c1, if_neg (by omega)]; exact h0
  have keep : ∀ g, ∀ c : Int32, ¬ c = 0 → gm_o τ g = c → upd (gm_o τ) (b + k) 5 g = c := fun g c hc hg => by
    by_cases z : g = b + k
    · rw [z, t0] at hg; exact absurd hg.symm hc
    · rw [u_ne z]; exact hg
  refine ⟨fun g => ?_, fun g g1 g2 => ?_, hF, fun j hj hn => ?_, fun j j1 j2 => ?_, ?_, ⟨e1, e2, EN_mono e3 (fun g _ hg => keep g 3 (by decide) hg)⟩, ⟨u1, UN_mono u2 (fun g _ hg => keep g 5 (by decide) hg)⟩, ⟨r1, r2, ?_⟩, hm⟩
  · show upd (gm_o τ) (b + k) 5 g = _
    by_cases z : g = b + k
    · rw [z, u_eq, if_pos (by omega)]
    · rw [u_ne z, c1]
      by_cases y : b ≤ g ∧ g < b + k
      · rw [if_pos y, if_pos (by omega)]
      · rw [if_neg y, if_neg (by omega)]
  · by_cases z : g = b + k
    · rw [z]; exact h0
    · exact c2 g g1 (by omega)
  · show _ = zw (gm_w τ) (b + k) j
    rw [zw_at, if_neg (fun y => hn (by rw [y]; exact h0))]
    exact hw j hj hn
  · show zw (gm_w τ) (b + k) j = 0
    rw [zw_at]
    by_cases z : j / 16 = b + k
    · rw [if_pos z]
    · rw [if_neg z]; exact hz j j1 (by omega)
  · refine RS_o hS rfl rfl rfl rfl (o' := upd (gm_o τ) (b + k) 5) rfl (fun g _ => ⟨fun w => ?_, fun w => keep g 2 (by decide) w⟩)
    by_cases v : g = b + k
    · rw [v, u_eq] at w; exact absurd w (by decide)
    · rw [u_ne v] at w; exact w
  · refine RP_mono r3 (fun g hg z => ⟨keep g 1 (by decide) z, fun i hi => ?_⟩) (fun g hg z => ⟨keep g 4 (by decide) z, rfl⟩) (fun g _ z => u_4 (v := 5) (by decide) z)
    exact zw_ne (fun y => by rw [y, t0] at z; exact absurd z (by decide)) hi
theorem CR_page {σ : CS} {τ : MS} {b k n g : Nat} (h : CR σ τ b k) (hk : k < n) (hbn : b + n ≤ 64) (h4 : gc_o σ (b + k) = 4) (hg : g < 64) (g0 : gc_o σ g = 0) (gb : ¬ (b ≤ g ∧ g < b + n)) :
    ∃ e, e < 1024 ∧ gc_eo σ (b + k) = nI e ∧ mm_moveOut_b36 (nI (b + k)) (nI g) τ = some (mvM τ (b + k) g e) ∧ CR (sc_mv (mvC σ (b + k) g e) (gc_mv (mvC σ (b + k) g e) + 1)) (ow (mvM τ (b + k) g e) (b + k) 5) b (k + 1) := by
  obtain ⟨c1, c2, hF, hw, hz, hS, ⟨e1, e2, e3⟩, ⟨u1, u2⟩, ⟨r1, r2, ⟨K, rk⟩, po⟩, hm⟩ := h
  have rk : RPk K (gm_o τ) (gm_w τ) (gm_ro τ) (gc_eo σ) := rk
  have h64 : b + k < 64 := by omega
  have t4 : gm_o τ (b + k) = 4 := by rw [c1, if_neg (by omega)]; exact h4
  have tg : gm_o τ g = 0 := by rw [c1, if_neg (by omega)]; exact g0
  obtain ⟨s, r, i, t, j, p⟩ := po (b + k) h64 t4
  obtain ⟨kr, kt, -, ef⟩ := PT_k rk h64 p
  have hmo := m_mvo rk po h64 hg tg p
  have p0 := p
  obtain ⟨a1, a2, a3, a4, a5, a6, a7, a8, a9, a10⟩ := p
  have nf : ∀ q, gm_o τ q = 1 → ¬ q = b + k := fun q hq y => by rw [y, t4] at hq; exact absurd hq (by decide)
  have ng : ∀ q, gm_o τ q = 1 → ¬ q = g := fun q hq y => by rw [y, tg] at hq; exact absurd hq (by decide)
  have gf : ¬ g = b + k := fun y => gb (by omega)
  have tb : ¬ (b ≤ t ∧ t < b + k) := fun y => by rw [c1, if_pos y] at a10; exact absurd a10 (by decide)
  have keep : ∀ q, ∀ c : Int32, ¬ c = 0 → ¬ c = 4 → gm_o τ q = c → upd (upd (gm_o τ) g 4) (b + k) 5 q = c := fun q c hc hc4 hq => by
    rw [u_ne (fun y => by rw [y, t4] at hq; exact hc4 hq.symm), u_ne (fun y => by rw [y, tg] at hq; exact hc hq.symm)]
    exact hq
  have hMv := RP_move (w' := zw (upd (cpw (gm_w τ) (b + k) g 16) (16 * t + j) (nI (g + 1))) (b + k)) rk po h64 hg tg p0 (fun q x hq hx hq1 hne => by
    rw [zw_ne (nf q hq1) hx, u_ne hne, cpw_ne _ (ng q hq1) (by omega) hx]) (by rw [zw_ne (nf t a10) a5, u_eq])
  refine ⟨16 * t + j, by omega, ef, hmo, ?_⟩
  clear hmo ef kr kt
  refine ⟨fun q => ?_, fun q q1 q2 => ?_, ?_, fun x hx hn => ?_, fun x x1 x2 => ?_, ?_, ⟨e1, e2, EN_mono e3 (fun q _ hq => keep q 3 (by decide) (by decide) hq)⟩, ⟨u1, UN_mono u2 (fun q _ hq => keep q 5 (by decide) (by decide) hq)⟩, ⟨r1, r2, ⟨K, hMv.1⟩, hMv.2⟩, ?_⟩
  · show upd (upd (gm_o τ) g 4) (b + k) 5 q = if b ≤ q ∧ q < b + (k + 1) then 5 else upd (upd (gc_o σ) g 4) (b + k) 0 q
    by_cases z : q = b + k
    · rw [z, u_eq, if_pos (by omega)]
    · rw [u_ne z, u_ne z]
      by_cases y : q = g
      · rw [y, u_eq, u_eq, if_neg (by omega)]
      · rw [u_ne y, u_ne y, c1]
        by_cases v : b ≤ q ∧ q < b + k
        · rw [if_pos v, if_pos (by omega)]
        · rw [if_neg v, if_neg (by omega)]
  · show upd (upd (gc_o σ) g 4) (b + k) 0 q = 0
    by_cases z : q = b + k
    · rw [z, u_eq]
    · rw [u_ne z, u_ne (by omega)]
      exact c2 q q1 (by omega)
  · exact FB_free (FB_give hF hg (v := 4) (by decide)) h64
  · have hn : ¬ upd (upd (gc_o σ) g 4) (b + k) 0 (x / 16) = 0 := hn
    show upd (cpw (zw (gc_w σ) g) (b + k) g 16) (16 * t + j) (nI (g + 1)) x = zw (upd (cpw (gm_w τ) (b + k) g 16) (16 * t + j) (nI (g + 1))) (b + k) x
    have xf : ¬ x / 16 = b + k := fun y => hn (by rw [y, u_eq])
    rw [u_ne xf] at hn
    rw [zw_at, if_neg xf]
    by_cases y : x = 16 * t + j
    · rw [y, u_eq, u_eq]
    · rw [u_ne y, u_ne y, cpw_j, cpw_j]
      by_cases v : x / 16 = g
      · rw [if_pos v, if_pos v, zw_ne (fun u => gf u.symm) (by omega)]
        exact hw _ (by omega) (by rw [show (16 * (b + k) + x % 16) / 16 = b + k by omega, h4]; decide)
      · rw [if_neg v, if_neg v, zw_at, if_neg v]
        rw [u_ne v] at hn
        exact hw x hx hn
  · show zw (upd (cpw (gm_w τ) (b + k) g 16) (16 * t + j) (nI (g + 1))) (b + k) x = 0
    rw [zw_at]
    by_cases z : x / 16 = b + k
    · rw [if_pos z]
    · rw [if_neg z, u_ne (fun y => tb (by omega)), cpw_j, if_neg (by omega)]
      exact hz x x1 (by omega)
  · refine RS_o hS rfl rfl rfl rfl (o' := upd (upd (gm_o τ) g 4) (b + k) 5) rfl (fun q _ => ⟨fun w => ?_, fun w => keep q 2 (by decide) (by decide) w⟩)
    by_cases v : q = b + k
    · rw [v, u_eq] at w; exact absurd w (by decide)
    · rw [u_ne v] at w
      by_cases u : q = g
      · rw [u, u_eq] at w; exact absurd w (by decide)
      · rw [u_ne u] at w; exact w
  · show gc_mv σ + 1 = gm_mv τ + 1
    rw [hm]
theorem ou_cr {σ : CS} {τ : MS} {b k n : Nat} (c1 : ∀ g, gm_o τ g = if b ≤ g ∧ g < b + k then 5 else gc_o σ g) (hk : k ≤ n) : ou (gm_o τ) b n = ou (gc_o σ) b n := by
  funext g
  by_cases z : b ≤ g ∧ g < b + n
  · rw [ou_f (Or.inr z), ou_f (Or.inr z)]
  · unfold ou
    rw [c1, if_neg (by omega)]
/-- how many are free outside the block -/
def fu (o : Nat → Int32) (b n : Nat) : Nat := cr (io o 0) 0 b + cr (io o 0) (b + n) (64 - (b + n))
theorem fu_ex {o : Nat → Int32} {b n : Nat} (hbn : b + n ≤ 64) (h : 0 < fu o b n) : ∃ c, fp (ou o b n) 0 64 = some c := by
  have hx : ∃ g, g < 64 ∧ ou o b n g = true := by
    unfold fu at h
    by_cases z : 0 < cr (io o 0) 0 b
    · obtain ⟨i, i1, i2⟩ := cr_pos b z
      exact ⟨0 + i, by omega, ou_t (of_decide_eq_true i2) (by omega)⟩
    · obtain ⟨i, i1, i2⟩ := cr_pos (p := io o 0) (a := b + n) (64 - (b + n)) (by omega)
      exact ⟨b + n + i, by omega, ou_t (of_decide_eq_true i2) (by omega)⟩
  obtain ⟨g, g1, g2⟩ := hx
  cases e : fp (ou o b n) 0 64 with
  | some c => exact ⟨c, rfl⟩
  | none =>
    have := fp_no _ _ 0 e g (by omega) (by omega)
    rw [g2] at this
    cases this
theorem fu_mv {o : Nat → Int32} {b n g f : Nat} (hbn : b + n ≤ 64) (hg : g < 64) (g0 : o g = 0) (gb : ¬ (b ≤ g ∧ g < b + n)) (fb : b ≤ f ∧ f < b + n) : fu o b n = fu (upd (upd o g 4) f 0) b n + 1 := by
  have ne : ∀ q, ¬ (b ≤ q ∧ q < b + n) → ¬ q = g → io (upd (upd o g 4) f 0) 0 q = io o 0 q := fun q h1 h2 => by
    show decide (upd (upd o g 4) f 0 q = 0) = decide (o q = 0)
    rw [u_ne (by omega), u_ne h2]
  have at_ : io (upd (upd o g 4) f 0) 0 g = false := by
    refine decide_eq_false ?_
    rw [u_ne (by omega), u_eq]
    decide
  have ag : io o 0 g = true := decide_eq_true g0
  unfold fu
  by_cases z : g < b
  · have w1 := cr_one (p := io o 0) (q := io (upd (upd o g 4) f 0) 0) (a := 0) (x := g) (by rw [Nat.zero_add]; exact ag) (by rw [Nat.zero_add]; exact at_) b (fun i hi h => ne _ (by omega) (by omega))
    have w2 := cr_eq (p := io (upd (upd o g 4) f 0) 0) (q := io o 0) (a := b + n) (64 - (b + n)) (fun i hi => ne _ (by omega) (by omega))
    rw [if_pos z] at w1
    omega
  · have eg : b + n + (g - (b + n)) = g := by omega
    have w1 := cr_one (p := io o 0) (q := io (upd (upd o g 4) f 0) 0) (a := b + n) (x := g - (b + n)) (by rw [eg]; exact ag) (by rw [eg]; exact at_) (64 - (b + n)) (fun i hi h => ne _ (by omega) (by omega))
    have w2 := cr_eq (p := io (upd (upd o g 4) f 0) 0) (q := io o 0) (a := 0) b (fun i hi => ne _ (by omega) (by omega))
    rw [if_pos (by omega)] at w1
    omega
theorem cr_c (p : Nat → Bool) (a d : Nat) : cr p a (d + 1) = (if p a then 1 else 0) + cr p (a + 1) d := by
  rw [Nat.add_comm d 1, cr_app]
  show 0 + (if p (a + 0) then 1 else 0) + _ = _
  rw [Nat.zero_add, Nat.add_zero]
theorem ct_loop {b n : Nat} (hbn : b + n ≤ 64) (N : Nat) : ∀ (d k M : Nat) (σ : CS) (τ : MS), k + d = n → d < M → CR σ τ b k → (∀ i, k ≤ i → i < n → gc_o σ (b + i) = 0 ∨ gc_o σ (b + i) = 4) → cr (io (gc_o σ) 4) (b + k) d ≤ fu (gc_o σ) b n →
    ∃ σ' τ', mc_Runs_movePagesOut_l2 M (nI b) (nI n) (nI (b + k)) σ = some σ' ∧ mm_contig_l92 (N + d) (nI n) (nI b) (nI (b + k)) τ = mm_contig_l92 N (nI n) (nI b) (nI (b + n)) τ' ∧ CR σ' τ' b n ∧ gm_th τ' = gm_th τ ∧ gm_rl τ' = gm_rl τ := by
  intro d
  induction d with
  | zero =>
    intro k M σ τ hk hM h ho hc
    have : k = n := by omega
    subst this
    obtain ⟨M', rfl⟩ : ∃ M', M = M' + 1 := ⟨M - 1, by omega⟩
    refine ⟨σ, τ, ?_, rfl, h, rfl, rfl⟩
    show mc_Runs_movePagesOut_b2 (mc_Runs_movePagesOut_l2 M') (nI b) (nI k) (nI (b + k)) σ = _
    unfold mc_Runs_movePagesOut_b2
    rw [nI_add, if_pos ((nI_leI (by omega) (by omega)).mpr (Nat.le_refl _))]
  | succ d ih =>
    intro k M σ τ hk hM h ho hc
    obtain ⟨M', rfl⟩ : ∃ M', M = M' + 1 := ⟨M - 1, by omega⟩
    have h64 : b + k < 64 := by omega
    have hnle : ¬ nI (b + n) ≤ nI (b + k) := fun z => absurd ((nI_leI (by omega) (by omega)).mp z) (by omega)
    have ot : gm_o τ (b + k) = gc_o σ (b + k) := by rw [h.1, if_neg (by omega)]
    have cs : mc_Runs_movePagesOut_l2 (M' + 1) (nI b) (nI n) (nI (b + k)) σ = if gc_o σ (b + k) = 4 then (mi_cp (mc_Runs_lowestFreeOutside σ (nI b) (nI n)) fun r2 => mi_cv (mc_Spaces_movePage σ (nI (b + k)) r2) fun σ3 => mi_wr (sc_mv σ3 ((gc_mv σ3) + (1 : Int32))) fun σ4 => mc_Runs_movePagesOut_l2 M' (nI b) (nI n) (nI (b + (k + 1))) σ4) else mc_Runs_movePagesOut_l2 M' (nI b) (nI n) (nI (b + (k + 1))) σ := by
      show mc_Runs_movePagesOut_b2 (mc_Runs_movePagesOut_l2 M') (nI b) (nI n) (nI (b + k)) σ = _
      unfold mc_Runs_movePagesOut_b2
      rw [nI_add, if_neg hnle, c_ow σ h64, cp_r, nI_1, Nat.add_assoc]
    have ms : mm_contig_l92 (N + (d + 1)) (nI n) (nI b) (nI (b + k)) τ = if gm_o τ (b + k) = 4 then (mi_cv (mm_moveOut τ (nI (b + k)) (nI b) (nI n)) fun σ6 => mi_cv (mm_own σ6 (nI (b + k)) (5 : Int32)) fun σ7 => mm_contig_l92 (N + d) (nI n) (nI b) (nI (b + (k + 1))) σ7) else mi_cv (mm_own τ (nI (b + k)) (5 : Int32)) fun σ5 => mm_contig_l92 (N + d) (nI n) (nI b) (nI (b + (k + 1))) σ5 := by
      show mm_contig_b92 (mm_contig_l92 (N + d)) (nI n) (nI b) (nI (b + k)) τ = _
      unfold mm_contig_b92 mm_contig_b121
      rw [nI_add, if_neg hnle, gi_n h64 (by omega), nI_clamp (by omega), nI_1, Nat.add_assoc]
    rw [cr_c] at hc
    rw [cs, ms, ot]
    by_cases z : gc_o σ (b + k) = 4
    · rw [if_pos z, if_pos z]
      rw [if_pos (show io (gc_o σ) 4 (b + k) = true from decide_eq_true z)] at hc
      obtain ⟨c, hcf⟩ := fu_ex hbn (show 0 < fu (gc_o σ) b n by omega)
      obtain ⟨-, c2, c3, -⟩ := fp_lt _ _ 0 c hcf
      obtain ⟨c0, cb⟩ := ou_of c3
      obtain ⟨e, e1, e2, e3, e4⟩ := CR_page h (show k < n by omega) hbn z (show c < 64 by omega) c0 cb
      have fc : ¬ b + k = c := fun y => cb (by omega)
      rw [c_lf σ hbn, hcf, cp_r, show o2 (some c) = nI c from rfl, c_mvp σ h64 (by omega) fc e1 e2, cv_r, wr_r]
      rw [m_mo τ hbn (by rw [ou_cr h.1 (by omega)]; exact hcf), e3, cv_r, m_ow _ h64, cv_r]
      have hfu := fu_mv (o := gc_o σ) hbn (show c < 64 by omega) c0 cb (show b ≤ b + k ∧ b + k < b + n by omega)
      have ho' : gc_o (sc_mv (mvC σ (b + k) c e) (gc_mv (mvC σ (b + k) c e) + 1)) = upd (upd (gc_o σ) c 4) (b + k) 0 := rfl
      have hth : gm_th (ow (mvM τ (b + k) c e) (b + k) 5) = gm_th τ := rfl
      have hrl : gm_rl (ow (mvM τ (b + k) c e) (b + k) 5) = gm_rl τ := rfl
      have e5 : b + (k + 1) = b + k + 1 := rfl
      generalize sc_mv (mvC σ (b + k) c e) (gc_mv (mvC σ (b + k) c e) + 1) = σ1 at e4 ho' ⊢
      generalize ow (mvM τ (b + k) c e) (b + k) 5 = τ1 at e4 hth hrl ⊢
      obtain ⟨σ', τ', i1, i2, i3, i4, i5⟩ := ih (k + 1) M' σ1 τ1 (by omega) (by omega) e4 (fun i h1 h2 => by
        rw [ho', u_ne (by omega), u_ne (by omega)]
        exact ho i (by omega) h2) (by
        rw [ho', cr_eq (p := io (upd (upd (gc_o σ) c 4) (b + k) 0) 4) (q := io (gc_o σ) 4) d (fun i hi => by
          show decide (upd (upd (gc_o σ) c 4) (b + k) 0 (b + (k + 1) + i) = 4) = decide (gc_o σ (b + (k + 1) + i) = 4)
          rw [u_ne (by omega), u_ne (by omega)])]
        rw [e5]
        omega)
      exact ⟨σ', τ', i1, i2, i3, i4.trans hth, i5.trans hrl⟩
    · rw [if_neg z, if_neg z, m_ow _ h64, cv_r]
      rw [if_neg (show ¬ io (gc_o σ) 4 (b + k) = true from fun y => z (of_decide_eq_true y))] at hc
      have h0 : gc_o σ (b + k) = 0 := by
        rcases ho k (Nat.le_refl _) (by omega) with y | y
        · exact y
        · exact absurd y z
      obtain ⟨σ', τ', i1, i2, i3, i4, i5⟩ := ih (k + 1) M' σ (ow τ (b + k) 5) (by omega) (by omega) (CR_free h h64 h0) (fun i h1 h2 => ho i (by omega) h2) (by rw [Nat.zero_add] at hc; exact hc)
      exact ⟨σ', τ', i1, i2, i3, i4, i5⟩
/-- the class gives the whole block -/
theorem gv_loop (σ : CS) {b n : Nat} (hbn : b + n ≤ 64) (N : Nat) : ∀ (i : Nat) (o w : Nat → Int32) (x : Int64), i ≤ n → n - i < N → FB o x →
    ∃ o' w' x', mc_Runs_add_l26 N (nI n) (nI b) (nI (b + i)) (sc_w (sc_fb (sc_o σ o) x) w) = mc_Runs_add_b50 (nI n) (nI b) (sc_w (sc_fb (sc_o σ o') x') w') ∧ FB o' x' ∧ (∀ g, o' g = if b + i ≤ g ∧ g < b + n then 5 else o g) ∧ ∀ j, w' j = if b + i ≤ j / 16 ∧ j / 16 < b + n then 0 else w j := by
  induction N with
  | zero => intro i o w x _ h; exact absurd h (Nat.not_lt_zero _)
  | succ N ih =>
    intro i o w x hi hN hF
    have st : mc_Runs_add_l26 (N + 1) (nI n) (nI b) (nI (b + i)) (sc_w (sc_fb (sc_o σ o) x) w) = mc_Runs_add_b26 (mc_Runs_add_l26 N) (nI n) (nI b) (nI (b + i)) (sc_w (sc_fb (sc_o σ o) x) w) := rfl
    rw [st]
    unfold mc_Runs_add_b26
    rw [nI_add b n]
    by_cases e : i = n
    · subst e
      rw [if_pos ((nI_leI (by omega) (by omega)).mpr (Nat.le_refl _))]
      exact ⟨o, w, x, rfl, hF, fun g => (if_neg (by omega)).symm, fun j => (if_neg (by omega)).symm⟩
    · rw [if_neg (fun z => absurd ((nI_leI (by omega) (by omega)).mp z) (by omega)), c_gt _ (show b + i < 64 by omega), cv_r, nI_1, Nat.add_assoc]
      obtain ⟨o', w', x', i1, i2, i3, i4⟩ := ih (i + 1) (upd o (b + i) 5) (zw w (b + i)) (x &&& (((1 : Int64) <<< ((nI (b + i)).toInt64 &&& 63)) ^^^ (-1 : Int64))) (by omega) (by omega) (FB_give hF (by omega) (by decide))
      refine ⟨o', w', x', i1, i2, fun g => ?_, fun j => ?_⟩
      · rw [i3]
        by_cases y : g = b + i
        · rw [y, if_neg (by omega), u_eq, if_pos (by omega)]
        · rw [u_ne y]
          by_cases v : b + i ≤ g ∧ g < b + n
          · rw [if_pos v, if_pos (by omega)]
          · rw [if_neg v, if_neg (by omega)]
      · rw [i4, zw_at]
        by_cases y : j / 16 = b + i
        · rw [if_neg (by omega), if_pos y, if_pos (by omega)]
        · rw [if_neg y]
          by_cases v : b + i ≤ j / 16 ∧ j / 16 < b + n
          · rw [if_pos v, if_pos (by omega)]
          · rw [if_neg v, if_neg (by omega)]
