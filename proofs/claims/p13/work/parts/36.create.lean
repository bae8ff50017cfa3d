/-! ===== searching up and down ===== -/
def fp (P : Nat → Bool) (b : Nat) : Nat → Option Nat
  | 0 => none
  | n + 1 => if P b then some b else fp P (b + 1) n
def dp (P : Nat → Bool) : Nat → Int32 → Int32
  | 0, best => best
  | n + 1, best => dp P n (if P n then nI n else best)
theorem fp_s (P : Nat → Bool) (n : Nat) : ∀ b, fp P b (n + 1) = match fp P b n with | some c => some c | none => if P (b + n) then some (b + n) else none := by
  induction n with
  | zero => intro b; rfl
  | succ n ih =>
    intro b
    show (if P b then some b else fp P (b + 1) (n + 1)) = match (if P b then some b else fp P (b + 1) n) with | some c => some c | none => if P (b + (n + 1)) then some (b + (n + 1)) else none
    cases P b with
    | true => rfl
    | false => rw [if_neg (by decide), if_neg (by decide), ih (b + 1), show b + 1 + n = b + (n + 1) by omega]
theorem dp_f (P : Nat → Bool) (n : Nat) : ∀ best, dp P n best = match fp P 0 n with | some c => nI c | none => best := by
  induction n with
  | zero => intro best; rfl
  | succ n ih =>
    intro best
    show dp P n (if P n then nI n else best) = _
    rw [ih, fp_s, Nat.zero_add]
    cases fp P 0 n with
    | some c => rfl
    | none => cases P n <;> rfl
theorem fp_lt (P : Nat → Bool) (n : Nat) : ∀ b c, fp P b n = some c → b ≤ c ∧ c < b + n ∧ P c = true ∧ ∀ d, b ≤ d → d < c → P d = false := by
  induction n with
  | zero => intro b c h; cases h
  | succ n ih =>
    intro b c h
    have h : (if P b then some b else fp P (b + 1) n) = some c := h
    cases e : P b with
    | true =>
      rw [e, if_pos rfl] at h
      cases h
      exact ⟨Nat.le_refl _, by omega, e, fun d h1 h2 => absurd h1 (by omega)⟩
    | false =>
      rw [e, if_neg (by decide)] at h
      obtain ⟨h1, h2, h3, h4⟩ := ih (b + 1) c h
      refine ⟨by omega, by omega, h3, fun d g1 g2 => ?_⟩
      by_cases z : d = b
      · rw [z]; exact e
      · exact h4 d (by omega) g2
theorem fp_no (P : Nat → Bool) (n : Nat) : ∀ b, fp P b n = none → ∀ c, b ≤ c → c < b + n → P c = false := by
  induction n with
  | zero => intro b _ c h1 h2; omega
  | succ n ih =>
    intro b h c h1 h2
    have h : (if P b then some b else fp P (b + 1) n) = none := h
    cases e : P b with
    | true => rw [e, if_pos rfl] at h; cases h
    | false =>
      rw [e, if_neg (by decide)] at h
      by_cases z : c = b
      · rw [z]; exact e
      · exact ih (b + 1) h c (by omega) (by omega)
theorem gi_c {α : Type} {a n : Nat} {x : Option α} (h : a < n) (hn : n < 2 ^ 31) : mi_gd (nI a < 0 ∨ n ≤ a) x = x := mi_gd_no (fun z => z.elim (fun y => nI_pos (by omega) y) (by omega))
theorem cw_r {S β : Type} {r : Int32} {x : S} {k : Int32 → S → Option β} : mi_cw (some (r, x)) k = k r x := rfl
theorem cv_r {S β : Type} {x : S} {k : S → Option β} : mi_cv (some x) k = k x := rfl
theorem wr_r {α β : Type} {a : α} {k : α → β} : mi_wr a k = k a := rfl
def kU (K : Nat → Nat) (f c : Nat) : Nat → Nat := fun g => if g = f then c else K g
theorem kU_e {K : Nat → Nat} {f c : Nat} : kU K f c f = c := if_pos rfl
theorem kU_n {K : Nat → Nat} {f c g : Nat} (h : ¬ g = f) : kU K f c g = K g := if_neg h
/-! ===== create ===== -/
abbrev rz (ro : Nat → Int32) (s : Nat) : Bool := decide (ro s = 0)
def ad1 (σ : CS) (c : Nat) : Option (Int32 × CS) :=
  mi_cw (mc_Frames_giveOne σ (1 : Int32)) fun r2 σ1 =>
    if upd (gc_ro σ1) c ((1 : Int32) + r2) c = (0 : Int32) then some ((-1 : Int32), sc_ro σ1 (upd (gc_ro σ1) c ((1 : Int32) + r2))) else some (nI c, sc_ro σ1 (upd (gc_ro σ1) c ((1 : Int32) + r2)))
theorem c_sal (σ : CS) (N : Nat) : ∀ s, s ≤ 4 → 4 - s < N → mc_Spaces_add_l2 N (nI s) σ = match fp (rz (gc_ro σ)) s (4 - s) with | some c => ad1 σ c | none => some (-1, σ) := by
  induction N with
  | zero => intro s _ h; exact absurd h (Nat.not_lt_zero _)
  | succ N ih =>
    intro s hs hN
    show mc_Spaces_add_b2 (mc_Spaces_add_l2 N) (nI s) σ = _
    unfold mc_Spaces_add_b2
    by_cases e : s = 4
    · subst e
      rw [if_pos (show (4 : Int32) ≤ nI 4 by decide)]
      rfl
    · have h1 : s < 4 := by omega
      rw [if_neg (show ¬ (4 : Int32) ≤ nI s from fun z => absurd ((nI_leI (a := 4) (by omega) (by omega)).mp z) (by omega)), gi_n h1 (by omega), nI_clamp (by omega), nI_1]
      rw [show 4 - s = (4 - (s + 1)) + 1 by omega]
      show _ = match (if rz (gc_ro σ) s then some s else fp (rz (gc_ro σ)) (s + 1) (4 - (s + 1))) with | some c => ad1 σ c | none => some (-1, σ)
      by_cases z : gc_ro σ s = 0
      · rw [if_pos z, show rz (gc_ro σ) s = true from decide_eq_true z, if_pos rfl]
        unfold ad1
        congr 1
        funext r2 σ1
        rw [gi_c h1 (by omega), wr_r, gi_c h1 (by omega)]
      · rw [if_neg z, show rz (gc_ro σ) s = false from decide_eq_false z, if_neg (by decide)]
        exact ih (s + 1) (by omega) (by omega)
theorem m1_l : ∀ s, s < 4 → nI s + (-1 : Int32) = if s = 0 then -1 else nI (s - 1) := by decide +kernel
theorem m_crl (τ : MS) (N : Nat) : ∀ (s : Nat) (best : Int32), s < 4 → s + 1 < N → mm_create_l4 N best (nI s) τ = mm_create_b29 (dp (rz (gm_ro τ)) (s + 1) best) τ := by
  induction N with
  | zero => intro s best _ h; exact absurd h (Nat.not_lt_zero _)
  | succ N ih =>
    intro s best hs hN
    show mm_create_b4 (mm_create_l4 N) best (nI s) τ = mm_create_b29 (dp (rz (gm_ro τ)) s (if rz (gm_ro τ) s then nI s else best)) τ
    unfold mm_create_b4
    rw [if_neg (nI_pos (by omega)), gi_n hs (by omega), nI_clamp (by omega), m1_l s hs]
    have go : ∀ be, mm_create_l4 N be (if s = 0 then -1 else nI (s - 1)) τ = mm_create_b29 (dp (rz (gm_ro τ)) s be) τ := by
      intro be
      by_cases e : s = 0
      · subst e
        rw [if_pos rfl]
        obtain ⟨M, rfl⟩ : ∃ M, N = M + 1 := ⟨N - 1, by omega⟩
        show mm_create_b4 (mm_create_l4 M) be (-1) τ = _
        unfold mm_create_b4
        rw [if_pos (show (-1 : Int32) < 0 by decide)]
        rfl
      · rw [if_neg e]
        obtain ⟨t, rfl⟩ : ∃ t, s = t + 1 := ⟨s - 1, by omega⟩
        exact ih t be (by omega) (by omega)
    by_cases z : gm_ro τ s = 0
    · rw [if_pos z, show rz (gm_ro τ) s = true from decide_eq_true z, if_pos rfl]
      exact go _
    · rw [if_neg z, show rz (gm_ro τ) s = false from decide_eq_false z, if_neg (show ¬ (false = true) by decide)]
      exact go _
theorem m_cr (τ : MS) : mm_create τ = mm_create_b29 (match fp (rz (gm_ro τ)) 0 4 with | some c => nI c | none => 3) τ := by
  have h := m_crl τ FU 3 3 (by omega) (by decide)
  rw [dp_f] at h
  exact h
theorem tb_n {τ : MS} {n : Int32} (hn : ¬ n ≤ 0) : mm_throwsBy τ n = some (1, sm_th τ n) := by
  unfold mm_throwsBy
  show (if n ≤ 0 then _ else _) = _
  rw [if_neg hn]
theorem tb_0 {τ : MS} : mm_throwsBy τ 0 = some (0, sm_th τ 0) := rfl
/-- the three ways of a call that answers a number: it answers, it is refused by 1, it is refused by 3 (the reference: by k3) -/
def OK3 (cx : Option (Int32 × Nat × CS)) (mx : Option (Int32 × MS)) (k3 : Int32) : Prop :=
  (∃ v σ' τ', cx = some (v, 0, σ') ∧ mx = some (v, τ') ∧ gm_th τ' = 0 ∧ REL σ' τ') ∨
  (∃ b σ' τ', cx = some (0, 1, σ') ∧ mx = some (b, τ') ∧ gm_th τ' = 1 ∧ REL σ' τ') ∨
  (∃ b σ' τ', cx = some (0, 3, σ') ∧ mx = some (b, τ') ∧ gm_th τ' = k3 ∧ REL σ' τ')
theorem upd_self (f : Nat → Int32) {k : Nat} {v : Int32} (h : f k = v) : upd f k v = f := by
  funext j
  unfold upd
  by_cases e : j = k
  · rw [if_pos e, e, h]
  · rw [if_neg e]
theorem n1_a (f : Nat) : (1 : Int32) + nI f = nI (f + 1) := by
  rw [show (1 : Int32) = nI 1 from rfl, nI_add, Nat.add_comm]
theorem op_create {σ : CS} {τ : MS} (h : REL σ τ) : OK3 (mc_create σ) (mm_create τ) 1 := by
  obtain ⟨ho, hF, hw, hS, ⟨e1, e2, e3⟩, ⟨u1, u2⟩, ⟨r1, r2, ⟨K, r3⟩, po⟩, hm⟩ := h
  have h : REL σ τ := ⟨ho, hF, hw, hS, ⟨e1, e2, e3⟩, ⟨u1, u2⟩, ⟨r1, r2, ⟨K, r3⟩, po⟩, hm⟩
  have hc : mc_Spaces_add σ = match fp (rz (gm_ro τ)) 0 4 with | some c => ad1 σ c | none => some (-1, σ) := by
    rw [← r1]; exact c_sal σ FU 0 (by omega) (by decide)
  have hmm := m_cr τ
  unfold mc_create
  rw [hc, hmm]
  cases e : fp (rz (gm_ro τ)) 0 4 with
  | none =>
    have h3 := of_decide_eq_false (fp_no _ _ 0 e 3 (by omega) (by omega))
    refine Or.inr (Or.inr ⟨0, σ, sm_th τ 1, rfl, ?_, rfl, h⟩)
    show mm_create_b29 (nI 3) τ = _
    unfold mm_create_b29
    rw [gi_n (by omega) (by omega), nI_clamp (by omega)]
    rcases r3 3 (by omega) with z | ⟨r, a, b, -⟩
    · exact absurd z h3
    · rw [b, if_pos (show (0 : Int32) < nI (r + 1) from (nI_ltI (a := 0) (by omega) (by omega)).mpr (by omega))]
      rfl
  | some c =>
    obtain ⟨-, c4, cz1, -⟩ := fp_lt _ _ 0 c e
    have c4 : c < 4 := by omega
    have c0 : gm_ro τ c = 0 := of_decide_eq_true cz1
    have hb : mm_create_b29 (nI c) τ = if nI (cz (gm_o τ) 64) = (0 : Int32) then mm_create_b51 (nI c) 1 τ else mm_create_b51 (nI c) 0 τ := by
      unfold mm_create_b29
      rw [gi_n c4 (by omega), nI_clamp (by omega), c0, if_neg (by decide), m_cf, cp_r]
    show OK3 (mi_cw (ad1 σ c) _) (mm_create_b29 (nI c) τ) 1
    rw [hb]
    unfold ad1
    by_cases z : cz (gm_o τ) 64 = 0
    · have hn : mc_Frames_giveOne σ 1 = some (-1, σ) := g_none hF (by rw [ho]; exact z) 1
      rw [hn, z, if_pos (show nI 0 = (0 : Int32) from rfl)]
      have hu : upd (gc_ro σ) c ((1 : Int32) + -1) = gc_ro σ := upd_self _ (by rw [r1, c0]; rfl)
      refine Or.inr (Or.inr ⟨0, σ, sm_th τ 1, ?_, rfl, rfl, h⟩)
      show mi_cw (if upd (gc_ro σ) c ((1 : Int32) + -1) c = (0 : Int32) then some ((-1 : Int32), sc_ro σ (upd (gc_ro σ) c ((1 : Int32) + -1))) else some (nI c, sc_ro σ (upd (gc_ro σ) c ((1 : Int32) + -1)))) _ = _
      rw [hu, if_pos (by rw [r1, c0])]
      rfl
    · have hle := cz_le (gm_o τ) 64
      rw [if_neg (show ¬ nI (cz (gm_o τ) 64) = (0 : Int32) from fun y => z ((nI_eq (b := 0) (by omega) (by omega)).mp y))]
      obtain ⟨f, f1, f2, f3, f4⟩ := g_give (σ := σ) (τ := sm_th τ 0) ho hF (Nat.pos_of_ne_zero z) 1
      have hne : ¬ nI (f + 1) = (0 : Int32) := fun y => absurd ((nI_eq (b := 0) (by omega) (by omega)).mp y) (by omega)
      refine Or.inl ⟨nI c, sc_ro (gv σ f 1) (upd (gc_ro σ) c (nI (f + 1))), sm_ro (ow (sm_th τ 0) f 1) (upd (gm_ro τ) c (nI (f + 1))), ?_, ?_, rfl, ?_⟩
      · rw [f3]
        show mi_cw (if upd (gc_ro σ) c ((1 : Int32) + nI f) c = (0 : Int32) then some ((-1 : Int32), sc_ro (gv σ f 1) (upd (gc_ro σ) c ((1 : Int32) + nI f))) else some (nI c, sc_ro (gv σ f 1) (upd (gc_ro σ) c ((1 : Int32) + nI f)))) _ = _
        rw [n1_a, u_eq, if_neg hne, cw_r]
        unfold mc_orNotEnough
        rw [if_neg (show ¬ nI c = (-1 : Int32) from fun y => absurd (nI_pos (n := c) (by omega)) (fun w => w (by rw [y]; decide)))]
        rfl
      · unfold mm_create_b51
        rw [tb_0, cw_r, if_pos rfl, f4, cw_r, gi_n c4 (by omega), nI_clamp (by omega), n1_a]
        rfl
      · obtain ⟨g1, g2, g3, g4, g5, g6, -, g8⟩ := REL_give (τ := sm_th τ 0) h f1 f2 (v := 1) (by decide) (by decide) (by decide)
        refine ⟨g1, g2, g3, g4, g5, g6, ⟨?_, r2, ?_⟩, g8⟩
        · show upd (gc_ro σ) c (nI (f + 1)) = upd (gm_ro τ) c (nI (f + 1))
          rw [r1]
        · show RP (upd (gm_o τ) f 1) (zw (gm_w τ) f) (upd (gm_ro τ) c (nI (f + 1))) (gc_eo σ)
          have f2 : gm_o τ f = 0 := f2
          have nf : ∀ g, ¬ gm_o τ g = 0 → ¬ g = f := fun g hg y => hg (by rw [y]; exact f2)
          refine ⟨⟨kU K f c, fun s hs => ?_⟩, fun g hg g4 => ?_⟩
          rotate_left
          · obtain ⟨s, r, i, t, j, a1, a2, a3, a4, a5, a6, a7, a8, a9, a10⟩ := po g hg (u_4 (by decide) g4)
            have rn := nf r (by rw [a9]; decide)
            have tn := nf t (by rw [a10]; decide)
            refine ⟨s, r, i, t, j, a1, a2, a3, a4, a5, ?_, by rw [zw_ne rn a3]; exact a7, by rw [zw_ne tn a5]; exact a8, by rw [u_ne rn]; exact a9, by rw [u_ne tn]; exact a10⟩
            rw [u_ne (fun y => by rw [y, c0] at a6; exact absurd ((nI_eq (a := 0) (by omega) (by omega)).mp a6) (by omega))]
            exact a6
          by_cases y : s = c
          · refine Or.inr ⟨f, f1, by rw [y, u_eq], u_eq, by rw [kU_e, y], fun i hi => Or.inl (zw_eq hi)⟩
          · rw [u_ne y]
            rcases r3 s hs with q | ⟨r, a, b, d, k, t⟩
            · exact Or.inl q
            · have rn := nf r (by rw [d]; decide)
              refine Or.inr ⟨r, a, b, by rw [u_ne rn]; exact d, by rw [kU_n rn]; exact k, fun i hi => ?_⟩
              rcases t i hi with q | ⟨t, a2, b2, d2, k2, ⟨j, j1, j2⟩, t2⟩
              · exact Or.inl (by rw [zw_ne rn hi]; exact q)
              · have tn := nf t (by rw [d2]; decide)
                refine Or.inr ⟨t, a2, by rw [zw_ne rn hi]; exact b2, by rw [u_ne tn]; exact d2, by rw [kU_n tn]; exact k2, ⟨j, j1, by rw [zw_ne tn j1]; exact j2⟩, fun j hj => ?_⟩
                rcases t2 j hj with q | ⟨p, a3, b3, d3, k3⟩
                · exact Or.inl (by rw [zw_ne tn hj]; exact q)
                · have pn := nf p (by rw [d3]; decide)
                  exact Or.inr ⟨p, a3, by rw [zw_ne tn hj]; exact b3, by rw [u_ne pn]; exact d3, k3⟩
