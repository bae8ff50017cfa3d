/-! ===== the pure part: every call keeps REL ===== -/
theorem REL_0 : REL CS0 MS0 := by
  refine ⟨rfl, ?_, fun _ _ _ => rfl, fun f _ => ⟨fun z => absurd z (by show ¬ (0 : Int32) = 2; decide), fun _ => ⟨rfl, rfl⟩⟩, ⟨rfl, rfl, fun _ => 0, fun _ _ => Or.inl rfl, fun p hp => ⟨0, by omega, rfl, by omega, fun i hi => absurd hi (Nat.not_lt_zero _)⟩, fun p q _ _ hq => absurd rfl hq⟩, ⟨rfl, fun f hf => ⟨0, by omega, rfl, by omega, fun i hi => absurd hi (Nat.not_lt_zero _)⟩, fun p q _ _ hq => absurd rfl hq⟩, ⟨rfl, rfl, ⟨fun _ => 0, fun _ _ => Or.inl rfl⟩, fun f _ z => absurd z (by show ¬ (0 : Int32) = 4; decide)⟩, rfl⟩
  show ∀ f, f < 64 → (sN (-1 : Int64)).testBit f = true
  decide +kernel
theorem cr_no1 {σ σ' : CS} {v : Int32} (h : mc_create σ = some (v, 1, σ')) : False := by
  unfold mc_create at h
  cases e : mc_Spaces_add σ with
  | none => rw [e] at h; cases h
  | some r =>
    obtain ⟨r, σ1⟩ := r
    rw [e, cw_r] at h
    unfold mc_orNotEnough at h
    by_cases z : r = (-1 : Int32)
    · rw [if_pos z] at h; cases h
    · rw [if_neg z] at h; cases h
theorem n3_i {n : Nat} (h : n = 1 ∨ n = 2 ∨ n = 3) : ¬ nI n = (0 : Int32) ∧ ((n = 0 ∧ nI n = 0) ∨ (n = 1 ∧ nI n = 1) ∨ (n = 2 ∧ nI n = 2) ∨ (n = 3 ∧ nI n = 3)) := by
  rcases h with rfl | rfl | rfl
  · exact ⟨by decide, Or.inr (Or.inl ⟨rfl, rfl⟩)⟩
  · exact ⟨by decide, Or.inr (Or.inr (Or.inl ⟨rfl, rfl⟩))⟩
  · exact ⟨by decide, Or.inr (Or.inr (Or.inr ⟨rfl, rfl⟩))⟩
section PURE
variable {σ : CS} {τ : MS}
theorem s_0 (h : REL σ τ) (x1 x2 x3 : Int32) : st_0 REL σ τ x1 x2 x3 := by
  rcases op_kmalloc h x1 with ⟨v, σ', τ', a, b, c, d⟩ | ⟨w, σ', τ', a, b, c, d⟩ | ⟨w, σ', τ', a, b, c, d⟩
  · exact ⟨v, 0, 0, σ', v, τ', a, Or.inl ⟨rfl, rfl⟩, b, by first | exact trivial | exact c, by first | exact trivial | exact fun _ => rfl, d⟩
  · exact ⟨0, 1, 1, σ', w, τ', a, Or.inr (Or.inl ⟨rfl, rfl⟩), b, by first | exact trivial | exact c, by first | exact trivial | exact fun z => absurd z (by decide), d⟩
  · exact ⟨0, 3, 2, σ', w, τ', a, Or.inr (Or.inr ⟨rfl, rfl⟩), b, by first | exact trivial | exact c, by first | exact trivial | exact fun z => absurd z (by decide), d⟩
theorem s_1 (h : REL σ τ) (x1 x2 x3 : Int32) : st_1 REL σ τ x1 x2 x3 := by
  rcases op_kfree h x1 with ⟨v, σ', τ', a, b, c, d⟩ | ⟨σ', τ', a, b, c, d⟩
  · exact ⟨v, 0, 0, σ', τ', a, Or.inl ⟨rfl, rfl⟩, b, by first | exact trivial | exact c, trivial, d⟩
  · exact ⟨0, 1, 1, σ', τ', a, Or.inr ⟨rfl, rfl⟩, b, by first | exact trivial | exact c, trivial, d⟩
theorem s_2 (h : REL σ τ) (x1 x2 x3 : Int32) : st_2 REL σ τ x1 x2 x3 := by
  rcases op_vmalloc h x1 with ⟨v, σ', τ', a, b, c, d⟩ | ⟨w, σ', τ', a, b, c, d⟩ | ⟨w, σ', τ', a, b, c, d⟩
  · exact ⟨v, 0, 0, σ', v, τ', a, Or.inl ⟨rfl, rfl⟩, b, by first | exact trivial | exact c, by first | exact trivial | exact fun _ => rfl, d⟩
  · exact ⟨0, 1, 1, σ', w, τ', a, Or.inr (Or.inl ⟨rfl, rfl⟩), b, by first | exact trivial | exact c, by first | exact trivial | exact fun z => absurd z (by decide), d⟩
  · exact ⟨0, 3, 2, σ', w, τ', a, Or.inr (Or.inr ⟨rfl, rfl⟩), b, by first | exact trivial | exact c, by first | exact trivial | exact fun z => absurd z (by decide), d⟩
theorem s_3 (h : REL σ τ) (x1 x2 x3 : Int32) : st_3 REL σ τ x1 x2 x3 := by
  rcases op_vfree h x1 with ⟨v, σ', τ', a, b, c, d⟩ | ⟨w, σ', τ', a, b, c, d⟩
  · exact ⟨v, 0, 0, σ', v, τ', a, Or.inl ⟨rfl, rfl⟩, b, by first | exact trivial | exact c, by first | exact trivial | exact fun _ => rfl, d⟩
  · exact ⟨0, 1, 1, σ', w, τ', a, Or.inr ⟨rfl, rfl⟩, b, by first | exact trivial | exact c, by first | exact trivial | exact fun z => absurd z (by decide), d⟩
theorem s_4 (h : REL σ τ) (x1 x2 x3 : Int32) : st_4 REL σ τ x1 x2 x3 := by
  rcases op_create h with ⟨v, σ', τ', a, b, c, d⟩ | ⟨w, σ', τ', a, b, c, d⟩ | ⟨w, σ', τ', a, b, c, d⟩
  · exact ⟨v, 0, 0, σ', v, τ', a, Or.inl ⟨rfl, rfl⟩, b, by first | exact trivial | exact c, by first | exact trivial | exact fun _ => rfl, d⟩
  · exact absurd a (fun z => cr_no1 z)
  · exact ⟨0, 3, 1, σ', w, τ', a, Or.inr ⟨rfl, rfl⟩, b, by first | exact trivial | exact c, by first | exact trivial | exact fun z => absurd z (by decide), d⟩
theorem s_5 (h : REL σ τ) (x1 x2 x3 : Int32) : st_5 REL σ τ x1 x2 x3 := by
  rcases op_destroy h x1 with ⟨v, σ', τ', a, b, c, d⟩ | ⟨w, σ', τ', a, b, c, d⟩
  · exact ⟨v, 0, 0, σ', v, τ', a, Or.inl ⟨rfl, rfl⟩, b, by first | exact trivial | exact c, by first | exact trivial | exact fun _ => rfl, d⟩
  · exact ⟨0, 1, 1, σ', w, τ', a, Or.inr ⟨rfl, rfl⟩, b, by first | exact trivial | exact c, by first | exact trivial | exact fun z => absurd z (by decide), d⟩
theorem s_6 (h : REL σ τ) (x1 x2 x3 : Int32) : st_6 REL σ τ x1 x2 x3 := by
  rcases op_mmap h x1 x2 x3 with ⟨v, σ', τ', a, b, c, d⟩ | ⟨σ', τ', a, b, c, d⟩
  · exact ⟨v, 0, 0, σ', τ', a, Or.inl ⟨rfl, rfl⟩, b, by first | exact trivial | exact c, trivial, d⟩
  · exact ⟨0, 1, 1, σ', τ', a, Or.inr ⟨rfl, rfl⟩, b, by first | exact trivial | exact c, trivial, d⟩
theorem s_7 (h : REL σ τ) (x1 x2 x3 : Int32) : st_7 REL σ τ x1 x2 x3 := by
  rcases op_munmap h x1 x2 x3 with ⟨v, σ', τ', a, b, c, d⟩ | ⟨w, σ', τ', a, b, c, d⟩
  · exact ⟨v, 0, 0, σ', v, τ', a, Or.inl ⟨rfl, rfl⟩, b, by first | exact trivial | exact c, by first | exact trivial | exact fun _ => rfl, d⟩
  · exact ⟨0, 1, 1, σ', w, τ', a, Or.inr ⟨rfl, rfl⟩, b, by first | exact trivial | exact c, by first | exact trivial | exact fun z => absurd z (by decide), d⟩
theorem s_8 (h : REL σ τ) (x1 x2 x3 : Int32) : st_8 REL σ τ x1 x2 x3 := by
  rcases op_load h x1 x2 with ⟨v, σ', τ', a, b, c, d⟩ | ⟨n, w, σ', τ', hn, a, b, c, d⟩
  · exact ⟨v, 0, 0, σ', v, τ', a, Or.inl ⟨rfl, rfl⟩, b, by first | exact trivial | exact c, by first | exact trivial | exact fun _ => rfl, d⟩
  · exact ⟨0, n, nI n, σ', w, τ', a, (n3_i hn).2, b, by first | exact trivial | exact c, by first | exact trivial | exact fun z => absurd z (n3_i hn).1, d⟩
theorem s_9 (h : REL σ τ) (x1 x2 x3 : Int32) : st_9 REL σ τ x1 x2 x3 := by
  rcases op_store h x1 x2 x3 with ⟨v, σ', τ', a, b, c, d⟩ | ⟨n, σ', τ', hn, a, b, c, d⟩
  · exact ⟨v, 0, 0, σ', τ', a, Or.inl ⟨rfl, rfl⟩, b, by first | exact trivial | exact c, trivial, d⟩
  · exact ⟨0, n, nI n, σ', τ', a, (n3_i hn).2, b, by first | exact trivial | exact c, trivial, d⟩
theorem s_10 (h : REL σ τ) (x1 x2 x3 : Int32) : st_10 REL σ τ x1 x2 x3 := by
  rcases op_contig h x1 with ⟨v, σ', τ', a, b, c, d⟩ | ⟨w, σ', τ', a, b, c, d⟩ | ⟨w, σ', τ', a, b, c, d⟩
  · exact ⟨v, 0, 0, σ', v, τ', a, Or.inl ⟨rfl, rfl⟩, b, by first | exact trivial | exact c, by first | exact trivial | exact fun _ => rfl, d⟩
  · exact ⟨0, 1, 1, σ', w, τ', a, Or.inr (Or.inl ⟨rfl, rfl⟩), b, by first | exact trivial | exact c, by first | exact trivial | exact fun z => absurd z (by decide), d⟩
  · exact ⟨0, 3, 2, σ', w, τ', a, Or.inr (Or.inr ⟨rfl, rfl⟩), b, by first | exact trivial | exact c, by first | exact trivial | exact fun z => absurd z (by decide), d⟩
theorem s_11 (h : REL σ τ) (x1 x2 x3 : Int32) : st_11 REL σ τ x1 x2 x3 := by
  rcases op_release h x1 with ⟨v, σ', τ', a, b, c, d⟩ | ⟨w, σ', τ', a, b, c, d⟩
  · exact ⟨v, 0, 0, σ', v, τ', a, Or.inl ⟨rfl, rfl⟩, b, by first | exact trivial | exact c, by first | exact trivial | exact fun _ => rfl, d⟩
  · exact ⟨0, 1, 1, σ', w, τ', a, Or.inr ⟨rfl, rfl⟩, b, by first | exact trivial | exact c, by first | exact trivial | exact fun z => absurd z (by decide), d⟩
theorem s_12 (h : REL σ τ) (x1 x2 x3 : Int32) : st_12 REL σ τ x1 x2 x3 := by
  obtain ⟨v, a, b⟩ := q_owner h x1
  exact ⟨v, v, _, a, b, by first | exact trivial | rfl, REL_th h 0⟩
theorem s_13 (h : REL σ τ) (x1 x2 x3 : Int32) : st_13 REL σ τ x1 x2 x3 := by
  obtain ⟨v, a, b⟩ := q_frame h x1 x2
  exact ⟨v, v, _, a, b, by first | exact trivial | rfl, REL_th h 0⟩
theorem s_14 (h : REL σ τ) (x1 x2 x3 : Int32) : st_14 REL σ τ x1 x2 x3 := by
  obtain ⟨⟨v, a⟩, w, b⟩ := q_word σ τ x1 x2
  exact ⟨v, w, _, a, b, trivial, REL_th h 0⟩
theorem s_15 (h : REL σ τ) (x1 x2 x3 : Int32) : st_15 REL σ τ x1 x2 x3 := by
  obtain ⟨v, a, b⟩ := q_blk h x1
  exact ⟨v, v, _, a, b, by first | exact trivial | rfl, REL_th h 0⟩
theorem s_16 (h : REL σ τ) (x1 x2 x3 : Int32) : st_16 REL σ τ x1 x2 x3 := by
  obtain ⟨a, b⟩ := q_free h
  exact ⟨_, _, _, a, b, by first | exact trivial | rfl, REL_th h 0⟩
theorem s_17 (h : REL σ τ) (x1 x2 x3 : Int32) : st_17 REL σ τ x1 x2 x3 := by
  obtain ⟨a, b⟩ := q_moved h
  exact ⟨_, _, _, a, b, by first | exact trivial | rfl, REL_th h 0⟩
end PURE
def pv_Inv (_ : Nat) (σ : CS) (τ : MS) : Prop := REL σ τ
theorem pv_0 : pv_Inv 0 CS0 MS0 := REL_0
theorem pv_step (j : Nat) (σ : CS) (τ : MS) (_ : 4 * j + 4 ≤ 2048) (h : pv_Inv j σ τ) (x1 x2 x3 : Int32) : st_0 (pv_Inv (j + 1)) σ τ x1 x2 x3 ∧ st_1 (pv_Inv (j + 1)) σ τ x1 x2 x3 ∧ st_2 (pv_Inv (j + 1)) σ τ x1 x2 x3 ∧ st_3 (pv_Inv (j + 1)) σ τ x1 x2 x3 ∧ st_4 (pv_Inv (j + 1)) σ τ x1 x2 x3 ∧ st_5 (pv_Inv (j + 1)) σ τ x1 x2 x3 ∧ st_6 (pv_Inv (j + 1)) σ τ x1 x2 x3 ∧ st_7 (pv_Inv (j + 1)) σ τ x1 x2 x3 ∧ st_8 (pv_Inv (j + 1)) σ τ x1 x2 x3 ∧ st_9 (pv_Inv (j + 1)) σ τ x1 x2 x3 ∧ st_10 (pv_Inv (j + 1)) σ τ x1 x2 x3 ∧ st_11 (pv_Inv (j + 1)) σ τ x1 x2 x3 ∧ st_12 (pv_Inv (j + 1)) σ τ x1 x2 x3 ∧ st_13 (pv_Inv (j + 1)) σ τ x1 x2 x3 ∧ st_14 (pv_Inv (j + 1)) σ τ x1 x2 x3 ∧ st_15 (pv_Inv (j + 1)) σ τ x1 x2 x3 ∧ st_16 (pv_Inv (j + 1)) σ τ x1 x2 x3 ∧ st_17 (pv_Inv (j + 1)) σ τ x1 x2 x3 ∧ pv_Inv (j + 1) σ τ :=
  ⟨s_0 h x1 x2 x3, s_1 h x1 x2 x3, s_2 h x1 x2 x3, s_3 h x1 x2 x3, s_4 h x1 x2 x3, s_5 h x1 x2 x3, s_6 h x1 x2 x3, s_7 h x1 x2 x3, s_8 h x1 x2 x3, s_9 h x1 x2 x3, s_10 h x1 x2 x3, s_11 h x1 x2 x3, s_12 h x1 x2 x3, s_13 h x1 x2 x3, s_14 h x1 x2 x3, s_15 h x1 x2 x3, s_16 h x1 x2 x3, s_17 h x1 x2 x3, h⟩
