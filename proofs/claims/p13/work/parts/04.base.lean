/-! ===== the mirrors' combinators ===== -/
def FU : Nat := 300
def mi_gd {α : Type} (c : Prop) [Decidable c] (x : Option α) : Option α := if c then none else x
theorem mi_gd_el {α : Type} {c : Prop} [Decidable c] {x : Option α} {o : α} (h : mi_gd c x = some o) : ¬ c ∧ x = some o := by
  unfold mi_gd at h
  by_cases hc : c
  · rw [if_pos hc] at h; cases h
  · rw [if_neg hc] at h; exact ⟨hc, h⟩
theorem mi_gd_no {α : Type} {c : Prop} [Decidable c] {x : Option α} (h : ¬ c) : mi_gd c x = x := if_neg h
def mi_wr {α β : Type} (a : α) (k : α → β) : β := k a
theorem mi_wr_ex {α β : Type} {a : α} {k : α → Option β} {o : β} (h : mi_wr a k = some o) : ∃ z, z = a ∧ k z = some o := ⟨a, rfl, h⟩
theorem mi_if_t {α : Type} {c : Prop} [Decidable c] {x y o : α} (hc : c) (h : (if c then x else y) = o) : x = o := by
  rw [if_pos hc] at h; exact h
theorem mi_if_f {α : Type} {c : Prop} [Decidable c] {x y o : α} (hc : ¬ c) (h : (if c then x else y) = o) : y = o := by
  rw [if_neg hc] at h; exact h
def mi_cp {β : Type} (x : Option Int32) (k : Int32 → Option β) : Option β := match x with
  | none => none
  | some r => k r
theorem mi_cp_el {β : Type} {x : Option Int32} {k : Int32 → Option β} {o : β} (h : mi_cp x k = some o) : ∃ r, x = some r ∧ k r = some o := by
  cases x with
  | none => cases h
  | some r => exact ⟨r, rfl, h⟩
def mi_cv {S β : Type} (x : Option S) (k : S → Option β) : Option β := match x with
  | none => none
  | some r => k r
theorem mi_cv_el {S β : Type} {x : Option S} {k : S → Option β} {o : β} (h : mi_cv x k = some o) : ∃ r, x = some r ∧ k r = some o := by
  cases x with
  | none => cases h
  | some r => exact ⟨r, rfl, h⟩
def mi_cw {S β : Type} (x : Option (Int32 × S)) (k : Int32 → S → Option β) : Option β := match x with
  | none => none
  | some r => k r.1 r.2
theorem mi_cw_el {S β : Type} {x : Option (Int32 × S)} {k : Int32 → S → Option β} {o : β} (h : mi_cw x k = some o) : ∃ r s, x = some (r, s) ∧ k r s = some o := by
  cases x with
  | none => cases h
  | some r => exact ⟨r.1, r.2, rfl, h⟩
def mi_tp (x : Option (Int32 × Nat)) (k : Int32 → Option (Int32 × Nat)) : Option (Int32 × Nat) := match x with
  | none => none
  | some r => if r.2 = 0 then k r.1 else some (0, r.2)
def mi_tq {S : Type} (x : Option (Int32 × Nat)) (σ : S) (k : Int32 → Option (Int32 × Nat × S)) : Option (Int32 × Nat × S) := match x with
  | none => none
  | some r => if r.2 = 0 then k r.1 else some (0, r.2, σ)
def mi_tw {S : Type} (x : Option (Int32 × Nat × S)) (k : Int32 → S → Option (Int32 × Nat × S)) : Option (Int32 × Nat × S) := match x with
  | none => none
  | some r => if r.2.1 = 0 then k r.1 r.2.2 else some (0, r.2.1, r.2.2)
theorem mi_tp_el {x : Option (Int32 × Nat)} {k : Int32 → Option (Int32 × Nat)} {o : Int32 × Nat} (h : mi_tp x k = some o) : ∃ r n, x = some (r, n) ∧ ((n = 0 ∧ k r = some o) ∨ (¬ n = 0 ∧ o = (0, n))) := by
  cases x with
  | none => cases h
  | some r =>
    refine ⟨r.1, r.2, rfl, ?_⟩
    by_cases hn : r.2 = 0
    · exact Or.inl ⟨hn, mi_if_t hn h⟩
    · exact Or.inr ⟨hn, (Option.some.inj (mi_if_f hn h)).symm⟩
theorem mi_tq_el {S : Type} {x : Option (Int32 × Nat)} {σ : S} {k : Int32 → Option (Int32 × Nat × S)} {o : Int32 × Nat × S} (h : mi_tq x σ k = some o) : ∃ r n, x = some (r, n) ∧ ((n = 0 ∧ k r = some o) ∨ (¬ n = 0 ∧ o = (0, n, σ))) := by
  cases x with
  | none => cases h
  | some r =>
    refine ⟨r.1, r.2, rfl, ?_⟩
    by_cases hn : r.2 = 0
    · exact Or.inl ⟨hn, mi_if_t hn h⟩
    · exact Or.inr ⟨hn, (Option.some.inj (mi_if_f hn h)).symm⟩
theorem mi_tw_el {S : Type} {x : Option (Int32 × Nat × S)} {k : Int32 → S → Option (Int32 × Nat × S)} {o : Int32 × Nat × S} (h : mi_tw x k = some o) : ∃ r n σ, x = some (r, n, σ) ∧ ((n = 0 ∧ k r σ = some o) ∨ (¬ n = 0 ∧ o = (0, n, σ))) := by
  cases x with
  | none => cases h
  | some r =>
    refine ⟨r.1, r.2.1, r.2.2, rfl, ?_⟩
    by_cases hn : r.2.1 = 0
    · exact Or.inl ⟨hn, mi_if_t hn h⟩
    · exact Or.inr ⟨hn, (Option.some.inj (mi_if_f hn h)).symm⟩
theorem mi_no {α : Type} {o : α} {G : Prop} (h : (none : Option α) = some o) : G := by cases h
theorem mi_eq {α : Type} {a b : α} (h : some a = some b) : a = b := Option.some.inj h
theorem mi_pr {α β : Type} {a c : α} {b d : β} (h : some (a, b) = some (c, d)) : a = c ∧ b = d := by cases h; exact ⟨rfl, rfl⟩
/-! ===== worlds of a side, contracts over them, a block's goal, calls, ends ===== -/
theorem nl_same {U V : State} (h : U.vm = V.vm) (hN : nl_ U) : nl_ V := ⟨va_Nw.same rfl h hN.1, va_Nw.same rfl h hN.2.1, va_Nw.same rfl h hN.2.2.1, va_Nw.same rfl h hN.2.2.2⟩
theorem nl_warm {s U : State} (hW : s.WarmedH U.vm) (hN : nl_ s) : nl_ U := ⟨va_Nw.warmM hW hN.1, va_Nw.warmM hW hN.2.1, va_Nw.warmM hW hN.2.2.1, va_Nw.warmM hW hN.2.2.2⟩
def pr_ {S : Type} (D : va_G) (wd : S → va_W) (tys : List (ClassId × FieldType)) (sz : Nat) (σ : S) : State → Prop := fun U =>
  U.heap.size = sz ∧ va_P D vwCl (wd σ) U.heap ∧ va_K D vwCl tys U ∧ va_D (fun _ => True) (wd σ) ∧ nl_ U
def at_ {S : Type} (D : va_G) (wd : S → va_W) (tys : List (ClassId × FieldType)) (A : Nat → Prop) (u : S) (t : State) : Prop :=
  va_P D vwCl (wd u) t.heap ∧ va_K D vwCl tys t ∧ va_D A (wd u)
abbrev qi_ {S : Type} (D : va_G) (wd : S → va_W) (tys : List (ClassId × FieldType)) (A : Nat → Prop) (v : Int32) (σ' : S) : Array Value → State → Outcome → State → Prop :=
  va_Qi (fun (r : Int32) (u : S) => r = v ∧ u = σ') (at_ D wd tys A) A
abbrev qv_ {S : Type} (D : va_G) (wd : S → va_W) (tys : List (ClassId × FieldType)) (A : Nat → Prop) (σ' : S) : Array Value → State → Outcome → State → Prop :=
  va_Qv (fun (u : S) => u = σ') (at_ D wd tys A) A
def bk_ (p : Program) (l : Launch) (e : Env) (R : Room) (s : State) (m : MethodId) (args : Array Value) (below : List Frame) (meth : Method) (c : Code) (Q : State → Prop) (A : Nat → Prop) {S : Type} (D : va_G) (wd : S → va_W) (nL pc : Nat) (lv : List (Nat × Value)) (st : List Value) (σ : S) : Prop :=
  ∀ (ls : Array Slot) (H : Heap) (locs : List Loc), lv_has ls nL lv → va_P D vwCl (wd σ) H → va_D A (wd σ) → va_S A s.heap H locs → W p l e R s m args below meth c H locs 0 0 Q (F0 m pc ls st)
section GEN
variable {p : Program} {l : Launch} {e : Env} {R : Room} {s : State} {m : MethodId} {args : Array Value} {below : List Frame} {meth : Method} {c : Code} {H : Heap} {locs : List Loc} {cells slots : Nat} {Q : State → Prop}
variable {cc : ByteArray} {pc : Nat} {ls : Array Slot} {rest st0 : List Value} {S : Type} {D : va_G} {wd : S → va_W} {tys : List (ClassId × FieldType)} {A : Nat → Prop} {a : Array Value} {av : List Value} {σ σ' : S} {sz : Nat}
theorem bl_ : FrameBlind (va_Pc av (pr_ D wd tys sz σ)) := fun a U g mk q => by
  obtain ⟨q0, q1, qP, qK, qD, qN⟩ := q
  exact ⟨q0, q1, qP, va_K.moved (u := U) (U := U.calling g mk a) (Vm.Alike.refl U.vm) qK, qD, nl_same rfl qN⟩
theorem pre_ (hP : va_P D vwCl (wd σ) H) (hK : va_K D vwCl tys s) (hD : va_D A (wd σ)) (hN : nl_ s) : ∀ U : State, U.heap = H → s.WarmedH U.vm → va_Pc av (pr_ D wd tys H.size σ) av.toArray U := fun U hU hW =>
  ⟨rfl, by rw [hU], by rw [hU]; exact hP, va_K.moved hW.alike hK, hD.weaken (fun _ _ _ _ => trivial), nl_warm hW hN⟩
theorem fc_ (hD : va_D A (wd σ)) (hS : va_S A s.heap H locs) (hA : ∀ q, s.heap.size ≤ q → A q) : ∀ q, va_A (wd σ) H.size q → A q := fun q h => by
  rcases h with ⟨k, e, h⟩ | h
  · exact hD.2 k _ h
  · exact hA q (Nat.le_trans hS.1 h)
theorem ca_i {v : Int32} (hr : va_Run p l e R s m args below meth c H locs cells slots 0 0 (F0 m pc ls st0) rest (qi_ D wd tys (va_A (wd σ) H.size) v σ' a) (va_A (wd σ) H.size))
    (hD : va_D A (wd σ)) (hS : va_S A s.heap H locs) (hA : ∀ q, s.heap.size ≤ q → A q)
    (kk : ∀ (H1 : Heap) (locs1 : List Loc), va_P D vwCl (wd σ') H1 → va_D A (wd σ') → va_S A s.heap H1 locs1 → W p l e R s m args below meth c H1 locs1 cells slots Q (F0 m (pc + 3) ls (.int v :: rest))) :
    W p l e R s m args below meth c H locs cells slots Q (F0 m pc ls st0) := by
  have hFc := fc_ hD hS hA
  refine va_calli hr hS (fun q _ h => hFc q h) hFc (fun r u t H1 locs1 ht hvm hw hB hz1 hk1 hS1 => ?_)
  obtain ⟨rfl, rfl⟩ := hw
  obtain ⟨hP1, hK1, hD1⟩ := hB
  rw [ht] at hP1
  exact kk H1 locs1 hP1 (hD1.weaken (fun k q _ h => hFc q.1 h)) hS1
theorem ca_v (hr : va_Run p l e R s m args below meth c H locs cells slots 0 0 (F0 m pc ls st0) rest (qv_ D wd tys (va_A (wd σ) H.size) σ' a) (va_A (wd σ) H.size))
    (hD : va_D A (wd σ)) (hS : va_S A s.heap H locs) (hA : ∀ q, s.heap.size ≤ q → A q)
    (kk : ∀ (H1 : Heap) (locs1 : List Loc), va_P D vwCl (wd σ') H1 → va_D A (wd σ') → va_S A s.heap H1 locs1 → W p l e R s m args below meth c H1 locs1 cells slots Q (F0 m (pc + 3) ls rest)) :
    W p l e R s m args below meth c H locs cells slots Q (F0 m pc ls st0) := by
  have hFc := fc_ hD hS hA
  refine va_callv hr hS (fun q _ h => hFc q h) hFc (fun u t H1 locs1 ht hvm hw hB hz1 hk1 hS1 => ?_)
  obtain rfl := hw
  obtain ⟨hP1, hK1, hD1⟩ := hB
  rw [ht] at hP1
  exact kk H1 locs1 hP1 (hD1.weaken (fun k q _ h => hFc q.1 h)) hS1
theorem re_i {t v : Int32} (hx : p.tables.exec = Jvm.exec) (hb : c.code = cc) (hr : meth.sig.returnType = some .int) (hlocks : meth.locks = false) (e1 : t = v) (e2 : σ = σ') (hP : va_P D vwCl (wd σ) H) (hK : va_K D vwCl tys s) (hD : va_D A (wd σ)) (hS : va_S A s.heap H locs) (hdg : decode cc pc = .ok (.ireturn, 1)) :
    W p l e R s m args below meth c H locs cells slots (MQ below (qi_ D wd tys A v σ') args s cells slots A) (F0 m pc ls [.int t]) :=
  W.iret (v := t) hx hb hr (fun t' ht hW => ⟨⟨t, σ, rfl, ⟨e1, e2⟩, by rw [ht]; exact hP, va_K.moved hW.alike hK, hD⟩, hS.F ht⟩) hS.2.2 hdg hlocks
theorem re_z {t v : Int32} (hx : p.tables.exec = Jvm.exec) (hb : c.code = cc) (hr : meth.sig.returnType = some .boolean) (hlocks : meth.locks = false) (hz : t = 0 ∨ t = 1) (e1 : t = v) (e2 : σ = σ') (hP : va_P D vwCl (wd σ) H) (hK : va_K D vwCl tys s) (hD : va_D A (wd σ)) (hS : va_S A s.heap H locs) (hdg : decode cc pc = .ok (.ireturn, 1)) :
    W p l e R s m args below meth c H locs cells slots (MQ below (qi_ D wd tys A v σ') args s cells slots A) (F0 m pc ls [.int t]) :=
  W.zret (v := t) (ty := .boolean) hx hb hr (by rcases hz with h | h <;> rw [h] <;> decide) (fun t' ht hW => ⟨⟨t, σ, rfl, ⟨e1, e2⟩, by rw [ht]; exact hP, va_K.moved hW.alike hK, hD⟩, hS.F ht⟩) hS.2.2 hdg hlocks
theorem re_v (hx : p.tables.exec = Jvm.exec) (hb : c.code = cc) (hr : meth.sig.returnType = none) (hlocks : meth.locks = false) (e2 : σ = σ') (hP : va_P D vwCl (wd σ) H) (hK : va_K D vwCl tys s) (hD : va_D A (wd σ)) (hS : va_S A s.heap H locs) (hdg : decode cc pc = .ok (.return_, 1)) :
    W p l e R s m args below meth c H locs cells slots (MQ below (qv_ D wd tys A σ') args s cells slots A) (F0 m pc ls []) :=
  W.vret hx hb hr (fun t' ht hW => ⟨⟨σ, rfl, e2, by rw [ht]; exact hP, va_K.moved hW.alike hK, hD⟩, hS.F ht⟩) hS.2.2 hdg hlocks
end GEN
def nx_ : List Cond := [Cond.castable "java/lang/IllegalArgumentException" "java/lang/IllegalArgumentException", Cond.declares (⟨"java/lang/RuntimeException", "<init>", "()V"⟩ : MethodName), Cond.declares (⟨"java/lang/RuntimeException", "<init>", "(Ljava/lang/String;)V"⟩ : MethodName), Cond.declares (⟨"java/lang/Exception", "<init>", "()V"⟩ : MethodName), Cond.declares (⟨"java/lang/Exception", "<init>", "(Ljava/lang/String;)V"⟩ : MethodName), Cond.declares (⟨"java/lang/Throwable", "<init>", "()V"⟩ : MethodName), Cond.declares (⟨"java/lang/Throwable", "<init>", "(Ljava/lang/String;)V"⟩ : MethodName), Cond.castable "java/lang/IllegalStateException" "java/lang/IllegalStateException", Cond.castable "java/lang/IndexOutOfBoundsException" "java/lang/IndexOutOfBoundsException"]
def tp_ (U : State) : Prop := (∀ w ∈ nx_, va_Nw w U) ∧ (∃ a, vk_R "MovedFrames" 50 "no such number of words" a U) ∧ (∃ a, vk_R "MovedFrames" 136 "not enough is free" a U) ∧ (∃ a, vk_R "MovedFrames" 132 "nothing with that number is there" a U) ∧ (∃ a, vk_R "MovedFrames" 71 "no such number of pages" a U) ∧ (∃ a, vk_R "MovedFrames" 142 "the space is not there" a U) ∧ (∃ a, vk_R "MovedFrames" 148 "one of them is no page" a U) ∧ (∃ a, vk_R "MovedFrames" 87 "a page is in a region already" a U) ∧ (∃ a, vk_R "MovedFrames" 180 "nothing at that address" a U) ∧ (∃ a, vk_R "MovedFrames" 171 "the page is in no region" a U) ∧ (∃ a, vk_R "MovedFrames" 107 "no such order of a run" a U)
theorem nx_warm {s U : State} (hW : s.WarmedH U.vm) : ∀ w ∈ nx_, va_Nw w s → va_Nw w U := by
  intro w hw
  simp only [nx_, List.mem_cons, List.not_mem_nil, or_false] at hw
  rcases hw with rfl | rfl | rfl | rfl | rfl | rfl | rfl | rfl | rfl <;> intro h <;> first | exact va_Nw.warmC hW h | exact va_Nw.warmD hW h
theorem tp_warm {s U : State} (hW : s.WarmedH U.vm) (hT : tp_ s) : tp_ U := ⟨fun w hw => nx_warm hW w hw (hT.1 w hw), hT.2.1.imp fun _ h => vk_R.warm hW h, hT.2.2.1.imp fun _ h => vk_R.warm hW h, hT.2.2.2.1.imp fun _ h => vk_R.warm hW h, hT.2.2.2.2.1.imp fun _ h => vk_R.warm hW h, hT.2.2.2.2.2.1.imp fun _ h => vk_R.warm hW h, hT.2.2.2.2.2.2.1.imp fun _ h => vk_R.warm hW h, hT.2.2.2.2.2.2.2.1.imp fun _ h => vk_R.warm hW h, hT.2.2.2.2.2.2.2.2.1.imp fun _ h => vk_R.warm hW h, hT.2.2.2.2.2.2.2.2.2.1.imp fun _ h => vk_R.warm hW h, hT.2.2.2.2.2.2.2.2.2.2.imp fun _ h => vk_R.warm hW h⟩
theorem nx_tab : ∀ w ∈ nx_, w.onTables = true := by decide +kernel
theorem tp_same {U V : State} (hv : V.vm = U.vm) (hT : tp_ U) : tp_ V := ⟨fun w hw => va_Nw.same (nx_tab w hw) hv.symm (hT.1 w hw), hT.2.1.imp fun _ h => vk_R.same hv h, hT.2.2.1.imp fun _ h => vk_R.same hv h, hT.2.2.2.1.imp fun _ h => vk_R.same hv h, hT.2.2.2.2.1.imp fun _ h => vk_R.same hv h, hT.2.2.2.2.2.1.imp fun _ h => vk_R.same hv h, hT.2.2.2.2.2.2.1.imp fun _ h => vk_R.same hv h, hT.2.2.2.2.2.2.2.1.imp fun _ h => vk_R.same hv h, hT.2.2.2.2.2.2.2.2.1.imp fun _ h => vk_R.same hv h, hT.2.2.2.2.2.2.2.2.2.1.imp fun _ h => vk_R.same hv h, hT.2.2.2.2.2.2.2.2.2.2.imp fun _ h => vk_R.same hv h⟩
/-! ===== methods that throw: their contract where they throw (where they return, it is a plain one) ===== -/
def ec_ (n : Nat) : String := match n with
  | 1 => "java/lang/IllegalArgumentException"
  | 2 => "java/lang/IndexOutOfBoundsException"
  | _ => "java/lang/IllegalStateException"
abbrev nm2_ : List String := ["java/lang/RuntimeException", "java/lang/Exception"]
def zq_ (A : Nat → Prop) (U : State) (H : Heap) : Prop := vx_Zq Bundle.tN "UNASSIGNED_STACK" Bundle.steD A U H ∧ vx_Zq Bundle.tN "SUPPRESSED_SENTINEL" Bundle.listD A U H
def prx_ {S : Type} (D : va_G) (wd : S → va_W) (tys : List (ClassId × FieldType)) (sz : Nat) (σ : S) : State → Prop := fun U =>
  pr_ D wd tys sz σ U ∧ tp_ U ∧ zq_ (va_A (wd σ) sz) U U.heap
abbrev xx_ {S : Type} (D : va_G) (wd : S → va_W) (tys : List (ClassId × FieldType)) (A : Nat → Prop) (n : Nat) (σ' : S) : String → State → State → Prop :=
  vx_X (fun (u : S) => ¬ n = 0 ∧ u = σ') (fun E u t => E = ec_ n ∧ at_ D wd tys A u t) A
abbrev fi_ {S : Type} (D : va_G) (wd : S → va_W) (tys : List (ClassId × FieldType)) (A : Nat → Prop) : Array Value → State → Outcome → State → Prop :=
  va_Qi (fun (_ : Int32) (_ : S) => False) (at_ D wd tys A) A
abbrev fv_ {S : Type} (D : va_G) (wd : S → va_W) (tys : List (ClassId × FieldType)) (A : Nat → Prop) : Array Value → State → Outcome → State → Prop :=
  va_Qv (fun (_ : S) => False) (at_ D wd tys A) A
section GENX
variable {p : Program} {l : Launch} {e : Env} {R : Room} {s : State} {m : MethodId} {args : Array Value} {below : List Frame} {meth : Method} {c : Code} {H : Heap} {locs : List Loc} {cells slots : Nat} {Q : State → Prop}
variable {cc : ByteArray} {pc : Nat} {ls : Array Slot} {rest st0 : List Value} {S : Type} {D : va_G} {wd : S → va_W} {tys : List (ClassId × FieldType)} {A : Nat → Prop} {a : Array Value} {av : List Value} {σ σ' : S} {sz n : Nat}
variable {Qc : Array Value → State → Outcome → State → Prop}
theorem blx_ : FrameBlind (va_Pc av (prx_ D wd tys sz σ)) := fun a U g mk q => by
  obtain ⟨q0, ⟨q1, qP, qK, qD, qN⟩, qT, qZ⟩ := q
  exact ⟨q0, ⟨q1, qP, va_K.moved (u := U) (U := U.calling g mk a) (Vm.Alike.refl U.vm) qK, qD, nl_same rfl qN⟩, tp_same (U := U) (V := U.calling g mk a) rfl qT, vx_Zq.moved (u := U) (U := U.calling g mk a) (Vm.Alike.refl U.vm) qZ.1, vx_Zq.moved (u := U) (U := U.calling g mk a) (Vm.Alike.refl U.vm) qZ.2⟩
theorem prex_ (hP : va_P D vwCl (wd σ) H) (hK : va_K D vwCl tys s) (hD : va_D A (wd σ)) (hN : nl_ s) (hT : tp_ s) (hZ : zq_ A s s.heap) (hS : va_S A s.heap H locs) (hA : ∀ q, s.heap.size ≤ q → A q) :
    ∀ U : State, U.heap = H → s.WarmedH U.vm → va_Pc av (prx_ D wd tys H.size σ) av.toArray U := fun U hU hW => by
  have hFc := fc_ hD hS hA
  refine ⟨rfl, (pre_ (av := av) hP hK hD hN U hU hW).2, tp_warm hW hT, ?_, ?_⟩
  · rw [hU]; exact vx_Zq.narrow (vx_Zq.moved hW.alike (vx_Zq.kept hZ.1 hS.2.1)) hFc
  · rw [hU]; exact vx_Zq.narrow (vx_Zq.moved hW.alike (vx_Zq.kept hZ.2 hS.2.1)) hFc
theorem cx_i (hr : vx_Run p l e R s m args below meth c H locs 0 0 1 6 (F0 m pc ls st0) rest (fi_ D wd tys (va_A (wd σ) H.size) a) (xx_ D wd tys (va_A (wd σ) H.size) n σ') (va_A (wd σ) H.size))
    (hno : ∀ x ∈ c.exceptionTable.toList, False) (hlocks : meth.locks = false) (hK : va_K D vwCl tys s) (hD : va_D A (wd σ)) (hS : va_S A s.heap H locs) (hA : ∀ q, s.heap.size ≤ q → A q) :
    W p l e R s m args below meth c H locs 0 0 (vx_MQ below Qc (xx_ D wd tys A n σ') args s 1 6 A) (F0 m pc ls st0) := by
  have hFc := fc_ hD hS hA
  refine vx_calli hr hS (fun q _ h => hFc q h) hFc (fun q _ h => hFc q h) (fun E ce q9 u t H1 locs1 ht hvm hpx hB hz1 hk1 hS1 hce hcv hcl => ?_) (fun r u t H1 locs1 ht hvm hp => hp.elim)
  obtain ⟨hn, rfl⟩ := hpx
  obtain ⟨rfl, hP1, hK1, hD1⟩ := hB
  rw [ht] at hP1
  exact vx_out (fun x hx => (hno x hx).elim) hlocks hce hcv hcl (fun t' ht' hal => ⟨_, ⟨hn, rfl⟩, ⟨rfl, by rw [ht']; exact hP1, va_K.moved hal hK, hD1.weaken (fun k q _ h => hFc q.1 h)⟩, hS1.F ht'⟩) hS1.2.2 (Nat.le_refl _) (Nat.le_refl _)
theorem cx_v (hr : vx_Run p l e R s m args below meth c H locs 0 0 1 6 (F0 m pc ls st0) rest (fv_ D wd tys (va_A (wd σ) H.size) a) (xx_ D wd tys (va_A (wd σ) H.size) n σ') (va_A (wd σ) H.size))
    (hno : ∀ x ∈ c.exceptionTable.toList, False) (hlocks : meth.locks = false) (hK : va_K D vwCl tys s) (hD : va_D A (wd σ)) (hS : va_S A s.heap H locs) (hA : ∀ q, s.heap.size ≤ q → A q) :
    W p l e R s m args below meth c H locs 0 0 (vx_MQ below Qc (xx_ D wd tys A n σ') args s 1 6 A) (F0 m pc ls st0) := by
  have hFc := fc_ hD hS hA
  refine vx_callv hr hS (fun q _ h => hFc q h) hFc (fun q _ h => hFc q h) (fun E ce q9 u t H1 locs1 ht hvm hpx hB hz1 hk1 hS1 hce hcv hcl => ?_) (fun u t H1 locs1 ht hvm hp => hp.elim)
  obtain ⟨hn, rfl⟩ := hpx
  obtain ⟨rfl, hP1, hK1, hD1⟩ := hB
  rw [ht] at hP1
  exact vx_out (fun x hx => (hno x hx).elim) hlocks hce hcv hcl (fun t' ht' hal => ⟨_, ⟨hn, rfl⟩, ⟨rfl, by rw [ht']; exact hP1, va_K.moved hal hK, hD1.weaken (fun k q _ h => hFc q.1 h)⟩, hS1.F ht'⟩) hS1.2.2 (Nat.le_refl _) (Nat.le_refl _)
theorem th_ {own cls text : String} {ik is ic : Nat} (hx : p.tables.exec = Jvm.exec) (hb : c.code = cc) (hl : l.stackTraces = false) (hown : s.vm.findClass own = some m.cls) (hcls : Bundle.fit cls = true) (hnames : ∀ n ∈ nm2_, Bundle.fit n = true)
    (hk : (Cond.classLink own ik cls).before args s = true) (hini : (Cond.initialized cls).before args s = true) (hstr : ∃ sa, vk_R own is text sa s) (hat : ∀ w ∈ vx_atS own ic cls nm2_, w.before args s = true)
    (hgood : ∀ w ∈ Cond.classLink own ik cls :: Cond.initialized cls :: vx_atS own ic cls nm2_, vx_ot w = true) (hZ : zq_ A s s.heap)
    (hP : va_P D vwCl (wd σ) H) (hK : va_K D vwCl tys s) (hD : va_D A (wd σ)) (hS : va_S A s.heap H locs) (hsize : ls.size = c.maxLocals)
    (d0 : decode cc pc = .ok (.new ik, 3)) (d3 : decode cc (pc + 3) = .ok (.dup, 1)) (d4 : decode cc (pc + 4) = .ok (.ldc is, 2)) (d6 : decode cc (pc + 6) = .ok (.invokespecial ic, 3)) (d9 : decode cc (pc + 9) = .ok (.athrow, 1))
    (hno : ∀ x ∈ c.exceptionTable.toList, False) (hR1 : 5 < R.frames) (hR2 : (rest.map fun v => v.category).sum + 82 ≤ R.locals) (hR3 : 0 + 1 ≤ R.cells) (hR4 : 0 + 6 ≤ R.slots) (hlocks : meth.locks = false) (hn : ¬ n = 0) (hc : cls = ec_ n) (e2 : σ = σ') :
    W p l e R s m args below meth c H locs 0 0 (vx_MQ below Qc (xx_ D wd tys A n σ') args s 1 6 A) (F0 m pc ls rest) :=
  vx_throwS hx hb hl hown hcls hnames hk hini hstr.choose_spec hat hgood hZ.1 hZ.2 hS hsize d0 d3 d4 d6 d9 (fun x h => (hno x h).elim) hR1 hR2 hR3 hR4 hlocks
    (fun t hal hsz hkeep => ⟨σ, ⟨hn, e2⟩, ⟨hc, hP.kept (fun k q hk => hkeep q.1 ((hP k q hk).lt)), va_K.moved hal hK, hD⟩, ⟨Nat.le_trans hS.1 hsz, fun q h1 h2 => (hkeep q (Nat.lt_of_lt_of_le h1 hS.1)).trans (hS.2.1 q h1 h2)⟩⟩) hS.2.2 (Nat.le_refl _) (Nat.le_refl _)
end GENX
theorem mi_t3 {S : Type} {a v : Int32} {b n : Nat} {x y : S} (h : some (a, b, x) = some (v, n, y)) : a = v ∧ b = n ∧ x = y := by cases h; exact ⟨rfl, rfl, rfl⟩
theorem mi_t2 {a v : Int32} {b n : Nat} (h : some (a, b) = some (v, n)) : a = v ∧ b = n := by cases h; exact ⟨rfl, rfl⟩
