/-! out of the tables' checks -/
theorem gm_find_mem : ∀ (l : List (Nat × Nat × gm_I)) (pc : Nat) (r : Nat × gm_I), gm_find pc l = some r → (pc, r) ∈ l
  | [], pc, r, h => by cases h
  | x :: t, pc, r, h => by
    unfold gm_find at h
    split at h
    · rename_i hx
      cases h
      rw [← hx]
      exact List.mem_cons_self
    · exact List.mem_cons_of_mem _ (gm_find_mem t pc r h)
theorem gm_fe {m pc nx lk a b : Nat} {ins : Instr} {z : Int} {q : gm_M} (hq : gm_PT[m]? = some q) (hf : gm_fetch m pc = some (nx, ins, lk, a, b, z)) : gm_c1 q.2.1 (pc, nx, ins, lk, a, b, z) = true ∧ gm_c2 q (pc, nx, ins, lk, a, b, z) = true := by
  unfold gm_fetch at hf
  rw [hq] at hf
  have h1 := gm_find_mem _ _ _ hf
  have h2 := List.all_eq_true.mp gm_ck q (List.mem_of_getElem? hq)
  have h3 := List.all_eq_true.mp h2 _ h1
  rw [Bool.and_eq_true] at h3
  exact h3
theorem gm_at {m pc nx lk a b : Nat} {ins : Instr} {z : Int} {q : gm_M} (hq : gm_PT[m]? = some q) (hf : gm_fetch m pc = some (nx, ins, lk, a, b, z)) (ht : gm_isTab ins = false) : nx = pc + gm_len ins ∧ decode q.2.1 pc = .ok (ins, gm_len ins) := by
  have h := (gm_fe hq hf).1
  unfold gm_c1 at h
  rw [Bool.and_eq_true, Bool.and_eq_true, ht, Bool.false_or] at h
  have h1 := of_decide_eq_true h.1.1
  have h2 : nx = pc + gm_len ins := of_decide_eq_true h.2
  refine ⟨h2, ?_⟩
  have h3 : decode q.2.1 pc = .ok (ins, nx - pc) := h1
  rw [h3, h2, Nat.add_sub_cancel_left]
theorem gm_atT {m pc nx lk a b : Nat} {ins : Instr} {z : Int} {q : gm_M} (hq : gm_PT[m]? = some q) (hf : gm_fetch m pc = some (nx, ins, lk, a, b, z)) : decode q.2.1 pc = .ok (ins, nx - pc) := by
  have h := (gm_fe hq hf).1
  unfold gm_c1 at h
  rw [Bool.and_eq_true, Bool.and_eq_true] at h
  exact of_decide_eq_true h.1.1
theorem gm_map_some {α β : Type} {x : Option α} {f : α → β} {y : β} (h : x.map f = some y) : ∃ a, x = some a ∧ f a = y := by
  cases x with
  | none => cases h
  | some a => exact ⟨a, rfl, Option.some.inj h⟩
theorem gm_any_some {α : Type} {x : Option α} {f : α → Bool} (h : x.any f = true) : ∃ a, x = some a ∧ f a = true := by
  cases x with
  | none => cases h
  | some a => exact ⟨a, rfl, h⟩
theorem gm_flk {own idx a b lk : Nat} (h : (gm_FT[lk]?).map (fun f => (f.1, f.2.1, f.2.2.1, f.2.2.2.1)) = some (own, idx, a, b)) : ∃ c, gm_cl[a]? = some c ∧ b < c.2.2 ∧ Cond.fieldLink (gm_own own) idx (c.2.1 b).1 (c.2.1 b).2.1 (c.2.1 b).2.2.1 ∈ gm_tbl := by
  obtain ⟨f, h1, h2⟩ := gm_map_some h
  obtain ⟨f1, f2, f3, f4, f5⟩ := f
  cases h2
  have h3 := List.all_eq_true.mp gm_ckF _ (List.mem_of_getElem? h1)
  obtain ⟨c, h4, h5⟩ := gm_any_some h3
  rw [Bool.and_eq_true] at h5
  exact ⟨c, h4, of_decide_eq_true h5.1, gm_in (of_decide_eq_true h5.2) rfl⟩
theorem gm_getL {m pc nx lk a b idx : Nat} {z : Int} {q : gm_M} (hq : gm_PT[m]? = some q) (hf : gm_fetch m pc = some (nx, .getfield idx, lk, a, b, z)) : ∃ c, gm_cl[a]? = some c ∧ b < c.2.2 ∧ Cond.fieldLink (gm_own q.2.2.2.2.1) idx (c.2.1 b).1 (c.2.1 b).2.1 (c.2.1 b).2.2.1 ∈ gm_tbl := gm_flk (of_decide_eq_true (gm_fe hq hf).2)
theorem gm_putL {m pc nx lk a b idx : Nat} {z : Int} {q : gm_M} (hq : gm_PT[m]? = some q) (hf : gm_fetch m pc = some (nx, .putfield idx, lk, a, b, z)) : ∃ c, gm_cl[a]? = some c ∧ b < c.2.2 ∧ Cond.fieldLink (gm_own q.2.2.2.2.1) idx (c.2.1 b).1 (c.2.1 b).2.1 (c.2.1 b).2.2.1 ∈ gm_tbl := gm_flk (of_decide_eq_true (gm_fe hq hf).2)
theorem gm_klk {own idx lk : Nat} {z : Int} (h : (gm_KT[lk]?).map (fun f => (f.1, f.2.1, f.2.2.1)) = some (own, idx, z)) : Cond.constant (gm_own own) idx (Int32.ofInt z) ∈ gm_tbl := by
  obtain ⟨f, h1, h2⟩ := gm_map_some h
  obtain ⟨f1, f2, f3, f4⟩ := f
  cases h2
  exact gm_in (of_decide_eq_true (List.all_eq_true.mp gm_ckK _ (List.mem_of_getElem? h1))) rfl
theorem gm_llk {own idx lk : Nat} {z : Int} (h : (gm_LT[lk]?).map (fun f => (f.1, f.2.1, f.2.2.1)) = some (own, idx, z)) : Cond.constantLong (gm_own own) idx (Int64.ofInt z) ∈ gm_tbl := by
  obtain ⟨f, h1, h2⟩ := gm_map_some h
  obtain ⟨f1, f2, f3, f4⟩ := f
  cases h2
  exact gm_in (of_decide_eq_true (List.all_eq_true.mp gm_ckJ _ (List.mem_of_getElem? h1))) rfl
theorem gm_clk {own idx lk a : Nat} (h : (gm_CT[lk]?).map (fun f => (f.1, f.2.1, f.2.2.1)) = some (own, idx, a)) : Cond.classLink (gm_own own) idx (gm_own a) ∈ gm_tbl := by
  obtain ⟨f, h1, h2⟩ := gm_map_some h
  obtain ⟨f1, f2, f3, f4⟩ := f
  cases h2
  exact gm_in (of_decide_eq_true (List.all_eq_true.mp gm_ckC _ (List.mem_of_getElem? h1))) rfl
theorem gm_mlk {own idx lk a b : Nat} (h : (gm_MT[lk]?).map (fun f => (f.1, f.2.1, f.2.2.1, f.2.2.2.1)) = some (own, idx, b, a)) : ∃ p, gm_mOk (own, idx, b, a, p) = true := by
  obtain ⟨f, h1, h2⟩ := gm_map_some h
  obtain ⟨f1, f2, f3, f4, f5⟩ := f
  cases h2
  exact ⟨f5, List.all_eq_true.mp gm_ckM _ (List.mem_of_getElem? h1)⟩
theorem gm_mlk0 {own idx a p : Nat} {q : gm_M} (hq : gm_PT[a]? = some q) (h : gm_mOk (own, idx, 0, a, p) = true) : Cond.methodLink (gm_own own) idx q.1 ∈ gm_tbl := by
  obtain ⟨q', h1, h2⟩ := gm_any_some (show (gm_PT[a]?).any (fun q => decide (lw_tbl[p]? = some (.methodLink (gm_own own) idx q.1))) = true from h)
  cases hq.symm.trans h1
  exact gm_in (of_decide_eq_true h2) rfl
theorem gm_mlk1 {own idx a p : Nat} {q : gm_M} (hq : gm_PT[a]? = some q) (h : gm_mOk (own, idx, 1, a, p) = true) : Cond.methodLinkNest (gm_own own) idx q.1 "GridMender" ∈ lw_tbl := by
  obtain ⟨q', h1, h2⟩ := gm_any_some (show (gm_PT[a]?).any (fun q => decide (lw_tbl[p]? = some (.methodLinkNest (gm_own own) idx q.1 "GridMender"))) = true from h)
  cases hq.symm.trans h1
  exact List.mem_of_getElem? (of_decide_eq_true h2)
/-- a method that may be called: its words -/
theorem gm_mw {a kd : Nat} {q : gm_M} (hq : gm_PT[a]? = some q) (hk : (gm_PP[a]?).map (fun r => r.2.2.2.2) = some kd) (h3 : ¬ kd = 3) (h4 : ¬ kd = 4) :
    (q.1.cls = gm_own q.2.2.2.2.1 ∧ plainName q.1.cls = true ∧ (q.1.cls ≠ "java/lang/invoke/MethodHandle" ∧ q.1.cls ≠ "java/lang/invoke/VarHandle" ∧ (parseMethodDescriptor q.1.desc).map (fun d => d.parameters.length) = some q.2.2.2.2.2.1)) ∧
    Cond.initialized q.1.cls ∈ gm_tbl ∧ Cond.code q.1 q.2.1 q.2.2.1 q.2.2.2.1 ∈ gm_tbl ∧
    (kd = 0 → Cond.instanceMethod q.1 ∈ gm_tbl ∧ Cond.selects q.1.cls q.1 q.1 ∈ gm_tbl) ∧ (kd = 1 → Cond.static q.1 ∈ gm_tbl) ∧ (kd = 2 → Cond.instanceMethod q.1 ∈ gm_tbl ∧ q.1.name = "<init>" ∧ q.2.2.2.1 = none) := by
  obtain ⟨r, hr, hk⟩ := gm_map_some hk
  have hz : (gm_PT.zip gm_PP)[a]? = some (q, r) := by rw [List.getElem?_zip_eq_some]; exact ⟨hq, hr⟩
  have h := List.all_eq_true.mp gm_ckP _ (List.mem_of_getElem? hz)
  have hlaw : ¬ q.2.2.2.2.1 = 12 := by
    have hl := List.all_eq_true.mp gm_ckW _ (List.mem_of_getElem? hz)
    rw [Bool.or_eq_true] at hl
    rcases hl with hl | hl
    · exact fun e => absurd (of_decide_eq_true hl) (by rw [e]; simp)
    · exact absurd ((of_decide_eq_true hl : r.2.2.2.2 = 3).symm.trans hk) (fun e => h3 e.symm)
  unfold gm_pOk at h
  obtain ⟨r1, r2, r3, r4, r5⟩ := r
  have hk' : r5 = kd := hk
  subst hk'
  simp only [h4, decide_false, Bool.false_or, h3, Bool.and_eq_true, decide_eq_true_eq, and_assoc] at h
  obtain ⟨e1, e2, e3, e4, e5, e6, e8⟩ := h
  have hcw : Cond.code q.1 q.2.1 q.2.2.1 q.2.2.2.1 ∈ lw_tbl := by
    rcases gm_cws q (List.mem_of_getElem? hq) with hz | hz
    · exact absurd hz hlaw
    · exact hz
  refine ⟨⟨e1, e2, e3, e4, e5⟩, gm_in e6 rfl, List.mem_filter.mpr ⟨hcw, rfl⟩, fun hz => ?_, fun hz => ?_, fun hz => ?_⟩
  · subst hz
    simp only [Bool.and_eq_true, decide_eq_true_eq] at e8
    exact ⟨gm_in e8.1 rfl, gm_in e8.2 rfl⟩
  · subst hz
    simp only [decide_eq_true_eq] at e8
    exact gm_in e8 rfl
  · subst hz
    simp only [Bool.and_eq_true, decide_eq_true_eq, and_assoc] at e8
    exact ⟨gm_in e8.1 rfl, e8.2.1, e8.2.2⟩
