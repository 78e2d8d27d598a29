/-! THE CLAIM OUT OF ONE WALK OF THE LAW'S BODY. Your part is whole_start (and what it stands on); all else here is the same for every law, but numbers. -/
def R_law : String := "GridMenderLaw"
def lw_P (b : Addr) (xs : List Int32) (args : Array Value) (s : State) : Prop := args = #[.ref b] ∧ s.IntsAt b xs ∧ xs.length ≤ 3072 ∧ (Jvm.Cond.and given_1 narrow_1).before args s = true
def lw_Q (_ : Array Value) (s : State) (o : Outcome) (t : State) : Prop := o = .returned (some (.int 1)) ∧ Framed s o t [] 600000 7302250
def lw_Z (below : List Frame) (a : Array Value) (s : State) : State → Prop := fun t => ∃ o, t.status = .running ∧ Ended t below o ∧ lw_Q a s o t
/-- the law's own end, with 1 on the stack, nothing written that was there before, its room as the claim has it -/
theorem lw_ret {p : Program} {l : Launch} {e : Env} {s : State} {m : MethodId} {below : List Frame} {meth : Method} {c : Code} {b : Nat} (hx : p.tables.exec = Jvm.exec) (hb : c.code = code) (hr : meth.sig.returnType = ret) (hlocks : meth.locks = false) {pc : Nat} {H : Heap} {ls : Array Slot} (hdg : decode code pc = .ok (.ireturn, 1)) : W p l e room_1 s m #[Value.ref b] below meth c H [] 600000 7302250 (lw_Z below #[Value.ref b] s) (F0 m pc ls [.int 1]) := by
  intro T hT X
  obtain ⟨fs, hret, hrun, hended, hW, hframe⟩ := X.leave (v := some (.int 1)) (hlocks := hlocks) (fun h => by rw [hr] at h; cases h)
  have hmeth' : T.vm.method? m = some meth := X.method'
  refine ⟨T.setFrames fs, ?_, .returned (some (.int 1)), hrun, hended, rfl, ⟨_, rfl⟩, hW, hframe⟩
  jvm_step X.here [X.here.top, hx, hb, hdg, hmeth', hr, ret, narrow_b1]
  (try refine ⟨rfl, ?_⟩); (try refine ⟨rfl, ?_⟩)
  first | (intro acts; rw [hret _ acts rfl rfl rfl]) | rw [hret _ _ rfl rfl rfl]
  exact Steps.refl _
/-- what holds at the law's entry: the machine, the code, the tables' words (any of lw_tbl by 'hts w (by decide +kernel)'), the script of L ints xs at the cell b, what the Statement gives of the start (any of its parts by flat_of_before) -/
def lw_At (p : Program) (s : State) (m : MethodId) (meth : Method) (c : Code) (b L : Nat) (xs : Nat → Int32) : Prop :=
  p.tables.exec = Jvm.exec ∧ c.code = code ∧ meth.sig.returnType = ret ∧ c.maxLocals = 4 ∧ s.vm.findClass R_law = some m.cls ∧ (∀ w ∈ lw_tbl, w.before #[Value.ref b] s = true) ∧ va_X b L xs s s.heap ∧ b < s.heap.size ∧ meth.locks = false ∧ (Jvm.Cond.and given_1 narrow_1).before #[Value.ref b] s = true
theorem gm_arrT {ty : FieldType} {A : Array Value} {s : State} (h : (Cond.arrayClass ty).before A s = true) : ∃ cA, ArrOfT s cA ty ∧ s.vm.findClass ("[" ++ ty.toString) = some cA := by
  obtain ⟨cA, kA, comp, h1, h2, h3⟩ := Cond.arrayClass_spec h
  exact ⟨cA, fun n z => ⟨fun k h => (by cases h), kA, h2, comp, h3⟩, h1⟩
theorem gm_arrO {C : String} {A : Array Value} {s : State} (h : (Cond.arrayOver (.object C)).before A s = true) : ∃ cA, ArrOfT s cA (.object C) ∧ va_RA s cA (.object C) := by
  obtain ⟨comp, cA, kA, h1, -, h3, h4, h5⟩ := Cond.arrayOver_spec h
  exact ⟨cA, fun n z => ⟨fun k h => (by cases h), kA, h3, comp, h4⟩, kA, comp, h3, h4, h1, h5⟩
theorem gm_kn {ci : Nat} {cw : vw_C} (hc : gm_cl[ci]? = some cw) {A : Array Value} {s : State} (hts : ∀ w ∈ gm_tbl, w.before A s = true) : ∃ (cC : ClassId) (iS : Nat → Nat), u_Kn s cw.1 cw.2.1 cw.2.2 cC iS := by
  have hz : ∃ r, (gm_cl.zip gm_CP)[ci]? = some (cw, r) := by
    have hal : ci < gm_cl.length := (List.getElem?_eq_some_iff.mp hc).1
    refine ⟨gm_CP[ci]'(by exact hal), ?_⟩
    rw [List.getElem?_zip_eq_some]
    exact ⟨hc, List.getElem?_eq_getElem _⟩
  obtain ⟨r, hz⟩ := hz
  have h2 := List.all_eq_true.mp gm_ckI _ (List.mem_of_getElem? hz)
  rw [Bool.and_eq_true] at h2
  exact u_known hts (gm_uws hc) (hts _ (gm_in (of_decide_eq_true h2.1) rfl))
theorem gm_dcs {A : Array Value} {s : State} (hts : ∀ w ∈ gm_tbl, w.before A s = true) : ∃ (dC : Nat → ClassId) (dI : Nat → Nat → Nat), ∀ (c : Nat) (q : vw_C), gm_cl[c]? = some q → u_Kn s q.1 q.2.1 q.2.2 (dC c) (dI c) := by
  have h : ∀ c : Nat, ∃ (cC : ClassId) (iS : Nat → Nat), ∀ q, gm_cl[c]? = some q → u_Kn s q.1 q.2.1 q.2.2 cC iS := by
    intro c
    cases hc : gm_cl[c]? with
    | none => exact ⟨0, fun _ => 0, fun q hq => by cases hq⟩
    | some cw =>
      obtain ⟨cC, iS, hk⟩ := gm_kn hc hts
      exact ⟨cC, iS, fun q hq => by cases hq; exact hk⟩
  exact ⟨fun c => Classical.choose (h c), fun c => Classical.choose (Classical.choose_spec (h c)), fun c q hq => Classical.choose_spec (Classical.choose_spec (h c)) q hq⟩
def gm_h0 : gm_H := ([], fun _ _ => 0, fun _ _ => 0, fun _ _ => none)
set_option maxHeartbeats 4000000 in
/-- THE LAW, from its entry, out of what the abstract machine does -/
theorem gm_start (hgo : ∀ (L : Nat) (xs : Nat → Int32), L ≤ 3072 → Go L xs 199 0 [some (.retAddr 0), none, none, none] [] gm_h0 0 0 (fun v _ => v = .int 1)) {p : Program} {e : Env} {s : State} {m : MethodId} {below : List Frame} {meth : Method} {c : Code} (l : Launch) {b L : Nat} {xs : Nat → Int32} (hL : L ≤ 3072) (C0 : lw_At p s m meth c b L xs) : W p l e room_1 s m #[Value.ref b] below meth c s.heap [] 0 0 (lw_Z below #[Value.ref b] s) (entryFrame m ([Value.ref b] : List Value).toArray 4) := by
  obtain ⟨hx, hb, hr, hml, hown, hts0, hX, hbl, hlocks, hgv⟩ := C0
  have hts : ∀ w ∈ gm_tbl, w.before #[Value.ref b] s = true := fun w hw => hts0 w (List.mem_filter.mp hw).1
  have wA := gm_wArr
  obtain ⟨c0, a0, f0⟩ := gm_arrT (hts _ (gm_in wA.1 rfl))
  obtain ⟨c1, a1, f1⟩ := gm_arrT (hts _ (gm_in wA.2.1 rfl))
  obtain ⟨c2, a2, f2⟩ := gm_arrT (hts _ (gm_in wA.2.2.1 rfl))
  obtain ⟨c3, a3, f3⟩ := gm_arrO (hts0 _ (List.mem_of_getElem? wA.2.2.2.1))
  obtain ⟨c4, a4, f4⟩ := gm_arrO (hts0 _ (List.mem_of_getElem? wA.2.2.2.2))
  obtain ⟨dC, dI, hKc⟩ := gm_dcs hts
  obtain ⟨ids, i0, i1, i2, i3, i4⟩ : ∃ ids : Nat → ClassId, ids 0 = c0 ∧ ids 1 = c1 ∧ ids 2 = c2 ∧ ids 3 = c3 ∧ ids 4 = c4 := ⟨fun k => if k = 0 then c0 else if k = 1 then c1 else if k = 2 then c2 else if k = 3 then c3 else c4, rfl, rfl, rfl, rfl, rfl⟩
  have hK : va_K (dC, dI) gm_cl (gm_tl ids) s := by
    refine ⟨hKc, fun k q hq => ?_⟩
    rcases k with _ | _ | _ | _ | _ | k
    · cases hq; rw [i0]; exact ⟨a0, f0⟩
    · cases hq; rw [i1]; exact ⟨a1, f1⟩
    · cases hq; rw [i2]; exact ⟨a2, f2⟩
    · cases hq; rw [i3]; exact ⟨a3, f3⟩
    · cases hq; rw [i4]; exact ⟨a4, f4⟩
    · simp [gm_tl] at hq
  obtain ⟨G, hG⟩ : ∃ G : gm_G, G = (s.heap.size, b, ids, (dC, dI)) := ⟨_, rfl⟩
  have hN : gm_N s := ⟨fun a i x n hx => va_Nw.of rfl (hts0 _ hx), va_AO.of (hts0 _ (List.mem_of_getElem? wA.2.2.2.1)), va_AO.of (hts0 _ (List.mem_of_getElem? wA.2.2.2.2))⟩
  have hq : gm_PT[199]? = some (yL_law, cL_law, 4, some .boolean, 12, 1, 11, 434, 600000, 7302250, cd_199) := rfl
  have hl := lv_entry ([.ref b]) (n := 4) (Nat.le_of_ble_eq_true rfl)
  rw [lg_entry_eq]
  have hW0 : gm_WW G gm_h0 s.heap := ⟨by rw [hG]; rfl, fun k q hk => by simp [gm_ws, gm_h0] at hk⟩
  have hl2 : lv_has ((lg_sl ([.ref b]) ++ List.replicate (4 - (lg_sl ([.ref b])).length) Slot.unset).toArray) 4 (gm_al (gm_cv G) 0 [some (.retAddr 0), none, none, none]) := by rw [hG]; exact hl
  have K := hgo L xs hL (gm_SP l G L xs) (gm_sound l G L xs) _ hq p e s m #[.ref b] below meth c s.heap [] _ ⟨hx, hb, hml, hown, hts, hN, by rw [hG]; exact hK, by rw [hG]; exact hX, by rw [hG]; exact hbl, by rw [hG]; exact Nat.le_refl _, hr, hlocks, fun hz => absurd hz (by decide)⟩ hW0 va_S.rf hl2 rfl
  intro T hT X
  obtain ⟨t, st, o, hrun, hend, hQc, Lc, hF, hLc⟩ := K T hT X
  obtain ⟨⟨v, h2, ho, -, hv⟩, -⟩ := hQc
  subst hv
  refine ⟨t, st, o, hrun, hend, ho, hF.1, hF.2.1, hF.2.2.weaken (fun x hx hlt => absurd hlt (Nat.not_lt.mpr (by have := hLc x hx; rw [hG] at this; exact this))) (Nat.le_refl _) (Nat.le_refl _)⟩
