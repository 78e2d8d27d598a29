/-! each rule holds of the machine: what is made, calls, ends -/
theorem gm_WW.push {G : gm_G} {h h2 : gm_H} {kd : Nat × Nat} {H H1 : Heap} (hW : gm_WW G h H) (hs : h2.1 = h.1 ++ [kd]) (ho : ∀ k x, k < h.1.length → gm_cell G h2 k x = gm_cell G h k x) (he : va_at G.2.2.2 gm_cl (G.1 + h.1.length, gm_cell G h2 h.1.length kd) H1) (z : H1.size = G.1 + h.1.length + 1) (oq : ∀ q : Nat, q < G.1 + h.1.length → H1[q]? = H[q]?) : gm_WW G h2 H1 := by
  refine ⟨by rw [z, hs]; simp; omega, ?_⟩
  rw [gm_ws_push hs ho rfl]
  refine (hW.2.kept fun k x hx => oq x.1 (by have := (hW.2 k x hx).lt; rw [hW.1] at this; exact this)).app (fun k x hx => ?_)
  have hz : k < 1 := (List.getElem?_eq_some_iff.mp hx).1
  rw [show k = 0 by omega] at hx
  cases hx
  exact he
theorem gm_sP {G : gm_G} {H0 H H1 : Heap} {locs : List Loc} {n : Nat} (hS : va_S (gm_A G) H0 H locs) (hz : H.size = n) (z : H1.size = n + 1) (oq : ∀ q : Nat, q < n → H1[q]? = H[q]?) : va_S (gm_A G) H0 H1 locs :=
  ⟨Nat.le_trans hS.1 (by omega), fun x h1 h2 => (oq x (by have := Nat.lt_of_lt_of_le h1 hS.1; omega)).trans (hS.2.1 x h1 h2), hS.2.2⟩
theorem gm_dflt (G : gm_G) (h : gm_H) (n ci k : Nat) (e1 : h.2.1 n k = 0) (e2 : h.2.2.1 n k = 0) (e3 : h.2.2.2 n k = none) : defaultValue (gm_ty ci k) = gm_cv G (gm_fv h n ci k) := by
  have hno := gm_tyno ci k
  unfold gm_fv gm_ft
  rw [e1, e2, e3]
  generalize gm_ty ci k = t at hno
  cases t <;> simp_all [gm_ftt, defaultValue, gm_cv, gm_ov]
section GmD
variable (l : Launch) (G : gm_G) (L : Nat) (xs : Nat → Int32)
set_option maxHeartbeats 4000000 in
theorem sd_new : rl_new L xs (gm_SP l G L xs) := by
  intro m pc nx lk a b z ls st h nc ns Q q0 idx cw hf hq0 hc hnc hns g q hq p e s mid args below meth c H locs lo C hW hS hl hn
  have K := fun H1 hW1 hS1 => g q hq p e s mid args below meth c H1 locs lo C hW1 hS1 hl hn
  have hqe : q = q0 := Option.some.inj (hq.symm.trans hq0)
  subst hqe
  obtain ⟨hx, hb, hml, hown, hts, hN, hK, -⟩ := C
  have hlk : Cond.classLink (gm_own q.2.2.2.2.1) idx (gm_own a) ∈ gm_tbl := gm_clk (of_decide_eq_true (gm_fe hq hf).2)
  obtain ⟨rfl, hd⟩ := gm_at hq hf rfl
  have hcn := (gm_clnm hc).1
  rw [hcn] at hlk
  have hz : ∃ r, (gm_cl.zip gm_CP)[a]? = some (cw, r) := by
    have hal : a < gm_cl.length := (List.getElem?_eq_some_iff.mp hc).1
    refine ⟨gm_CP[a]'(by exact hal), ?_⟩
    rw [List.getElem?_zip_eq_some]
    exact ⟨hc, List.getElem?_eq_getElem _⟩
  obtain ⟨r, hz⟩ := hz
  have h2 := List.all_eq_true.mp gm_ckI _ (List.mem_of_getElem? hz)
  rw [Bool.and_eq_true] at h2
  have hins : Cond.instantiable cw.1 cw.2.2 ∈ gm_tbl := gm_in (of_decide_eq_true h2.1) rfl
  have hini : Cond.initialized cw.1 ∈ gm_tbl := gm_in (of_decide_eq_true h2.2) rfl
  have hKn := hK.1 a _ hc
  refine W.newcK hx hb hown (hts _ hlk) (hts _ hins) (hts _ hini) rfl hd hnc hns hKn.2.1 hW.1 fun H1 kC hkC e1 z1 o1 => ?_
  refine K H1 (hW.push rfl (fun k y hk => gm_cN hk y) ⟨_, hc, (u_born (gm_ty a) hts (gm_uws hc) hKn hkC e1 (gm_tyok hc)).to fun j hj => ?_⟩ z1 o1) (gm_sP hS hW.1 z1 o1)
  rw [gm_fsV G _ _ a hc hj]
  exact gm_dflt G _ _ a j (by simp [va_up]) (by simp [va_up]) (by simp [va_up])
set_option maxHeartbeats 4000000 in
theorem sd_newa : rl_newa L xs (gm_SP l G L xs) := by
  intro m pc nx lk a b z ls st h nc ns Q q0 t n N kd hf hq0 hkd hn0 hN hN2 hnc hns g q hq p e s mid args below meth c H locs lo C hW hS hl hn
  have K := fun H1 hW1 hS1 => g q hq p e s mid args below meth c H1 locs lo C hW1 hS1 hl hn
  have hqe : q = q0 := Option.some.inj (hq.symm.trans hq0)
  subst hqe
  obtain ⟨hx, hb, hml, hown, hts, hN', hK, -⟩ := C
  obtain ⟨rfl, hd⟩ := gm_at hq hf rfl
  have wA := gm_wArr
  cases t <;> first | (cases hkd; done) | skip
  case int =>
    cases hkd
    refine va_newaK hx hb (hts _ (gm_in wA.1 rfl)) rfl hd rfl hn0 hN (by show N * componentBytes .int ≤ _; simp only [componentBytes]; omega) hnc hns hW.1 fun H1 cA e1 z1 o1 hAr hNm => ?_
    have hcA : cA = G.2.2.1 0 := Option.some.inj (hNm.symm.trans (hK.2 0 _ rfl).2)
    subst hcA
    refine K H1 (hW.push rfl (fun k y hk => gm_cN hk y) ?_ z1 o1) (gm_sP hS hW.1 z1 o1)
    show H1[G.1 + h.1.length]? = some (vp_cell _ (N, .inl (va_up h.2.1 h.1.length (fun _ => 0) h.1.length)))
    rw [gm_upS]
    exact e1
  case long =>
    cases hkd
    refine va_newaK hx hb (hts _ (gm_in wA.2.1 rfl)) rfl hd rfl hn0 hN (by show N * componentBytes .long ≤ _; simp only [componentBytes]; omega) hnc hns hW.1 fun H1 cA e1 z1 o1 hAr hNm => ?_
    have hcA : cA = G.2.2.1 1 := Option.some.inj (hNm.symm.trans (hK.2 1 _ rfl).2)
    subst hcA
    refine K H1 (hW.push rfl (fun k y hk => gm_cN hk y) ?_ z1 o1) (gm_sP hS hW.1 z1 o1)
    show H1[G.1 + h.1.length]? = some (vp_cell _ (N, .inr (.inl (va_up h.2.2.1 h.1.length (fun _ => 0) h.1.length))))
    rw [gm_upS]
    exact e1
  case boolean =>
    cases hkd
    refine va_newaK hx hb (hts _ (gm_in wA.2.2.1 rfl)) rfl hd rfl hn0 hN (by show N * componentBytes .boolean ≤ _; simp only [componentBytes]; omega) hnc hns hW.1 fun H1 cA e1 z1 o1 hAr hNm => ?_
    have hcA : cA = G.2.2.1 2 := Option.some.inj (hNm.symm.trans (hK.2 2 _ rfl).2)
    subst hcA
    refine K H1 (hW.push rfl (fun k y hk => gm_cN hk y) ?_ z1 o1) (gm_sP hS hW.1 z1 o1)
    show H1[G.1 + h.1.length]? = some (vp_cell _ (N, .inl (va_up h.2.1 h.1.length (fun _ => 0) h.1.length)))
    rw [gm_upS]
    exact e1
theorem gm_own2 {a : Nat} (ha : a = 2 ∨ a = 5) : gm_own a = gm_otn a := by rcases ha with rfl | rfl <;> rfl
set_option maxHeartbeats 4000000 in
theorem sd_anew : rl_anew L xs (gm_SP l G L xs) := by
  intro m pc nx lk a b z ls st h nc ns Q q0 idx n N hf hq0 hn0 hN hN2 hnc hns g q hq p e s mid args below meth c H locs lo C hW hS hl hn
  have K := fun H1 hW1 hS1 => g q hq p e s mid args below meth c H1 locs lo C hW1 hS1 hl hn
  have hqe : q = q0 := Option.some.inj (hq.symm.trans hq0)
  subst hqe
  obtain ⟨hx, hb, hml, hown, hts, hN', hK, -⟩ := C
  have hck := (gm_fe hq hf).2
  have hck : (decide ((gm_CT[lk]?).map (fun f => (f.1, f.2.1, f.2.2.1)) = some (q.2.2.2.2.1, idx, a)) && (decide (a = 2) || decide (a = 5))) = true := hck
  rw [Bool.and_eq_true, Bool.or_eq_true] at hck
  have ha : a = 2 ∨ a = 5 := hck.2.elim (fun x => Or.inl (of_decide_eq_true x)) (fun x => Or.inr (of_decide_eq_true x))
  have hlk := gm_clk (of_decide_eq_true hck.1)
  rw [gm_own2 ha] at hlk
  obtain ⟨rfl, hd⟩ := gm_at hq hf rfl
  have hover : va_AO (gm_otn a) s := by
    rcases ha with rfl | rfl
    · exact hN'.2.1
    · exact hN'.2.2
  subst hN
  refine W.anew hx hb hown (hts _ hlk) (va_AO.use hover) rfl hd rfl hn0 (by omega) hnc hns fun cA kA comp f1 f2 f3 f4 => ?_
  have hcA : cA = G.2.2.1 (gm_oid a) := by
    obtain ⟨kA', comp', k1, k2, k3, k4⟩ := (hK.2 _ _ (gm_tl_o ha)).2
    exact Option.some.inj (f1.symm.trans k4)
  subst hcA
  have z1 : (H.push ({ cls := G.2.2.1 (gm_oid a), slots := Array.replicate n.toNatClampNeg .null, vm := .none } : Cell)).size = G.1 + h.1.length + 1 := by rw [Array.size_push, hW.1]
  have e1 : (H.push ({ cls := G.2.2.1 (gm_oid a), slots := Array.replicate n.toNatClampNeg .null, vm := .none } : Cell))[G.1 + h.1.length]? = some (arrV (G.2.2.1 (gm_oid a)) n.toNatClampNeg (fun _ => .null)) := by rw [← hW.1, Array.getElem?_push_size, ← arrV_new]
  have o1 : ∀ q : Nat, q < G.1 + h.1.length → (H.push ({ cls := G.2.2.1 (gm_oid a), slots := Array.replicate n.toNatClampNeg .null, vm := .none } : Cell))[q]? = H[q]? := fun q hq => by rw [Array.getElem?_push, if_neg (by rw [hW.1]; exact Nat.ne_of_lt hq)]
  rw [hW.1]
  refine K _ (hW.push (kd := (a + 4, n.toNatClampNeg)) rfl (fun k y hk => gm_cN hk y) ?_ z1 o1) (gm_sP hS hW.1 z1 o1)
  show _ = some (vp_cell _ (n.toNatClampNeg, .inr (.inr (.inr (.inr (fun i => (va_up h.2.2.2 h.1.length (fun _ => none) h.1.length i).map fun x => G.1 + x))))))
  rw [gm_upS, e1]
  rfl
/-- a method's start, for a call -/
def gm_Pc (vs : List Value) (h : gm_H) : Array Value → State → Prop := va_Pc (vs.map (gm_cv G)) (fun U => gm_WW G h U.heap ∧ gm_N U ∧ va_K G.2.2.2 gm_cl (gm_tl G.2.2.1) U ∧ va_X G.2.1 L xs U U.heap ∧ G.2.1 < G.1 ∧ G.1 ≤ U.heap.size)
set_option maxHeartbeats 4000000 in
theorem gm_met {a kd : Nat} {q : gm_M} (hq : gm_PT[a]? = some q) (hk : (gm_PP[a]?).map (fun r => r.2.2.2.2) = some kd) (h3 : ¬ kd = 3) (h4 : ¬ kd = 4) {vs : List Value} {h : gm_H} {R : Value → gm_H → Prop} (hlen : (gm_sl vs).length ≤ q.2.2.1) (hSP : gm_SP l G L xs a 0 (gm_ent q.2.2.1 vs) [] h 0 0 R) :
    Met l q.1 (Cond.code q.1 q.2.1 q.2.2.1 q.2.2.2.1 :: gm_tbl) (gm_rm q) (gm_Pc G L xs vs h) (gm_Qc G q R) q.2.2.2.2.2.2.2.2.1 q.2.2.2.2.2.2.2.2.2.1 (gm_A G) := by
  obtain ⟨⟨e1, e2, e3⟩, -⟩ := gm_mw hq hk h3 h4
  refine Met.ofW (cc := q.2.1) (maxL := q.2.2.1) (ret := q.2.2.2.1) e2 rfl ?_
  intro p e s m args below meth c s₁ B hml hv
  obtain ⟨rfl, hW, hN, hK, hX, hbB, hBs⟩ := hv
  have hts := atoms_spec (ws := Cond.code q.1 q.2.1 q.2.2.1 q.2.2.2.1 :: gm_tbl) B.pre
  have hown : s.vm.findClass q.1.cls = some m.cls := findClass_of_methodNamed B.named
  have hin : meth.name = q.1.name := (name_of_methodNamed B.named B.method).1
  have hl := lv_entry (vs.map (gm_cv G)) (n := q.2.2.1) (by rw [gm_lg_sl]; exact hlen)
  rw [← gm_al_sl G vs 0 (q.2.2.1 - (gm_sl vs).length)] at hl
  rw [lg_entry_eq]
  exact hSP q hq p e s m _ below meth c s.heap [] _ ⟨B.exec, B.bytes, hml, by rw [← e1]; exact hown, fun w hw => hts w (List.mem_cons_of_mem _ hw), hN, hK, hX, hbB, hBs, B.returns, B.notSynchronized, fun hz => hin.trans hz⟩ hW va_S.rf hl (gm_ent_len hlen)
theorem gm_Pc_blind (vs : List Value) (h : gm_H) : FrameBlind (gm_Pc G L xs vs h) := by
  intro a U g mk hz
  obtain ⟨h1, h2, h3, h4, h5, h6, h7⟩ := hz
  exact ⟨h1, h2, gm_N.same rfl h3, va_K.moved (u := U) (U := U.calling g mk a) (Vm.Alike.refl U.vm) h4, va_X.moved (u := U) (U := U.calling g mk a) (Vm.Alike.refl U.vm) h5, h6, h7⟩
theorem gm_Pc_at {q : gm_M} {p : Program} {s : State} {mid : MethodId} {args : Array Value} {meth : Method} {c : Code} {H : Heap} {locs : List Loc} {vs : List Value} {h : gm_H} (C : gm_Cx G L xs q p s mid args meth c) (hW : gm_WW G h H) (hS : va_S (gm_A G) s.heap H locs) : ∀ U : State, U.heap = H → s.WarmedH U.vm → gm_Pc G L xs vs h (vs.map (gm_cv G)).toArray U := by
  obtain ⟨hx, hb, hml, hown, hts, hN, hK, hX, hbB, hBs, -⟩ := C
  intro U hU hWm
  refine ⟨rfl, by rw [hU]; exact hW, gm_N.warm hWm hN, va_K.moved hWm.alike hK, ?_, hbB, by rw [hU, hW.1]; omega⟩
  rw [hU]
  exact (hX.kept (hS.2.1 _ (Nat.lt_of_lt_of_le hbB hBs) (fun hz => Nat.not_le.mpr hbB hz))).moved hWm.alike
end GmD
section GmE
variable {p : Program} {l : Launch} {e : Env} {R : Room} {s : State} {mid : MethodId} {args : Array Value} {below : List Frame} {meth : Method} {cd : Code} {H : Heap} {locs : List Loc} {cells slots : Nat} {Qf : State → Prop}
variable {pc : Nat} {lo : Array Slot} {rest st0 : List Value} {G : gm_G} {H0 : Heap} {q : gm_M} {Rv : Value → gm_H → Prop} {a0 : Array Value} {mc ms : Nat}
theorem gm_cont (hr : va_Run p l e R s mid args below meth cd H locs cells slots mc ms (F0 mid pc lo st0) rest (gm_Qc G q Rv a0) (gm_A G)) (hS : va_S (gm_A G) H0 H locs)
    (kk : ∀ (v : Value) (h2 : gm_H) (H1 : Heap) (locs1 : List Loc), gm_WW G h2 H1 → Rv v h2 → va_S (gm_A G) H0 H1 locs1 → W p l e R s mid args below meth cd H1 locs1 (cells + mc) (slots + ms) Qf (F0 mid (pc + 3) lo ((q.2.2.2.1.map fun _ => gm_cv G v).toList ++ rest))) : W p l e R s mid args below meth cd H locs cells slots Qf (F0 mid pc lo st0) := by
  intro T hT X
  obtain ⟨v, st₀, t, T', Lc, h0, X', hL, e1, e2, ⟨⟨v', h2, hv, hp, hR⟩, hz, hk⟩, st⟩ := hr T hT X
  cases hv
  rw [h0] at hz hk
  obtain ⟨t2, a1, b1⟩ := kk v' h2 T'.heap (locs ++ Lc) (by rw [e1]; exact hp) hR
    ⟨Nat.le_trans hS.1 (by rw [e1]; exact hz), fun x g1 g2 => by rw [e1, hk x (Nat.lt_of_lt_of_le g1 hS.1) g2]; exact hS.2.1 x g1 g2, fun x hx => by
      rcases List.mem_append.mp hx with g | g
      · exact hS.2.2 x g
      · exact hL x g⟩ T' rfl X'
  exact ⟨t2, st t2 a1, b1⟩
end GmE
section GmF
variable (l : Launch) (G : gm_G) (L : Nat) (xs : Nat → Int32)
theorem gm_mapRet (G : gm_G) (o : Option FieldType) (v : Value) (rest : List Value) : ((o.map fun _ => v).toList ++ rest).map (gm_cv G) = (o.map fun _ => gm_cv G v).toList ++ rest.map (gm_cv G) := by cases o <;> simp
theorem gm_GoodIn {a kd : Nat} {q : gm_M} (hq : gm_PT[a]? = some q) (hk : (gm_PP[a]?).map (fun r => r.2.2.2.2) = some kd) (h3 : ¬ kd = 3) (h4 : ¬ kd = 4) : GoodIn gm_tbl (Cond.code q.1 q.2.1 q.2.2.1 q.2.2.2.1 :: gm_tbl) := by
  obtain ⟨-, -, hc, -⟩ := gm_mw hq hk h3 h4
  intro w hw
  rcases List.mem_cons.mp hw with rfl | hw
  · exact ⟨hc, gm_goodIn hc⟩
  · exact ⟨hw, gm_goodIn hw⟩
set_option maxHeartbeats 4000000 in
theorem sd_cV : rl_cV L xs (gm_SP l G L xs) := by
  intro m pc nx lk a b z ls st h nc ns Q q0 q2 idx r vs rest R hf hst hr hq2 hq0 hlen hsl hcat hnc hns g0 g1 q hq p e s mid args below meth c H locs lo C hW hS hl hn
  have K := fun v h2 H1 locs1 hW1 hR hS1 => g1 v h2 hR q hq p e s mid args below meth c H1 locs1 lo C hW1 hS1 hl hn
  have hPc := gm_Pc_at G L xs (vs := .ref r :: vs) C hW hS
  have hqe : q = q0 := Option.some.inj (hq.symm.trans hq0)
  subst hqe
  subst hst
  obtain ⟨hx, hb, hml, hown, hts, hN, hK, -⟩ := C
  have hck := (gm_fe hq hf).2
  have hck : (decide ((gm_MT[lk]?).map (fun f => (f.1, f.2.1, f.2.2.1, f.2.2.2.1)) = some (q.2.2.2.2.1, idx, b, a)) && decide (b = 0) && decide ((gm_PP[a]?).map (fun r => r.2.2.2.2) = some 0) && (gm_PT[a]?).any (fun q' => decide (q'.2.2.2.2.2.2.1 + 1 ≤ q.2.2.2.2.2.2.1) && decide (8 + (q'.2.2.1 + 11) + q'.2.2.2.2.2.2.2.1 ≤ q.2.2.2.2.2.2.2.1))) = true := hck
  rw [hq2] at hck
  simp only [Bool.and_eq_true, decide_eq_true_eq, Option.any_some, and_assoc] at hck
  obtain ⟨hlk, rfl, hkd, hfr, hlo⟩ := hck
  obtain ⟨pl, hpl⟩ := gm_mlk hlk
  have hlink := gm_mlk0 hq2 hpl
  obtain ⟨⟨e1, e2, e3⟩, hini, hcode, hinst, -⟩ := gm_mw hq2 hkd (by decide) (by decide)
  obtain ⟨hinst, hsel⟩ := hinst rfl
  obtain ⟨rfl, hd⟩ := gm_at hq hf rfl
  have hM := gm_met l G L xs hq2 hkd (by decide) (by decide) hsl g0
  have hcl : ∃ cw, gm_cl[q2.2.2.2.2.1]? = some cw := by
    obtain ⟨rr, h1, -⟩ := hW.2 r _ (gm_ws_get hr)
    exact ⟨rr, h1⟩
  obtain ⟨cw, hcw⟩ := hcl
  have hrecv := va_recv hK hW.2 hcw (gm_ws_get hr)
  have hC : cw.1 = q2.1.cls := by rw [e1, (gm_clnm hcw).1]
  rw [hC] at hrecv
  refine gm_cont (va_runV (As := vs.map (gm_cv G)) (rest := rest.map (gm_cv G)) ⟨hx, hb, hml, hown, hts⟩ hM ⟨callB_of q2.2.2.2.2.2.1 hts (gm_GoodIn hq2 hkd (by decide) (by decide)) rfl rfl rfl (hts _ hini) (hts _ hlink) e3 ⟨hfr, hlo⟩, hts _ hinst, hts _ hsel⟩ ⟨gm_Pc_blind G L xs _ _, hrecv, hPc⟩ rfl (by rw [List.length_map]; exact hlen) hl.1 (by rw [List.map_append, List.map_cons, List.map_reverse]; rfl) (lv_room (by rw [gm_cats]; exact hcat)) hd ⟨hnc, hns⟩) hS (fun v h2 H1 locs1 hW1 hR hS1 => ?_)
  have K1 := K v h2 H1 locs1 hW1 hR hS1
  rw [gm_mapRet] at K1
  exact K1
set_option maxHeartbeats 4000000 in
theorem sd_cS : rl_cS L xs (gm_SP l G L xs) := by
  intro m pc nx lk a b z ls st h nc ns Q q0 q2 idx vs rest R hf hb2 hst hq2 hq0 hlen hsl hcat hnc hns g0 g1 q hq p e s mid args below meth c H locs lo C hW hS hl hn
  have K := fun v h2 H1 locs1 hW1 hR hS1 => g1 v h2 hR q hq p e s mid args below meth c H1 locs1 lo C hW1 hS1 hl hn
  have hPc := gm_Pc_at G L xs (vs := vs) C hW hS
  have hqe : q = q0 := Option.some.inj (hq.symm.trans hq0)
  subst hqe
  subst hst
  obtain ⟨hx, hb, hml, hown, hts, hN, hK, -⟩ := C
  have hck := (gm_fe hq hf).2
  have hck : (decide ((gm_MT[lk]?).map (fun f => (f.1, f.2.1, f.2.2.1, f.2.2.2.1)) = some (q.2.2.2.2.1, idx, b, a)) && (if b = 2 then decide (1 ≤ q.2.2.2.2.2.2.1) && decide (8 + 18 ≤ q.2.2.2.2.2.2.2.1) else if b = 4 ∨ b = 5 then decide (1 ≤ q.2.2.2.2.2.2.1) && decide (8 + 13 ≤ q.2.2.2.2.2.2.2.1) else (decide (b = 0) || decide (b = 1)) && decide ((gm_PP[a]?).map (fun r => r.2.2.2.2) = some 1) && (gm_PT[a]?).any (fun q' => decide (q'.2.2.2.2.2.2.1 + 1 ≤ q.2.2.2.2.2.2.1) && decide (8 + (q'.2.2.1 + 11) + q'.2.2.2.2.2.2.2.1 ≤ q.2.2.2.2.2.2.2.1)))) = true := hck
  rw [hq2, if_neg hb2.1, if_neg hb2.2] at hck
  simp only [Bool.and_eq_true, Bool.or_eq_true, decide_eq_true_eq, Option.any_some, and_assoc] at hck
  obtain ⟨hlk, hb01, hkd, hfr, hlo⟩ := hck
  obtain ⟨pl, hpl⟩ := gm_mlk hlk
  obtain ⟨⟨e1, e2, e3⟩, hini, hcode, -, hstat, -⟩ := gm_mw hq2 hkd (by decide) (by decide)
  have hstat := hstat rfl
  obtain ⟨rfl, hd⟩ := gm_at hq hf rfl
  have hM := gm_met l G L xs hq2 hkd (by decide) (by decide) hsl g0
  have kk : ∀ (v : Value) (h2 : gm_H) (H1 : Heap) (locs1 : List Loc), gm_WW G h2 H1 → R v h2 → va_S (gm_A G) s.heap H1 locs1 → W p l e (gm_rm q) s mid args below meth c H1 locs1 (nc + q2.2.2.2.2.2.2.2.2.1) (ns + q2.2.2.2.2.2.2.2.2.2.1) (MQ below (gm_Qc G q Q) args s q.2.2.2.2.2.2.2.2.1 q.2.2.2.2.2.2.2.2.2.1 (gm_A G)) (F0 mid (pc + 3) lo ((q2.2.2.2.1.map fun _ => gm_cv G v).toList ++ rest.map (gm_cv G))) := by
    intro v h2 H1 locs1 hW1 hR hS1
    have K1 := K v h2 H1 locs1 hW1 hR hS1
    rw [gm_mapRet] at K1
    exact K1
  rcases hb01 with rfl | rfl
  · have hlink := gm_mlk0 hq2 hpl
    exact gm_cont (va_runS (As := vs.map (gm_cv G)) (rest := rest.map (gm_cv G)) ⟨hx, hb, hml, hown, hts⟩ hM ⟨callB_of q2.2.2.2.2.2.1 hts (gm_GoodIn hq2 hkd (by decide) (by decide)) rfl rfl rfl (hts _ hini) (hts _ hlink) e3 ⟨hfr, hlo⟩, hts _ hstat⟩ ⟨gm_Pc_blind G L xs _ _, hPc⟩ rfl (by rw [List.length_map]; exact hlen) hl.1 (by rw [List.map_append, List.map_reverse]) (lv_room (by rw [gm_cats]; exact hcat)) hd ⟨hnc, hns⟩) hS kk
  · have hlink := gm_mlk1 hq2 hpl
    exact gm_cont (va_runSN (As := vs.map (gm_cv G)) (rest := rest.map (gm_cv G)) ⟨hx, hb, hml, hown, hts⟩ hM ⟨va_cnB q2.2.2.2.2.2.1 hts (gm_GoodIn hq2 hkd (by decide) (by decide)) rfl rfl rfl (hN.1 _ _ _ _ hlink) (hts _ hini) e3 ⟨hfr, hlo⟩, hts _ hstat, trivial⟩ ⟨gm_Pc_blind G L xs _ _, hPc⟩ rfl (by rw [List.length_map]; exact hlen) hl.1 (by rw [List.map_append, List.map_reverse]) (lv_room (by rw [gm_cats]; exact hcat)) hd ⟨hnc, hns⟩) hS kk
set_option maxHeartbeats 4000000 in
theorem sd_cI : rl_cI L xs (gm_SP l G L xs) := by
  intro m pc nx lk a b z ls st h nc ns Q q0 q2 idx r vs rest R hf hb3 hst hq2 hq0 hlen hsl hcat hnc hns g0 g1 q hq p e s mid args below meth c H locs lo C hW hS hl hn
  have K := fun v h2 H1 locs1 hW1 hR hS1 => g1 v h2 hR q hq p e s mid args below meth c H1 locs1 lo C hW1 hS1 hl hn
  have hPc := gm_Pc_at G L xs (vs := .ref r :: vs) C hW hS
  have hqe : q = q0 := Option.some.inj (hq.symm.trans hq0)
  subst hqe
  subst hst
  obtain ⟨hx, hb, hml, hown, hts, hN, hK, -⟩ := C
  have hck := (gm_fe hq hf).2
  have hck : (decide ((gm_MT[lk]?).map (fun f => (f.1, f.2.1, f.2.2.1, f.2.2.2.1)) = some (q.2.2.2.2.1, idx, b, a)) && (if b = 3 then decide (1 ≤ q.2.2.2.2.2.2.1) && decide (20 ≤ q.2.2.2.2.2.2.2.1) else (decide (b = 0) || decide (b = 1)) && decide ((gm_PP[a]?).map (fun r => r.2.2.2.2) = some 2) && (gm_PT[a]?).any (fun q' => decide (q'.2.2.2.2.2.2.1 + 1 ≤ q.2.2.2.2.2.2.1) && decide (8 + (q'.2.2.1 + 11) + q'.2.2.2.2.2.2.2.1 ≤ q.2.2.2.2.2.2.2.1)))) = true := hck
  rw [hq2, if_neg hb3] at hck
  simp only [Bool.and_eq_true, Bool.or_eq_true, decide_eq_true_eq, Option.any_some, and_assoc] at hck
  obtain ⟨hlk, hb01, hkd, hfr, hlo⟩ := hck
  obtain ⟨pl, hpl⟩ := gm_mlk hlk
  obtain ⟨⟨e1, e2, e3⟩, hini, hcode, -, -, hin⟩ := gm_mw hq2 hkd (by decide) (by decide)
  obtain ⟨hinst, hname, hret⟩ := hin rfl
  obtain ⟨rfl, hd⟩ := gm_at hq hf rfl
  have hM := gm_met l G L xs hq2 hkd (by decide) (by decide) hsl g0
  have hG := gm_GoodIn hq2 hkd (by decide) (by decide)
  have kk : ∀ (v : Value) (h2 : gm_H) (H1 : Heap) (locs1 : List Loc), gm_WW G h2 H1 → R v h2 → va_S (gm_A G) s.heap H1 locs1 → W p l e (gm_rm q) s mid args below meth c H1 locs1 (nc + q2.2.2.2.2.2.2.2.2.1) (ns + q2.2.2.2.2.2.2.2.2.2.1) (MQ below (gm_Qc G q Q) args s q.2.2.2.2.2.2.2.2.1 q.2.2.2.2.2.2.2.2.2.1 (gm_A G)) (F0 mid (pc + 3) lo ((q2.2.2.2.1.map fun _ => gm_cv G v).toList ++ rest.map (gm_cv G))) := by
    intro v h2 H1 locs1 hW1 hR hS1
    have K1 := K v h2 H1 locs1 hW1 hR hS1
    rw [gm_mapRet] at K1
    exact K1
  rw [hret] at hM hG
  rcases hb01 with rfl | rfl
  · have hlink := gm_mlk0 hq2 hpl
    exact gm_cont (va_runI (As := vs.map (gm_cv G)) (rest := rest.map (gm_cv G)) ⟨hx, hb, hml, hown, hts⟩ hM (cwI q2.2.2.2.2.2.1 hts hG rfl rfl rfl (hts _ hini) (hts _ hlink) (hts _ hinst) hname e3 ⟨hfr, hlo⟩) ⟨gm_Pc_blind G L xs _ _, hPc⟩ rfl (by rw [List.length_map]; exact hlen) hl.1 (by rw [List.map_append, List.map_cons, List.map_reverse]; rfl) (lv_room (by rw [gm_cats]; exact hcat)) hd ⟨hnc, hns⟩) hS kk
  · have hlink := gm_mlk1 hq2 hpl
    exact gm_cont (va_runIN (As := vs.map (gm_cv G)) (rest := rest.map (gm_cv G)) ⟨hx, hb, hml, hown, hts⟩ hM ⟨va_cnB q2.2.2.2.2.2.1 hts hG rfl rfl rfl (hN.1 _ _ _ _ hlink) (hts _ hini) e3 ⟨hfr, hlo⟩, hname, hts _ hinst⟩ ⟨gm_Pc_blind G L xs _ _, hPc⟩ rfl (by rw [List.length_map]; exact hlen) hl.1 (by rw [List.map_append, List.map_cons, List.map_reverse]; rfl) (lv_room (by rw [gm_cats]; exact hcat)) hd ⟨hnc, hns⟩) hS kk
set_option maxHeartbeats 4000000 in
theorem sd_obj : rl_obj L xs (gm_SP l G L xs) := by
  intro m pc nx lk a b z ls st h nc ns Q idx r hf hb3 hcat g q hq p e s mid args below meth c H locs lo C hW hS hl hn
  have K := g q hq p e s mid args below meth c H locs lo C hW hS hl hn
  subst hb3
  obtain ⟨hx, hb, hml, hown, hts, hN, hK, -⟩ := C
  have hck := (gm_fe hq hf).2
  have hck : (decide ((gm_MT[lk]?).map (fun f => (f.1, f.2.1, f.2.2.1, f.2.2.2.1)) = some (q.2.2.2.2.1, idx, 3, a)) && (decide (1 ≤ q.2.2.2.2.2.2.1) && decide (20 ≤ q.2.2.2.2.2.2.2.1))) = true := hck
  simp only [Bool.and_eq_true, decide_eq_true_eq, and_assoc] at hck
  obtain ⟨hlk, hfr, hlo⟩ := hck
  obtain ⟨pl, hpl⟩ := gm_mlk hlk
  have hlink : Cond.methodLink (gm_own q.2.2.2.2.1) idx objectInit ∈ gm_tbl := gm_in (of_decide_eq_true (show decide (lw_tbl[pl]? = some (.methodLink (gm_own q.2.2.2.2.1) idx objectInit)) = true from hpl)) rfl
  obtain ⟨rfl, hd⟩ := gm_at hq hf rfl
  refine W.objInit hx hb hown (hts _ hlink) (hts _ (gm_in gm_wObj.1 rfl)) (hts _ (gm_in gm_wObj.2 rfl)) rfl (hl.1.trans hml.symm) rfl hd hfr ?_ K
  show 2 * 0 + _ + 12 ≤ q.2.2.2.2.2.2.2.1
  rw [gm_cats]
  omega
set_option maxHeartbeats 4000000 in
theorem sd_mmin : rl_mmin L xs (gm_SP l G L xs) := by
  intro m pc nx lk a b z ls st h nc ns Q idx q0 x y hf hb4 hq0 hcat hnc hns g q hq p e s mid args below meth c H locs lo C hW hS hl hn
  have K := g q hq p e s mid args below meth c H locs lo C hW hS hl hn
  have hqe : q = q0 := Option.some.inj (hq.symm.trans hq0)
  subst hqe
  subst hb4
  obtain ⟨hx, hb, hml, hown, hts, hN, hK, -⟩ := C
  have hck := (gm_fe hq hf).2
  have hck : (decide ((gm_MT[lk]?).map (fun f => (f.1, f.2.1, f.2.2.1, f.2.2.2.1)) = some (q.2.2.2.2.1, idx, 4, a)) && (decide (1 ≤ q.2.2.2.2.2.2.1) && decide (8 + 13 ≤ q.2.2.2.2.2.2.2.1))) = true := hck
  simp only [Bool.and_eq_true, decide_eq_true_eq, and_assoc] at hck
  obtain ⟨hlk, hfr, hlo⟩ := hck
  obtain ⟨pl, hpl⟩ := gm_mlk hlk
  have hlink : Cond.methodLink (gm_own q.2.2.2.2.1) idx Lib.Math.min.name ∈ gm_tbl := gm_in (of_decide_eq_true (show decide (lw_tbl[pl]? = some (.methodLink (gm_own q.2.2.2.2.1) idx Lib.Math.min.name)) = true from hpl)) rfl
  obtain ⟨rfl, hd⟩ := gm_at hq hf rfl
  have wM := gm_wMath
  exact va_mmin hx hb (hml.trans hl.1.symm) hown (hts _ hlink) (hts _ (gm_in wM.1.1 rfl)) (hts _ (gm_in wM.2.2 rfl)) (hts _ (gm_in wM.1.2 rfl)) hfr (by show _ + 13 ≤ q.2.2.2.2.2.2.2.1; rw [gm_cats]; omega) hnc hns hd K
set_option maxHeartbeats 4000000 in
theorem sd_mabs : rl_mabs L xs (gm_SP l G L xs) := by
  intro m pc nx lk a b z ls st h nc ns Q idx q0 x hf hb4 hq0 hcat hnc hns g q hq p e s mid args below meth c H locs lo C hW hS hl hn
  have K := g q hq p e s mid args below meth c H locs lo C hW hS hl hn
  have hqe : q = q0 := Option.some.inj (hq.symm.trans hq0)
  subst hqe
  subst hb4
  obtain ⟨hx, hb, hml, hown, hts, hN, hK, -⟩ := C
  have hck := (gm_fe hq hf).2
  have hck : (decide ((gm_MT[lk]?).map (fun f => (f.1, f.2.1, f.2.2.1, f.2.2.2.1)) = some (q.2.2.2.2.1, idx, 5, a)) && (decide (1 ≤ q.2.2.2.2.2.2.1) && decide (8 + 13 ≤ q.2.2.2.2.2.2.2.1))) = true := hck
  simp only [Bool.and_eq_true, decide_eq_true_eq, and_assoc] at hck
  obtain ⟨hlk, hfr, hlo⟩ := hck
  obtain ⟨pl, hpl⟩ := gm_mlk hlk
  have hlink : Cond.methodLink (gm_own q.2.2.2.2.1) idx Lib.Math.abs.name ∈ gm_tbl := gm_in (of_decide_eq_true (show decide (lw_tbl[pl]? = some (.methodLink (gm_own q.2.2.2.2.1) idx Lib.Math.abs.name)) = true from hpl)) rfl
  obtain ⟨rfl, hd⟩ := gm_at hq hf rfl
  have wM := gm_wMath
  exact va_mabs hx hb (hml.trans hl.1.symm) hown (hts _ hlink) (hts _ (gm_in wM.2.1.1 rfl)) (hts _ (gm_in wM.2.2 rfl)) (hts _ (gm_in wM.2.1.2 rfl)) hfr (by show _ + 13 ≤ q.2.2.2.2.2.2.2.1; rw [gm_cats]; omega) hnc hns hd K
end GmF
