/-! each rule holds of the machine: fields and arrays -/
theorem gm_cellE {G : gm_G} {h h2 : gm_H} {k : Nat} (e1 : h2.2.1 k = h.2.1 k) (e2 : h2.2.2.1 k = h.2.2.1 k) (e3 : h2.2.2.2 k = h.2.2.2 k) (x : Nat × Nat) : gm_cell G h2 k x = gm_cell G h k x := by
  rcases x with ⟨_ | _ | _ | _ | t, n⟩
  · simp only [gm_cell, gm_fv, e1, e2, e3]
  · simp only [gm_cell, e1]
  · simp only [gm_cell, e2]
  · simp only [gm_cell, e1]
  · simp only [gm_cell, e3]
theorem gm_upN {α : Type} {f : Nat → α} {k j : Nat} {v : α} (h : j ≠ k) : va_up f k v j = f j := by simp [va_up, h]
theorem gm_upS {α : Type} {f : Nat → α} {k : Nat} {v : α} : va_up f k v k = v := by simp [va_up]
theorem gm_cI {G : gm_G} {h : gm_H} {r k : Nat} {f : Nat → Int32} (hk : k ≠ r) (y : Nat × Nat) : gm_cell G (h.1, va_up h.2.1 r f, h.2.2.1, h.2.2.2) k y = gm_cell G h k y := gm_cellE (h := h) (h2 := (h.1, va_up h.2.1 r f, h.2.2.1, h.2.2.2)) (gm_upN hk) rfl rfl y
theorem gm_cJ {G : gm_G} {h : gm_H} {r k : Nat} {f : Nat → Int64} (hk : k ≠ r) (y : Nat × Nat) : gm_cell G (h.1, h.2.1, va_up h.2.2.1 r f, h.2.2.2) k y = gm_cell G h k y := gm_cellE (h := h) (h2 := (h.1, h.2.1, va_up h.2.2.1 r f, h.2.2.2)) rfl (gm_upN hk) rfl y
theorem gm_cR {G : gm_G} {h : gm_H} {r k : Nat} {f : Nat → Option Nat} (hk : k ≠ r) (y : Nat × Nat) : gm_cell G (h.1, h.2.1, h.2.2.1, va_up h.2.2.2 r f) k y = gm_cell G h k y := gm_cellE (h := h) (h2 := (h.1, h.2.1, h.2.2.1, va_up h.2.2.2 r f)) rfl rfl (gm_upN hk) y
theorem gm_cN {G : gm_G} {h : gm_H} {sh : List (Nat × Nat)} {r k : Nat} {f : Nat → Int32} {f2 : Nat → Int64} {f3 : Nat → Option Nat} (hk : k < r) (y : Nat × Nat) : gm_cell G (sh, va_up h.2.1 r f, va_up h.2.2.1 r f2, va_up h.2.2.2 r f3) k y = gm_cell G h k y := gm_cellE (h := h) (h2 := (sh, va_up h.2.1 r f, va_up h.2.2.1 r f2, va_up h.2.2.2 r f3)) (gm_upN (Nat.ne_of_lt hk)) (gm_upN (Nat.ne_of_lt hk)) (gm_upN (Nat.ne_of_lt hk)) y
theorem gm_WW.set {G : gm_G} {h h2 : gm_H} {r : Nat} {kd : Nat × Nat} {H H1 : Heap} (hW : gm_WW G h H) (hr : h.1[r]? = some kd) (hs : h2.1 = h.1) (ho : ∀ k x, k ≠ r → gm_cell G h2 k x = gm_cell G h k x) (he : va_at G.2.2.2 gm_cl (G.1 + r, gm_cell G h2 r kd) H1) (z : H1.size = H.size) (oq : ∀ q : Nat, q ≠ G.1 + r → H1[q]? = H[q]?) : gm_WW G h2 H1 := by
  refine ⟨by rw [z, hs]; exact hW.1, ?_⟩
  rw [gm_ws_set hr hs ho rfl]
  exact hW.2.set (gm_wsD G h) (gm_ws_get hr) he oq
theorem gm_sS {G : gm_G} {H0 H H1 : Heap} {locs : List Loc} {r k : Nat} (hS : va_S (gm_A G) H0 H locs) (z : H1.size = H.size) (oq : ∀ q : Nat, q ≠ G.1 + r → H1[q]? = H[q]?) : va_S (gm_A G) H0 H1 (locs ++ [⟨G.1 + r, k⟩]) := hS.put z oq (Nat.le_add_right _ _)
theorem gm_fsAt (G : gm_G) (h : gm_H) (r ci : Nat) {c : vw_C} (hc : gm_cl[ci]? = some c) {k : Nat} (hk : k < c.2.2) : ((List.range (gm_nf ci)).map fun f => gm_cv G (gm_fv h r ci f))[k]? = some (gm_cv G (gm_fv h r ci k)) := by
  have hn : gm_nf ci = c.2.2 := by unfold gm_nf; rw [hc]
  rw [List.getElem?_map, List.getElem?_range (by rw [hn]; exact hk)]
  rfl
theorem gm_fsV (G : gm_G) (h : gm_H) (r ci : Nat) {c : vw_C} (hc : gm_cl[ci]? = some c) {k : Nat} (hk : k < c.2.2) : vp_V ((List.range (gm_nf ci)).map fun f => gm_cv G (gm_fv h r ci f)) k = gm_cv G (gm_fv h r ci k) := by
  unfold vp_V
  rw [List.getD_eq_getElem?_getD, gm_fsAt G h r ci hc hk]
  rfl
section GmB
variable {p : Program} {l : Launch} {e : Env} {R : Room} {s : State} {mid : MethodId} {args : Array Value} {below : List Frame} {meth : Method} {cd : Code} {H : Heap} {locs : List Loc} {cells slots : Nat} {Qf : State → Prop}
variable {cc : ByteArray} {pc : Nat} {lo : Array Slot} {rest : List Value} {G : gm_G} {h h2 : gm_H} {H0 : Heap} {own : String} {idx r ci k : Nat} {c : vw_C} {v : Value}
set_option maxHeartbeats 4000000 in
theorem gm_putW (hx : p.tables.exec = Jvm.exec) (hb : cd.code = cc) (hts : ∀ w ∈ gm_tbl, w.before args s = true) (hown : s.vm.findClass own = some mid.cls) (hK : va_K G.2.2.2 gm_cl (gm_tl G.2.2.1) s) (hW : gm_WW G h H) (hS : va_S (gm_A G) H0 H locs)
    (hr : h.1[r]? = some (0, ci)) (hc : gm_cl[ci]? = some c) (hk : k < c.2.2) (hlink : (Cond.fieldLink own idx (c.2.1 k).1 (c.2.1 k).2.1 (c.2.1 k).2.2.1).before args s = true)
    (hfin : (c.2.1 k).2.2.2 = false ∨ ((c.2.1 k).2.2.2 = true ∧ meth.name = "<init>" ∧ (c.2.1 k).1 = own)) (hn : narrow (gm_ty ci k) v = v) (hfit : fits (gm_ty ci k) v = true) (hdg : decode cc pc = .ok (.putfield idx, 3))
    (hs : h2.1 = h.1) (ho : ∀ k x, k ≠ r → gm_cell G h2 k x = gm_cell G h k x) (hv : ∀ j, j < c.2.2 → (if j = k then v else gm_cv G (gm_fv h r ci j)) = gm_cv G (gm_fv h2 r ci j))
    (kk : ∀ (H1 : Heap) (locs1 : List Loc), gm_WW G h2 H1 → va_S (gm_A G) H0 H1 locs1 → W p l e R s mid args below meth cd H1 locs1 cells slots Qf (F0 mid (pc + 3) lo rest)) : W p l e R s mid args below meth cd H locs cells slots Qf (F0 mid pc lo (v :: .ref (G.1 + r) :: rest)) := by
  have hin := gm_uws hc
  have hty := gm_tyok hc
  have hnm := gm_nmok hc
  have hap := va_apart (own := own) (ci := ci) (args := args) (s := s) (D := G.2.2.2) (cl := gm_cl) (tys := gm_tl G.2.2.1) (C := c.1) (T := c.2.1) (N := c.2.2) hts hin (gm_ty ci) hty hnm hK hc
  obtain ⟨rr, h1, cell, q1, q2, q3, q4⟩ := hW.2 r _ (gm_ws_get hr)
  have hrr : rr = c := Option.some.inj (h1.symm.trans hc)
  subst hrr
  obtain ⟨hSl, hfc, kC, hkC, hkind⟩ := hK.1 ci _ hc
  obtain ⟨cf, kf, fi, f, hi, hsl⟩ := hSl k hk
  have hst := (u_facts hfc hkC (u_lays hts hin hk) hi).1
  have hlay := hts _ (hin _ (u_in_lay hk))
  have close : ∀ (H' : Heap), H'[G.1 + r]? = some (cell.setSlot f.slot v) → H'.size = H.size → (∀ q : Nat, q ≠ G.1 + r → H'[q]? = H[q]?) → W p l e R s mid args below meth cd H' (locs ++ [⟨G.1 + r, f.slot⟩]) cells slots Qf (F0 mid (pc + 3) lo rest) := by
    intro H' e1 e2 e3
    rw [hsl] at e1
    refine kk H' _ (hW.set hr hs ho ⟨_, hc, t_OB.to (V := updV (vp_V ((List.range (gm_nf ci)).map fun f => gm_cv G (gm_fv h r ci f))) k v) ⟨_, e1, q2, q3, t_set q4 hap hk v⟩ (fun j hj => ?_)⟩ e2 e3) (gm_sS hS e2 e3)
    rw [gm_fsV G h2 r ci hc hj, ← hv j hj]
    by_cases hjk : j = k
    · subst hjk
      simp [updV]
    · rw [if_neg hjk]
      simp only [updV, if_neg hjk]
      exact gm_fsV G h r ci hc hj
  unfold u_lay at hlay
  rcases hfin with hfin | ⟨hfin, hin2, hdecl⟩
  · rw [if_neg (by rw [hfin]; decide)] at hlay
    have h6 := u_store hfc hkC hkind hlay hi (hty k hk) hn hfit
    exact W.putK hx hb (f := f) ⟨hown, hlink, ⟨_, _, _, hi⟩, hst⟩ (by rw [q2]; exact h6) q1 q3 (by rw [hsl]; exact k2_hasslot (q4 k hk)) rfl rfl hdg close
  · rw [if_pos hfin] at hlay
    have hcf : mid.cls = cf := by
      obtain ⟨_, _, c', _, _, _, -, -, hf', -, -, -, hown2, -⟩ := Cond.laysFinal_spec hlay
      have e1 : c' = cf := by have := hi.symm.trans hf'; simp at this; exact this.1.symm
      rw [hdecl] at hown2
      rw [← e1]; exact Option.some.inj (hown.symm.trans hown2)
    have h6 := u_fits hfc hkC hkind (Or.inr hlay) hi (hty k hk) hn hfit
    exact W.putFinK hx hb hown hlink hi hst hcf hin2 (by rw [q2]; exact h6) q1 q3 (by rw [hsl]; exact k2_hasslot (q4 k hk)) rfl rfl hdg close
end GmB
theorem gm_setI (cA : ClassId) (n j : Nat) (f : Nat → Int32) (x : Int32) : (vp_cell cA (n, .inl f)).setSlot j (.int x) = vp_cell cA (n, .inl (va_up f j x)) := by
  rw [vp_cell_i, vp_cell_i, arrV_store]
  congr 1
  funext q
  by_cases hq : q = j
  · subst hq; simp [updV, va_up]
  · simp [updV, va_up, hq]
theorem gm_setL (cA : ClassId) (n j : Nat) (f : Nat → Int64) (x : Int64) : (vp_cell cA (n, .inr (.inl f))).setSlot j (.long x) = vp_cell cA (n, .inr (.inl (va_up f j x))) := by
  rw [vp_cell_l, vp_cell_l, arrV_store]
  congr 1
  funext q
  by_cases hq : q = j
  · subst hq; simp [updV, va_up]
  · simp [updV, va_up, hq]
theorem gm_setR (cA : ClassId) (n j : Nat) (f : Nat → Option Nat) (x : Nat) : (vp_cell cA (n, .inr (.inr (.inr (.inr f))))).setSlot j (.ref x) = vp_cell cA (n, .inr (.inr (.inr (.inr (va_up f j (some x)))))) := by
  rw [vp_cell_q, vp_cell_q, arrV_store]
  congr 1
  funext q
  by_cases hq : q = j
  · subst hq; simp [updV, va_up, va_rf]
  · simp [updV, va_up, hq]
theorem gm_finE {ci k : Nat} {c : vw_C} (hc : gm_cl[ci]? = some c) : gm_fin ci k = (c.2.1 k).2.2.2 := by unfold gm_fin; rw [hc]
theorem gm_ftt0 {t : FieldType} (h : gm_ftt t = 0) : t = .int ∨ t = .boolean := by cases t <;> simp [gm_ftt] at h <;> simp
theorem gm_ftt1 {t : FieldType} (h : gm_ftt t = 1) : t = .long := by cases t <;> simp [gm_ftt] at h <;> simp
theorem gm_fvI {h : gm_H} {r ci k : Nat} (e : gm_ft ci k = 0) : gm_fv h r ci k = .int (h.2.1 r k) := by unfold gm_fv; rw [e]; rfl
theorem gm_fvL {h : gm_H} {r ci k : Nat} (e : gm_ft ci k = 1) : gm_fv h r ci k = .long (h.2.2.1 r k) := by unfold gm_fv; rw [e]; rfl
theorem gm_fvR {h : gm_H} {r ci k : Nat} (e : gm_ft ci k = 2) : gm_fv h r ci k = gm_ov (h.2.2.2 r k) := by unfold gm_fv; rw [e]; rfl
theorem gm_fvE {h h2 : gm_H} {r ci k : Nat} (e1 : h2.2.1 r k = h.2.1 r k) (e2 : h2.2.2.1 r k = h.2.2.1 r k) (e3 : h2.2.2.2 r k = h.2.2.2 r k) : gm_fv h2 r ci k = gm_fv h r ci k := by unfold gm_fv; rw [e1, e2, e3]
theorem gm_cvov (G : gm_G) (r : Option Nat) : gm_cv G (gm_ov r) = va_rf (r.map fun x => G.1 + x) := by cases r <;> rfl
section GmC
variable (l : Launch) (G : gm_G) (L : Nat) (xs : Nat → Int32)
set_option maxHeartbeats 4000000 in
theorem sd_get : rl_get L xs (gm_SP l G L xs) := by
  intro m pc nx lk a b z ls st h nc ns Q idx r hf hr g q hq p e s mid args below meth c H locs lo C hW hS hl hn
  have K := g q hq p e s mid args below meth c H locs lo C hW hS hl hn
  obtain ⟨hx, hb, hml, hown, hts, hN, hK, -⟩ := C
  obtain ⟨cw, hc, hk, hw⟩ := gm_getL hq hf
  obtain ⟨rfl, hd⟩ := gm_at hq hf rfl
  obtain ⟨cC, cT, cN⟩ := cw
  exact va_get hx hb hts (gm_uws hc) hown hK hW.2 r (gm_ws_get hr) hc b hk (hts _ hw) (fun x h => h) (gm_fsAt G h r a hc hk) hd K
set_option maxHeartbeats 4000000 in
theorem sd_puti : rl_puti L xs (gm_SP l G L xs) := by
  intro m pc nx lk a b z ls st h nc ns Q idx r x hf hr h0 hfin hbo g q hq p e s mid args below meth c H locs lo C hW hS hl hn
  have K := fun H1 locs1 hW1 hS1 => g q hq p e s mid args below meth c H1 locs1 lo C hW1 hS1 hl hn
  obtain ⟨hx, hb, hml, hown, hts, hN, hK, -⟩ := C
  obtain ⟨cw, hc, hk, hw⟩ := gm_putL hq hf
  obtain ⟨rfl, hd⟩ := gm_at hq hf rfl
  have hnar : narrow (gm_ty a b) (.int x) = .int x ∧ fits (gm_ty a b) (.int x) = true := by
    rcases gm_ftt0 h0 with ht | ht
    · rw [ht]; exact ⟨rfl, rfl⟩
    · rw [ht]
      rcases hbo ht with rfl | rfl <;> exact ⟨by decide, by decide⟩
  refine gm_putW (h2 := (h.1, va_up h.2.1 r (va_up (h.2.1 r) b x), h.2.2.1, h.2.2.2)) hx hb hts hown hK hW hS hr hc hk (hts _ hw) (Or.inl (by rw [← gm_finE hc]; exact hfin)) hnar.1 hnar.2 hd rfl (fun k y hkr => gm_cI hkr y) (fun j hj => ?_) K
  by_cases hjb : j = b
  · subst hjb
    rw [if_pos rfl, gm_fvI h0]
    simp [va_up, gm_cv]
  · rw [if_neg hjb]
    refine congrArg _ (Eq.symm ?_)
    exact gm_fvE (h := h) (h2 := (h.1, va_up h.2.1 r (va_up (h.2.1 r) b x), h.2.2.1, h.2.2.2)) (by simp [va_up, hjb]) rfl rfl
set_option maxHeartbeats 4000000 in
theorem sd_putl : rl_putl L xs (gm_SP l G L xs) := by
  intro m pc nx lk a b z ls st h nc ns Q idx r x hf hr h0 hfin g q hq p e s mid args below meth c H locs lo C hW hS hl hn
  have K := fun H1 locs1 hW1 hS1 => g q hq p e s mid args below meth c H1 locs1 lo C hW1 hS1 hl hn
  obtain ⟨hx, hb, hml, hown, hts, hN, hK, -⟩ := C
  obtain ⟨cw, hc, hk, hw⟩ := gm_putL hq hf
  obtain ⟨rfl, hd⟩ := gm_at hq hf rfl
  have hnar : narrow (gm_ty a b) (.long x) = .long x ∧ fits (gm_ty a b) (.long x) = true := by
    rw [gm_ftt1 h0]; exact ⟨rfl, rfl⟩
  refine gm_putW (h2 := (h.1, h.2.1, va_up h.2.2.1 r (va_up (h.2.2.1 r) b x), h.2.2.2)) hx hb hts hown hK hW hS hr hc hk (hts _ hw) (Or.inl (by rw [← gm_finE hc]; exact hfin)) hnar.1 hnar.2 hd rfl (fun k y hkr => gm_cJ hkr y) (fun j hj => ?_) K
  by_cases hjb : j = b
  · subst hjb
    rw [if_pos rfl, gm_fvL h0]
    simp [va_up, gm_cv]
  · rw [if_neg hjb]
    refine congrArg _ (Eq.symm ?_)
    exact gm_fvE (h := h) (h2 := (h.1, h.2.1, va_up h.2.2.1 r (va_up (h.2.2.1 r) b x), h.2.2.2)) rfl (by simp [va_up, hjb]) rfl
theorem gm_refty {a b : Nat} (h0 : gm_ft a b = 2) (w : Nat) (hs : gm_ty a b ≠ .byte ∧ gm_ty a b ≠ .char ∧ gm_ty a b ≠ .short ∧ gm_ty a b ≠ .float ∧ gm_ty a b ≠ .double) : narrow (gm_ty a b) (.ref w) = .ref w ∧ fits (gm_ty a b) (.ref w) = true := by
  unfold gm_ft at h0
  generalize gm_ty a b = t at h0 hs
  cases t <;> simp_all [gm_ftt, narrow, fits]
set_option maxHeartbeats 4000000 in
theorem gm_tyno : ∀ ci k : Nat, gm_ty ci k ≠ .byte ∧ gm_ty ci k ≠ .char ∧ gm_ty ci k ≠ .short ∧ gm_ty ci k ≠ .float ∧ gm_ty ci k ≠ .double := by
  intro ci k
  have key : ∀ f ∈ gm_tys, ∀ k, f k ≠ .byte ∧ f k ≠ .char ∧ f k ≠ .short ∧ f k ≠ .float ∧ f k ≠ .double := by
    intro f hf k
    simp only [gm_tys, List.mem_cons, List.not_mem_nil, or_false] at hf
    rcases hf with rfl | rfl | rfl | rfl | rfl | rfl | rfl | rfl
    · unfold tyX0; split <;> simp
    · unfold tyX1; split <;> simp
    · unfold tyX2; split <;> simp
    · unfold tyX3; split <;> simp
    · unfold tyX4; split <;> simp
    · unfold tyX5; split <;> simp
    · unfold tyX6; split <;> simp
    · unfold tyX7; split <;> simp
  unfold gm_ty
  apply key
  rw [List.getD_eq_getElem?_getD]
  cases hx : gm_tys[ci]? with
  | none => exact List.mem_cons_self
  | some y => exact List.mem_of_getElem? hx
set_option maxHeartbeats 4000000 in
theorem sd_putr : rl_putr L xs (gm_SP l G L xs) := by
  intro m pc nx lk a b z ls st h nc ns Q q0 idx r w hf hr h0 hfin hq0 hini hoa g q hq p e s mid args below meth c H locs lo C hW hS hl hn
  have K := fun H1 locs1 hW1 hS1 => g q hq p e s mid args below meth c H1 locs1 lo C hW1 hS1 hl hn
  have hqe : q = q0 := Option.some.inj (hq.symm.trans hq0)
  subst hqe
  obtain ⟨hx, hb, hml, hown, hts, hN, hK, -, -, -, -, -, hi⟩ := C
  obtain ⟨cw, hc, hk, hw⟩ := gm_putL hq hf
  obtain ⟨rfl, hd⟩ := gm_at hq hf rfl
  have hnar := gm_refty h0 (G.1 + w) (gm_tyno a b)
  have hcn := gm_clnm hc
  refine gm_putW (h2 := (h.1, h.2.1, h.2.2.1, va_up h.2.2.2 r (va_up (h.2.2.2 r) b (some w)))) hx hb hts hown hK hW hS hr hc hk (hts _ hw) (Or.inr ⟨by rw [← gm_finE hc]; exact hfin, hi hini, by rw [hcn.2 b, hoa, hcn.1]⟩) hnar.1 hnar.2 hd rfl (fun k y hkr => gm_cR hkr y) (fun j hj => ?_) K
  by_cases hjb : j = b
  · subst hjb
    rw [if_pos rfl, gm_fvR h0]
    simp [va_up, gm_cv, gm_ov]
  · rw [if_neg hjb]
    refine congrArg _ (Eq.symm ?_)
    exact gm_fvE (h := h) (h2 := (h.1, h.2.1, h.2.2.1, va_up h.2.2.2 r (va_up (h.2.2.2 r) b (some w)))) rfl rfl (by simp [va_up, hjb])
set_option maxHeartbeats 4000000 in
theorem sd_iald : rl_iald L xs (gm_SP l G L xs) := by
  intro m pc nx lk a b z ls st h nc ns Q r n i hf hr hi g q hq p e s mid args below meth c H locs lo C hW hS hl hn
  have K := g q hq p e s mid args below meth c H locs lo C hW hS hl hn
  obtain ⟨hx, hb, hml, hown, hts, hN, hK, -⟩ := C
  obtain ⟨rfl, hd⟩ := gm_at hq hf rfl
  exact va_iald hx hb hK hW.2 r 0 (gm_ws_get hr) rfl hi hd K
set_option maxHeartbeats 4000000 in
theorem sd_lald : rl_lald L xs (gm_SP l G L xs) := by
  intro m pc nx lk a b z ls st h nc ns Q r n i hf hr hi g q hq p e s mid args below meth c H locs lo C hW hS hl hn
  have K := g q hq p e s mid args below meth c H locs lo C hW hS hl hn
  obtain ⟨hx, hb, hml, hown, hts, hN, hK, -⟩ := C
  obtain ⟨rfl, hd⟩ := gm_at hq hf rfl
  exact va_lald hx hb hK hW.2 r 1 (gm_ws_get hr) rfl hi hd K
set_option maxHeartbeats 4000000 in
theorem sd_zald : rl_zald L xs (gm_SP l G L xs) := by
  intro m pc nx lk a b z ls st h nc ns Q r n i hf hr hi g q hq p e s mid args below meth c H locs lo C hW hS hl hn
  have K := g q hq p e s mid args below meth c H locs lo C hW hS hl hn
  obtain ⟨hx, hb, hml, hown, hts, hN, hK, -⟩ := C
  obtain ⟨rfl, hd⟩ := gm_at hq hf rfl
  exact va_zald hx hb hK hW.2 r 2 (gm_ws_get hr) rfl hi hd K
set_option maxHeartbeats 4000000 in
theorem sd_aald : rl_aald L xs (gm_SP l G L xs) := by
  intro m pc nx lk a b z ls st h nc ns Q r n j i hf hr hi hj g q hq p e s mid args below meth c H locs lo C hW hS hl hn
  have K := g q hq p e s mid args below meth c H locs lo C hW hS hl hn
  obtain ⟨hx, hb, hml, hown, hts, hN, hK, -⟩ := C
  obtain ⟨rfl, hd⟩ := gm_at hq hf rfl
  refine va_aldq hx hb hK hW.2 r (gm_oid j) (gm_ws_get hr) (gm_tl_o hj) hi hd ?_
  rw [List.map_cons, gm_cvov] at K
  exact K
set_option maxHeartbeats 4000000 in
theorem sd_iast : rl_iast L xs (gm_SP l G L xs) := by
  intro m pc nx lk a b z ls st h nc ns Q r n i x hf hr hi g q hq p e s mid args below meth c H locs lo C hW hS hl hn
  have K := fun H1 locs1 hW1 hS1 => g q hq p e s mid args below meth c H1 locs1 lo C hW1 hS1 hl hn
  obtain ⟨hx, hb, hml, hown, hts, hN, hK, -⟩ := C
  obtain ⟨rfl, hd⟩ := gm_at hq hf rfl
  refine W.iast hx hb (hW.2 r _ (gm_ws_get hr)) ((hK.2 0 _ rfl).1 n (fun j => .int (h.2.1 r j))) (fun q => by cases q) (by show ¬ (i < 0 ∨ (arrV _ _ _).slots.size ≤ _); rw [arrV_size]; exact hi) rfl rfl hd fun H1 e1 z1 oq => ?_
  refine K H1 _ (hW.set hr rfl (fun k y hkr => gm_cI hkr y) ?_ z1 oq) (gm_sS hS z1 oq)
  rw [gm_setI] at e1
  show H1[G.1 + r]? = some (vp_cell _ (n, .inl (va_up h.2.1 r (va_up (h.2.1 r) i.toNatClampNeg x) r)))
  rw [gm_upS]
  exact e1
set_option maxHeartbeats 4000000 in
theorem sd_last : rl_last L xs (gm_SP l G L xs) := by
  intro m pc nx lk a b z ls st h nc ns Q r n i x hf hr hi g q hq p e s mid args below meth c H locs lo C hW hS hl hn
  have K := fun H1 locs1 hW1 hS1 => g q hq p e s mid args below meth c H1 locs1 lo C hW1 hS1 hl hn
  obtain ⟨hx, hb, hml, hown, hts, hN, hK, -⟩ := C
  obtain ⟨rfl, hd⟩ := gm_at hq hf rfl
  refine W.last hx hb (hW.2 r _ (gm_ws_get hr)) ((hK.2 1 _ rfl).1 n (fun j => .long (h.2.2.1 r j))) (fun q => by cases q) (by show ¬ (i < 0 ∨ (arrV _ _ _).slots.size ≤ _); rw [arrV_size]; exact hi) rfl rfl hd fun H1 e1 z1 oq => ?_
  refine K H1 _ (hW.set hr rfl (fun k y hkr => gm_cJ hkr y) ?_ z1 oq) (gm_sS hS z1 oq)
  rw [gm_setL] at e1
  show H1[G.1 + r]? = some (vp_cell _ (n, .inr (.inl (va_up h.2.2.1 r (va_up (h.2.2.1 r) i.toNatClampNeg x) r))))
  rw [gm_upS]
  exact e1
set_option maxHeartbeats 4000000 in
theorem sd_zast : rl_zast L xs (gm_SP l G L xs) := by
  intro m pc nx lk a b z ls st h nc ns Q r n i x hf hr hi hx01 g q hq p e s mid args below meth c H locs lo C hW hS hl hn
  have K := fun H1 locs1 hW1 hS1 => g q hq p e s mid args below meth c H1 locs1 lo C hW1 hS1 hl hn
  obtain ⟨hx, hb, hml, hown, hts, hN, hK, -⟩ := C
  obtain ⟨rfl, hd⟩ := gm_at hq hf rfl
  have hnx : narrow .boolean (.int x) = .int x := by rcases hx01 with rfl | rfl <;> decide
  refine W.zast hx hb (hW.2 r _ (gm_ws_get hr)) ((hK.2 2 _ rfl).1 n (fun j => .int (h.2.1 r j))) (fun q => by cases q) (by show ¬ (i < 0 ∨ (arrV _ _ _).slots.size ≤ _); rw [arrV_size]; exact hi) rfl rfl hd fun H1 e1 z1 oq => ?_
  refine K H1 _ (hW.set hr rfl (fun k y hkr => gm_cI hkr y) ?_ z1 oq) (gm_sS hS z1 oq)
  rw [hnx, gm_setI] at e1
  show H1[G.1 + r]? = some (vp_cell _ (n, .inl (va_up h.2.1 r (va_up (h.2.1 r) i.toNatClampNeg x) r)))
  rw [gm_upS]
  exact e1
theorem gm_oc {j : Nat} (hj : j = 2 ∨ j = 5) : ∃ c, gm_cl[j]? = some c ∧ c.1 = gm_otn j := by
  rcases hj with rfl | rfl <;> exact ⟨_, rfl, rfl⟩
set_option maxHeartbeats 4000000 in
theorem sd_aast : rl_aast L xs (gm_SP l G L xs) := by
  intro m pc nx lk a b z ls st h nc ns Q r n j w i hf hr hi hw hj g q hq p e s mid args below meth c H locs lo C hW hS hl hn
  have K := fun H1 locs1 hW1 hS1 => g q hq p e s mid args below meth c H1 locs1 lo C hW1 hS1 hl hn
  obtain ⟨hx, hb, hml, hown, hts, hN, hK, -⟩ := C
  obtain ⟨rfl, hd⟩ := gm_at hq hf rfl
  have hlt : i.toNatClampNeg < n := Nat.not_le.mp fun q => hi (Or.inr q)
  have h0 : ¬ i < 0 := fun q => hi (Or.inl q)
  obtain ⟨cw, hcw, hcn⟩ := gm_oc hj
  obtain ⟨r', hr', cellV, g1, g2, g3, -⟩ := hW.2 w _ (gm_ws_get hw)
  have hcls := (hK.1 j cw hcw).2
  obtain ⟨kA, comp, k1, k2, k3, -⟩ := (hK.2 _ _ (gm_tl_o hj)).2
  have hcomp : comp = G.2.2.2.1 j := Option.some.inj (k3.symm.trans (by rw [← hcn]; exact hcls.1))
  subst hcomp
  obtain ⟨kC, hkC, -⟩ := hcls.2
  refine W.aast hx hb (hW.2 r _ (gm_ws_get hr)) (fun q h => by cases h) (fun h => by cases h) k1 k2 rfl hkC ⟨h0, by show _ < (arrV _ _ _).slots.size; rw [arrV_size]; exact hlt⟩ g1 (fun q h => by rw [g3] at h; cases h) (by rw [g2]; exact hkC) (by rw [g2]; exact va_assign hcls) rfl rfl hd fun H1 e1 z1 oq => ?_
  refine K H1 _ (hW.set hr rfl (fun k y hkr => gm_cR hkr y) ?_ z1 oq) (gm_sS hS z1 oq)
  have e2 : H1[G.1 + r]? = some (vp_cell (G.2.2.1 (gm_oid j)) (n, .inr (.inr (.inr (.inr (va_up (fun i => (h.2.2.2 r i).map fun x => G.1 + x) i.toNatClampNeg (some (G.1 + w)))))))) := by
    rw [← gm_setR]; exact e1
  show H1[G.1 + r]? = some (vp_cell _ (n, .inr (.inr (.inr (.inr (fun i_1 => (va_up h.2.2.2 r (va_up (h.2.2.2 r) i.toNatClampNeg (some w)) r i_1).map fun x => G.1 + x))))))
  rw [e2]
  congr 7
  funext y
  rw [gm_upS]
  by_cases hy : y = i.toNatClampNeg
  · subst hy; simp [va_up]
  · simp [va_up, hy]
set_option maxHeartbeats 4000000 in
theorem sd_alen : rl_alen L xs (gm_SP l G L xs) := by
  intro m pc nx lk a b z ls st h nc ns Q r n hf hr g q hq p e s mid args below meth c H locs lo C hW hS hl hn
  have K := g q hq p e s mid args below meth c H locs lo C hW hS hl hn
  obtain ⟨hx, hb, hml, hown, hts, hN, hK, -⟩ := C
  obtain ⟨rfl, hd⟩ := gm_at hq hf rfl
  exact va_alen hx hb hK hW.2 r 0 (gm_ws_get hr) rfl rfl hd K
set_option maxHeartbeats 4000000 in
theorem sd_sld : rl_sld L xs (gm_SP l G L xs) := by
  intro m pc nx lk a b z ls st h nc ns Q t i hf hi g q hq p e s mid args below meth c H locs lo C hW hS hl hn
  have K := g q hq p e s mid args below meth c H locs lo C hW hS hl hn
  obtain ⟨hx, hb, hml, hown, hts, hN, hK, hX, hbB, hBs, -⟩ := C
  obtain ⟨rfl, hd⟩ := gm_at hq hf rfl
  exact va_sld hx hb hX (Nat.lt_of_lt_of_le hbB hBs) (fun hz => Nat.not_le.mpr hbB hz) hS hi hd K
set_option maxHeartbeats 4000000 in
theorem sd_slen : rl_slen L xs (gm_SP l G L xs) := by
  intro m pc nx lk a b z ls st h nc ns Q t hf g q hq p e s mid args below meth c H locs lo C hW hS hl hn
  have K := g q hq p e s mid args below meth c H locs lo C hW hS hl hn
  obtain ⟨hx, hb, hml, hown, hts, hN, hK, hX, hbB, hBs, -⟩ := C
  obtain ⟨rfl, hd⟩ := gm_at hq hf rfl
  exact va_slen hx hb hX (Nat.lt_of_lt_of_le hbB hBs) (fun hz => Nat.not_le.mpr hbB hz) hS hd K
end GmC
