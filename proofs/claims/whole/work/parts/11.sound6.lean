section GmG
variable (l : Launch) (G : gm_G) (L : Nat) (xs : Nat → Int32)
set_option maxHeartbeats 4000000 in
theorem sd_cpi : rl_cpi L xs (gm_SP l G L xs) := by
  intro m pc nx lk a b z ls st h nc ns Q idx r w n1 n2 sp dp n hf hb2 hr hw h1 h2 h3 h4 h5 hcat g q hq p e s mid args below meth c H locs lo C hW hS hl hn
  have K := fun H1 locs1 hW1 hS1 => g q hq p e s mid args below meth c H1 locs1 lo C hW1 hS1 hl hn
  subst hb2
  obtain ⟨hx, hb, hml, hown, hts, hN, hK, -⟩ := C
  have hck := (gm_fe hq hf).2
  have hck : (decide ((gm_MT[lk]?).map (fun f => (f.1, f.2.1, f.2.2.1, f.2.2.2.1)) = some (q.2.2.2.2.1, idx, 2, a)) && (decide (1 ≤ q.2.2.2.2.2.2.1) && decide (8 + 18 ≤ q.2.2.2.2.2.2.2.1))) = true := hck
  simp only [Bool.and_eq_true, decide_eq_true_eq, and_assoc] at hck
  obtain ⟨hlk, hfr, hlo⟩ := hck
  obtain ⟨pl, hpl⟩ := gm_mlk hlk
  have hlink : Cond.methodLink (gm_own q.2.2.2.2.1) idx arraycopyName ∈ gm_tbl := gm_in (of_decide_eq_true (show decide (lw_tbl[pl]? = some (.methodLink (gm_own q.2.2.2.2.1) idx arraycopyName)) = true from hpl)) rfl
  obtain ⟨rfl, hd⟩ := gm_at hq hf rfl
  have wS := gm_wSys
  have nn : ∀ z : Int32, ¬ z < 0 → z.toInt = (z.toNatClampNeg : Int) := by
    intro z hz
    have hz0 : (0 : Int) ≤ z.toInt := by
      have := Int32.not_lt.mp hz
      simpa using Int32.le_iff_toInt_le.mp this
    show z.toInt = ((z.toInt.toNat : Nat) : Int)
    omega
  intro T hT X
  have hc0 : H[G.1 + r]? = some (vp_cell (G.2.2.1 0) (n1, .inl (h.2.1 r))) := hW.2 r _ (gm_ws_get hr)
  have hc1 : H[G.1 + w]? = some (vp_cell (G.2.2.1 0) (n2, .inl (h.2.1 w))) := hW.2 w _ (gm_ws_get hw)
  obtain ⟨-, k0, hk0, cm0, hkk0⟩ := (hK.2 0 _ rfl).1 n1 (fun j => .int (h.2.1 r j))
  obtain ⟨-, k1, hk1, cm1, hkk1⟩ := (hK.2 0 _ rfl).1 n2 (fun j => .int (h.2.1 w j))
  obtain ⟨vm', X', step⟩ := X.arraycopy hx hown (hts _ hlink) (hts _ (gm_in wS.1 rfl)) (hts _ (gm_in wS.2.1 rfl)) (hts _ (gm_in wS.2.2 rfl)) (src := G.1 + r) (dst := G.1 + w) (cs := vp_cell (G.2.2.1 0) (n1, .inl (h.2.1 r))) (cd := vp_cell (G.2.2.1 0) (n2, .inl (h.2.1 w))) (srcPos := sp) (destPos := dp) (n := n) (by rw [hT]; exact hc0) (by rw [hT]; exact hc1)
    (fun _ h => by cases h) (fun _ h => by cases h) (fun h => by cases h) (fun h => by cases h) hk0 hk1 hkk0 hkk1 (by simp [refKind]) h1 h2 h3
    (by rw [nn sp h1, nn n h3]; show ¬ _ > ((arrV _ n1 _).slots.size : Int); rw [arrV_size]; omega)
    (by rw [nn dp h2, nn n h3]; show ¬ _ > ((arrV _ n2 _).slots.size : Int); rw [arrV_size]; omega)
    (fun vm₁ _ i hi => by
      have e : (vp_cell (G.2.2.1 0) (n1, .inl (h.2.1 r))).slots.getD (sp.toNatClampNeg + i) .null = .int (h.2.1 r (sp.toNatClampNeg + i)) := by
        show (arrV (G.2.2.1 0) n1 (fun j => .int (h.2.1 r j))).slots.getD _ _ = _
        rw [Array.getD_eq_getD_getElem?, arrV_read _ _ (by omega)]
        rfl
      refine ⟨?_, ?_⟩
      · rw [e]
        rfl
      · rw [e]
        exact trivial)
    (g := F0 mid pc lo (.int n :: .int dp :: .ref (G.1 + w) :: .int sp :: .ref (G.1 + r) :: st.map (gm_cv G))) rfl (by rw [hml]; exact hl.1) (rest := st.map (gm_cv G)) rfl (by rw [hb]; exact hd) hfr (by
      show 2 * 0 + _ + (nativeFrameWords "java/lang/System" "arraycopy" 5 + 11) ≤ q.2.2.2.2.2.2.2.1
      have e1 : nativeFrameWords "java/lang/System" "arraycopy" 5 = 7 := by decide
      rw [gm_cats, e1]
      omega)
  have e1 : copied (vp_cell (G.2.2.1 0) (n1, .inl (h.2.1 r))) (vp_cell (G.2.2.1 0) (n2, .inl (h.2.1 w))) sp dp n = vp_cell (G.2.2.1 0) (n2, .inl (va_cpy (h.2.1 r) (h.2.1 w) sp.toNatClampNeg dp.toNatClampNeg n.toNatClampNeg)) := va_copied (fun z => .int z) _ _ (h.2.1 r) (h.2.1 w) h4
  rw [e1] at X' step
  have hlt : G.1 + w < H.size := (Array.getElem?_eq_some_iff.mp hc1).1
  generalize hY : vp_cell (G.2.2.1 0) (n2, .inl (va_cpy (h.2.1 r) (h.2.1 w) sp.toNatClampNeg dp.toNatClampNeg n.toNatClampNeg)) = Y at X' step
  have hheap : ((T.setVm vm').setCell (G.1 + w) Y).heap = H.setIfInBounds (G.1 + w) Y := by rw [← hT]; rfl
  have oq : ∀ q : Nat, q ≠ G.1 + w → (H.setIfInBounds (G.1 + w) Y)[q]? = H[q]? := fun q hq => by simp [Array.getElem?_setIfInBounds, Ne.symm hq]
  have zz : (H.setIfInBounds (G.1 + w) Y).size = H.size := by simp
  obtain ⟨t, a1, b1⟩ := K _ _ (hW.set hw rfl (fun k y hkr => gm_cI hkr y) (by
      show (H.setIfInBounds (G.1 + w) Y)[G.1 + w]? = some (vp_cell _ (n2, .inl (va_up (h.2.1) w (va_cpy (h.2.1 r) (h.2.1 w) sp.toNatClampNeg dp.toNatClampNeg n.toNatClampNeg) w)))
      rw [gm_upS, hY]
      simp [Array.getElem?_setIfInBounds, hlt]) zz oq) ⟨by rw [zz]; exact hS.1, fun q g1 g2 => by
      rw [oq q (fun e => g2 (by rw [e]; exact Nat.le_add_right _ _))]
      exact hS.2.1 q g1 g2, fun q hq => by
      rcases List.mem_append.mp hq with h | h
      · exact hS.2.2 q h
      · obtain ⟨z, -, hz⟩ := List.mem_map.mp h
        rw [← hz]
        exact Nat.le_add_right _ _⟩ _ hheap X'
  exact ⟨t, step t a1, b1⟩

set_option maxHeartbeats 4000000 in
theorem sd_cpl : rl_cpl L xs (gm_SP l G L xs) := by
  intro m pc nx lk a b z ls st h nc ns Q idx r w n1 n2 sp dp n hf hb2 hr hw h1 h2 h3 h4 h5 hcat g q hq p e s mid args below meth c H locs lo C hW hS hl hn
  have K := fun H1 locs1 hW1 hS1 => g q hq p e s mid args below meth c H1 locs1 lo C hW1 hS1 hl hn
  subst hb2
  obtain ⟨hx, hb, hml, hown, hts, hN, hK, -⟩ := C
  have hck := (gm_fe hq hf).2
  have hck : (decide ((gm_MT[lk]?).map (fun f => (f.1, f.2.1, f.2.2.1, f.2.2.2.1)) = some (q.2.2.2.2.1, idx, 2, a)) && (decide (1 ≤ q.2.2.2.2.2.2.1) && decide (8 + 18 ≤ q.2.2.2.2.2.2.2.1))) = true := hck
  simp only [Bool.and_eq_true, decide_eq_true_eq, and_assoc] at hck
  obtain ⟨hlk, hfr, hlo⟩ := hck
  obtain ⟨pl, hpl⟩ := gm_mlk hlk
  have hlink : Cond.methodLink (gm_own q.2.2.2.2.1) idx arraycopyName ∈ gm_tbl := gm_in (of_decide_eq_true (show decide (lw_tbl[pl]? = some (.methodLink (gm_own q.2.2.2.2.1) idx arraycopyName)) = true from hpl)) rfl
  obtain ⟨rfl, hd⟩ := gm_at hq hf rfl
  have wS := gm_wSys
  have nn : ∀ z : Int32, ¬ z < 0 → z.toInt = (z.toNatClampNeg : Int) := by
    intro z hz
    have hz0 : (0 : Int) ≤ z.toInt := by
      have := Int32.not_lt.mp hz
      simpa using Int32.le_iff_toInt_le.mp this
    show z.toInt = ((z.toInt.toNat : Nat) : Int)
    omega
  intro T hT X
  have hc0 : H[G.1 + r]? = some (vp_cell (G.2.2.1 1) (n1, .inr <| .inl (h.2.2.1 r))) := hW.2 r _ (gm_ws_get hr)
  have hc1 : H[G.1 + w]? = some (vp_cell (G.2.2.1 1) (n2, .inr <| .inl (h.2.2.1 w))) := hW.2 w _ (gm_ws_get hw)
  obtain ⟨-, k0, hk0, cm0, hkk0⟩ := (hK.2 1 _ rfl).1 n1 (fun j => .long (h.2.2.1 r j))
  obtain ⟨-, k1, hk1, cm1, hkk1⟩ := (hK.2 1 _ rfl).1 n2 (fun j => .long (h.2.2.1 w j))
  obtain ⟨vm', X', step⟩ := X.arraycopy hx hown (hts _ hlink) (hts _ (gm_in wS.1 rfl)) (hts _ (gm_in wS.2.1 rfl)) (hts _ (gm_in wS.2.2 rfl)) (src := G.1 + r) (dst := G.1 + w) (cs := vp_cell (G.2.2.1 1) (n1, .inr <| .inl (h.2.2.1 r))) (cd := vp_cell (G.2.2.1 1) (n2, .inr <| .inl (h.2.2.1 w))) (srcPos := sp) (destPos := dp) (n := n) (by rw [hT]; exact hc0) (by rw [hT]; exact hc1)
    (fun _ h => by cases h) (fun _ h => by cases h) (fun h => by cases h) (fun h => by cases h) hk0 hk1 hkk0 hkk1 (by simp [refKind]) h1 h2 h3
    (by rw [nn sp h1, nn n h3]; show ¬ _ > ((arrV _ n1 _).slots.size : Int); rw [arrV_size]; omega)
    (by rw [nn dp h2, nn n h3]; show ¬ _ > ((arrV _ n2 _).slots.size : Int); rw [arrV_size]; omega)
    (fun vm₁ _ i hi => by
      have e : (vp_cell (G.2.2.1 1) (n1, .inr <| .inl (h.2.2.1 r))).slots.getD (sp.toNatClampNeg + i) .null = .long (h.2.2.1 r (sp.toNatClampNeg + i)) := by
        show (arrV (G.2.2.1 1) n1 (fun j => .long (h.2.2.1 r j))).slots.getD _ _ = _
        rw [Array.getD_eq_getD_getElem?, arrV_read _ _ (by omega)]
        rfl
      refine ⟨?_, ?_⟩
      · rw [e]
        rfl
      · rw [e]
        exact trivial)
    (g := F0 mid pc lo (.int n :: .int dp :: .ref (G.1 + w) :: .int sp :: .ref (G.1 + r) :: st.map (gm_cv G))) rfl (by rw [hml]; exact hl.1) (rest := st.map (gm_cv G)) rfl (by rw [hb]; exact hd) hfr (by
      show 2 * 0 + _ + (nativeFrameWords "java/lang/System" "arraycopy" 5 + 11) ≤ q.2.2.2.2.2.2.2.1
      have e1 : nativeFrameWords "java/lang/System" "arraycopy" 5 = 7 := by decide
      rw [gm_cats, e1]
      omega)
  have e1 : copied (vp_cell (G.2.2.1 1) (n1, .inr <| .inl (h.2.2.1 r))) (vp_cell (G.2.2.1 1) (n2, .inr <| .inl (h.2.2.1 w))) sp dp n = vp_cell (G.2.2.1 1) (n2, .inr <| .inl (va_cpy (h.2.2.1 r) (h.2.2.1 w) sp.toNatClampNeg dp.toNatClampNeg n.toNatClampNeg)) := va_copied (fun z => .long z) _ _ (h.2.2.1 r) (h.2.2.1 w) h4
  rw [e1] at X' step
  have hlt : G.1 + w < H.size := (Array.getElem?_eq_some_iff.mp hc1).1
  generalize hY : vp_cell (G.2.2.1 1) (n2, .inr <| .inl (va_cpy (h.2.2.1 r) (h.2.2.1 w) sp.toNatClampNeg dp.toNatClampNeg n.toNatClampNeg)) = Y at X' step
  have hheap : ((T.setVm vm').setCell (G.1 + w) Y).heap = H.setIfInBounds (G.1 + w) Y := by rw [← hT]; rfl
  have oq : ∀ q : Nat, q ≠ G.1 + w → (H.setIfInBounds (G.1 + w) Y)[q]? = H[q]? := fun q hq => by simp [Array.getElem?_setIfInBounds, Ne.symm hq]
  have zz : (H.setIfInBounds (G.1 + w) Y).size = H.size := by simp
  obtain ⟨t, a1, b1⟩ := K _ _ (hW.set hw rfl (fun k y hkr => gm_cJ hkr y) (by
      show (H.setIfInBounds (G.1 + w) Y)[G.1 + w]? = some (vp_cell _ (n2, .inr <| .inl (va_up (h.2.2.1) w (va_cpy (h.2.2.1 r) (h.2.2.1 w) sp.toNatClampNeg dp.toNatClampNeg n.toNatClampNeg) w)))
      rw [gm_upS, hY]
      simp [Array.getElem?_setIfInBounds, hlt]) zz oq) ⟨by rw [zz]; exact hS.1, fun q g1 g2 => by
      rw [oq q (fun e => g2 (by rw [e]; exact Nat.le_add_right _ _))]
      exact hS.2.1 q g1 g2, fun q hq => by
      rcases List.mem_append.mp hq with h | h
      · exact hS.2.2 q h
      · obtain ⟨z, -, hz⟩ := List.mem_map.mp h
        rw [← hz]
        exact Nat.le_add_right _ _⟩ _ hheap X'
  exact ⟨t, step t a1, b1⟩

set_option maxHeartbeats 4000000 in
theorem sd_iret : rl_iret L xs (gm_SP l G L xs) := by
  intro m pc nx lk a b z ls h nc ns Q q0 ty x hf hq0 hty hnar hnc hns hQ q hq p e s mid args below meth c H locs lo C hW hS hl hn
  have hqe : q = q0 := Option.some.inj (hq.symm.trans hq0)
  subst hqe
  obtain ⟨hx, hb, hml, hown, hts, hN, hK, hX, hbB, hBs, hr, hlocks, -⟩ := C
  refine W.widen hnc hns ?_
  exact W.zret hx hb (hr.trans hty) hnar (fun t ht hWm => ⟨⟨.int x, h, by rw [hty]; rfl, by rw [ht]; exact hW, hQ⟩, hS.F ht⟩) hS.2.2 (gm_at hq hf rfl).2 hlocks
set_option maxHeartbeats 4000000 in
theorem sd_lret : rl_lret L xs (gm_SP l G L xs) := by
  intro m pc nx lk a b z ls h nc ns Q q0 x hf hq0 hty hnc hns hQ q hq p e s mid args below meth c H locs lo C hW hS hl hn
  have hqe : q = q0 := Option.some.inj (hq.symm.trans hq0)
  subst hqe
  obtain ⟨hx, hb, hml, hown, hts, hN, hK, hX, hbB, hBs, hr, hlocks, -⟩ := C
  refine W.widen hnc hns ?_
  exact W.lret hx hb (hr.trans hty) (fun t ht hWm => ⟨⟨.long x, h, by rw [hty]; rfl, by rw [ht]; exact hW, hQ⟩, hS.F ht⟩) hS.2.2 (gm_at hq hf rfl).2 hlocks
set_option maxHeartbeats 4000000 in
theorem sd_aret : rl_aret L xs (gm_SP l G L xs) := by
  intro m pc nx lk a b z ls h nc ns Q q0 n v hf hq0 hty hv hnc hns hQ q hq p e s mid args below meth c H locs lo C hW hS hl hn
  have hqe : q = q0 := Option.some.inj (hq.symm.trans hq0)
  subst hqe
  obtain ⟨hx, hb, hml, hown, hts, hN, hK, hX, hbB, hBs, hr, hlocks, -⟩ := C
  refine W.widen hnc hns ?_
  refine W.aret hx hb (hr.trans hty) (Or.inl ⟨_, rfl⟩) ?_ (fun t ht hWm => ⟨⟨v, h, by rw [hty]; rfl, by rw [ht]; exact hW, hQ⟩, hS.F ht⟩) hS.2.2 (gm_at hq hf rfl).2 hlocks
  rcases hv with rfl | ⟨r, rfl⟩
  · exact Or.inl rfl
  · exact Or.inr ⟨_, rfl⟩
set_option maxHeartbeats 4000000 in
theorem sd_ret : rl_ret L xs (gm_SP l G L xs) := by
  intro m pc nx lk a b z ls h nc ns Q q0 hf hq0 hty hnc hns hQ q hq p e s mid args below meth c H locs lo C hW hS hl hn
  have hqe : q = q0 := Option.some.inj (hq.symm.trans hq0)
  subst hqe
  obtain ⟨hx, hb, hml, hown, hts, hN, hK, hX, hbB, hBs, hr, hlocks, -⟩ := C
  refine W.widen hnc hns ?_
  exact W.vret hx hb (hr.trans hty) (fun t ht hWm => ⟨⟨.null, h, by rw [hty]; rfl, by rw [ht]; exact hW, hQ⟩, hS.F ht⟩) hS.2.2 (gm_at hq hf rfl).2 hlocks

/-- what the abstract machine shows, the machine does -/
theorem gm_sound : gm_Cl L xs (gm_SP l G L xs) := ⟨sd_psh l G L xs, sd_ld l G L xs, sd_st1 l G L xs, sd_st2 l G L xs, sd_inc l G L xs, sd_bin l G L xs, sd_div l G L xs, sd_rem l G L xs, sd_un l G L xs, sd_binl l G L xs, sd_shl l G L xs, sd_lcmp l G L xs, sd_i2l l G L xs, sd_l2i l G L xs, sd_dup l G L xs, sd_pop l G L xs, sd_dup2 l G L xs, sd_if l G L xs, sd_icmp l G L xs, sd_goto l G L xs, sd_ifnull l G L xs, sd_ifnullN l G L xs, sd_ifnn l G L xs, sd_ifnnN l G L xs, sd_tabO l G L xs, sd_tabI l G L xs, sd_get l G L xs, sd_puti l G L xs, sd_putl l G L xs, sd_putr l G L xs, sd_iald l G L xs, sd_lald l G L xs, sd_zald l G L xs, sd_aald l G L xs, sd_iast l G L xs, sd_last l G L xs, sd_zast l G L xs, sd_aast l G L xs, sd_alen l G L xs, sd_sld l G L xs, sd_slen l G L xs, sd_new l G L xs, sd_newa l G L xs, sd_anew l G L xs, sd_cV l G L xs, sd_cS l G L xs, sd_cI l G L xs, sd_obj l G L xs, sd_cpi l G L xs, sd_cpl l G L xs, sd_mmin l G L xs, sd_mabs l G L xs, sd_drop l G L xs, sd_iret l G L xs, sd_lret l G L xs, sd_aret l G L xs, sd_ret l G L xs⟩
end GmG
