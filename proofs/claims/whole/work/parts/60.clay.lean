/-! the placer: the choice; layings -/
section C60
variable {β : Bd} {g : Nat → Nat}
set_option maxHeartbeats 1000000 in
/-- layFewest -/
theorem c54 {mi : Mi} {ml : Ml} {F : Mi → Ml → Prop} (hβ : Wf β) (hC : Cd β mi) (hP : PcI β mi ml) (hw : whole β = true) (hM : ∀ y, y < β 0 → MV β g y mi)
    (h : ∀ mi', fr [23, 24] mi mi' → (mi' 23 0 = 1 ∧ mi' 23 1 = nI (β 0) ∧ mi' 23 2 = nI (β 1) ∧ mi' 23 3 = nI (β 2)) → (∀ y, y < β 0 → mi' 24 y = nI (cho β g y)) → (∀ y, β 0 ≤ y → mi' 24 y = mi 24 y) → F mi' ml) : Sg 54 0 [some (.ref 3), some (.ref 23), none, none, none, none, none] [] mi ml (qv F) := by
  have hH := hβ.1
  have hW := hβ.2.1
  have hn : β 2 < 8 := by have := hβ.2.2.1; omega
  have hN := tN_35 (len := β 3) hn hW.2
  have hf := (few_wh (g := g) hβ).mpr hw
  have ok := cho_ok hH.1 hf
  obtain ⟨m1, hm1⟩ : ∃ m1, m1 = va_up mi 23 (va_up (va_up (va_up (va_up (mi 23) 0 1) 1 (mi 1 0)) 2 (mi 1 1)) 3 (mi 1 2)) := ⟨_, rfl⟩
  refine rg54_0 (rg26_0 isY23 ?_)
  show Sg 54 18 [some (.ref 3), some (.ref 23), some (.long (ml 8 (Int32.toNatClampNeg 0))), none, some (.int 0), none, none] [] (va_up mi 23 (va_up (va_up (va_up (va_up (mi 23) 0 1) 1 (mi 1 0)) 2 (mi 1 1)) 3 (mi 1 2))) ml (qv F)
  rw [← hm1]
  have f1 : fr [23] mi m1 := by rw [hm1]; exact fr.rf.up (by decide)
  have hm : m1 23 0 = 1 ∧ m1 23 1 = nI (β 0) ∧ m1 23 2 = nI (β 1) ∧ m1 23 3 = nI (β 2) := by
    rw [hm1]
    exact ⟨rfl, hC.1.1, hC.1.2.1, hC.1.2.2.1⟩
  have e0 : (Int32.toNatClampNeg 0) = 0 := by decide
  rw [e0, hP.2.2 0 (by omega)]
  -- the open seats of row y
  have key := upI (β 0) (fun y (m2 : Mi) => fr [24] m1 m2 ∧ (∀ z, z < y → m2 24 z = nI (cho β g z)) ∧ ∀ z, β 0 ≤ z → m2 24 z = mi 24 z) (fun y m2 => ∀ op : Nat → Bool, (∀ b, b < 2 ^ (β 1) → fit β y b = true → op b = (decide (y = 0) || mt (β 3) (β 2) (cho β g (y - 1)) b)) → Sg 54 18 [some (.ref 3), some (.ref 23), some (.long (lN (bmq β op))), none, some (.int (nI y)), none, none] [] m2 ml (qv F)) ?_ ?_
  · refine key 0 m1 (Nat.zero_le _) ⟨fr.rf, fun z hz => by omega, fun z _ => by rw [f1 24 (by decide)]⟩ (fit β 0) (fun b _ hb => by rw [hb]; rfl)
  · rintro m2 ⟨q1, q2, q3⟩ op _
    refine rg54_18 (pk_le (β 0) (β 0) (fun _ => ?_) (fun q => by omega) (by rw [q1 1 (by decide), f1 1 (by decide)]; exact hC.1.1) rfl)
    exact h m2 ((f1.mono (by decide)).tr (q1.mono (by decide))) (by rw [q1 23 (by decide)]; exact hm) q2 q3
  · rintro y m2 hy ⟨q1, q2, q3⟩ ih op hop
    have hP2 : PcI β m2 ml := (hP.f f1 (by decide) (by decide) (by decide) (by decide)).f q1 (by decide) (by decide) (by decide) (by decide)
    have hM2 : MV β g y m2 := fun i hi hf => by rw [q1 16 (by decide), f1 16 (by decide)]; exact hM y hy i hi hf
    refine rg54_18 (pk_le (β 0) y (fun q => by omega) (fun _ => ⟨pk_in y 7 (by omega), ?_⟩) (by rw [q1 1 (by decide), f1 1 (by decide)]; exact hC.1.1) rfl)
    have l1 := bmq_62 hn hW.2 (fit β y)
    have l2 := bmq_62 hn hW.2 op
    have e35 : nI y * 35 = nI (y * 35) := pk_mul y 35
    rw [nI_clamp (by omega), hP2.2.2 y hy, wb_and (by omega) (by omega), e35, nI_1]
    unfold bmq
    rw [bm_and]
    obtain ⟨d, hd⟩ : ∃ d, d = β 0 - 1 - y := ⟨_, rfl⟩
    have hyd : β 0 - 1 - d = y := by omega
    obtain ⟨p, hp⟩ : ∃ p : Nat → Bool, p = fun b => op b && fit β y b := ⟨_, rfl⟩
    obtain ⟨q, hq⟩ : ∃ q : Nat → Bool, q = fun b => sp (β 2) b && (decide (y = 0) || mt (β 3) (β 2) (cho β g (y - 1)) b) := ⟨_, rfl⟩
    obtain ⟨o1, o2, o3, o4⟩ := ok y hy
    have hc := cho_cs o2
    -- the least of row y
    have hl : lft β g y = mn q (cs β g d) (2 ^ (β 1)) := by
      rw [hq, hd]
      cases y with
      | zero =>
        show mn (sp (β 2)) (cs β g (β 0 - 1)) (2 ^ (β 1)) = _
        exact mn_cong (fun b _ => by simp) (fun _ _ _ => rfl)
      | succ y =>
        show csb β g (β 0 - 1 - y) (cho β g y) = _
        rw [show β 0 - 1 - y = (β 0 - 1 - (y + 1)) + 1 by omega]
        show mn (fun a => sp (β 2) a && mt (β 3) (β 2) (cho β g y) a) (cs β g (β 0 - 1 - (y + 1))) (2 ^ (β 1)) = _
        exact mn_cong (fun b _ => by simp) (fun _ _ _ => rfl)
    have hpq : ∀ b, b < 2 ^ (β 1) → (p b = true ↔ (q b = true ∧ fit β y b = true)) := fun b hb => by
      rw [hp, hq]
      simp only [Bool.and_eq_true]
      constructor
      · rintro ⟨r1, r2⟩
        rw [hop b hb r2] at r1
        exact ⟨⟨fit_sp r2, r1⟩, r2⟩
      · rintro ⟨⟨_, r1⟩, r2⟩
        exact ⟨by rw [hop b hb r2]; exact r1, r2⟩
    have hpt : ∀ b, p b = true → fit β y b = true := fun b hb => by
      rw [hp] at hb
      simp only [Bool.and_eq_true] at hb
      exact hb.2
    have hkb : ∀ j, p (so (β 1) (β 2) (β 3) j) = true → kk β g d (so (β 1) (β 2) (β 3) j) ≤ 2000 := fun j hj => kk_b (by omega) (by omega) (by rw [hyd]; exact hpt _ hj)
    have hfc : fit β y (cho β g y) = true := by
      have hcc := hc.2.1
      rw [← hd] at hcc
      have := (cs_fit (β := β) (g := g) (d := d) (b := cho β g y) (by omega)).1
      rw [hyd] at this; exact this
    have hqc : q (cho β g y) = true := by
      rw [hq]
      simp only [Bool.and_eq_true, Bool.or_eq_true, decide_eq_true_eq]
      exact ⟨hc.1, hc.2.2⟩
    have hpc : p (cho β g y) = true := (hpq _ o1).mpr ⟨hqc, hfc⟩
    have hlm : mn q (cs β g d) (2 ^ (β 1)) < 1000000 := by omega
    refine c53 (y := y) (p := fun j => op (so (β 1) (β 2) (β 3) j) && fit β y (so (β 1) (β 2) (β 3) j)) (f := fun j => kk β g d (so (β 1) (β 2) (β 3) j)) rfl (by omega) rfl hN hP2.2.1.1.1.2.2.2 (fun j hj hpj => ?_) (fun j hj hpj => by have := hkb j (by rw [hp]; exact hpj); omega) (fun hno => ?_) (fun j hj hpj hm1 hl1 => ?_)
    · rw [hd]
      exact hM2 j hj (hpt _ (by rw [hp]; exact hpj))
    · exfalso
      have ht := fit_tp hfc
      have := hno (tx (β 2) (β 3) (cho β g y)) (tx_lt o1 ht)
      simp only [so_tx o1 ht] at this
      rw [hp] at hpc
      have hpc2 : (op (cho β g y) && fit β y (cho β g y)) = true := hpc
      rw [hpc2] at this; cases this
    · have hpj' : p (so (β 1) (β 2) (β 3) j) = true := by rw [hp]; exact hpj
      have hj1 := so_ok hj
      -- it is the choice
      have hmin : ∀ a, a < 2 ^ (β 1) → p a = true → kk β g d (so (β 1) (β 2) (β 3) j) ≤ kk β g d a := fun a ha hpa => by
        have ht := fit_tp (hpt a hpa)
        have := hm1 (tx (β 2) (β 3) a) (tx_lt ha ht)
        simp only [so_tx ha ht] at this
        rw [hp] at hpa
        exact this hpa
      have hpq2 : ∀ b, (p b && decide (b < 2 ^ (β 1))) = true ↔ ((q b && decide (b < 2 ^ (β 1))) = true ∧ fit β (β 0 - 1 - d) b = true) := fun b => by
        rw [hyd]
        simp only [Bool.and_eq_true, decide_eq_true_eq]
        constructor
        · rintro ⟨r1, r2⟩
          have := (hpq b r2).mp r1
          exact ⟨⟨this.1, r2⟩, this.2⟩
        · rintro ⟨⟨r1, r2⟩, r3⟩
          exact ⟨(hpq b r2).mpr ⟨r1, r3⟩, r2⟩
      have hq2 : mn (fun b => q b && decide (b < 2 ^ (β 1))) (cs β g d) (2 ^ (β 1)) = mn q (cs β g d) (2 ^ (β 1)) := mn_cong (fun b hb => by rw [show decide (b < 2 ^ (β 1)) = true by simpa using hb, Bool.and_true]) (fun _ _ _ => rfl)
      have hv := mn_kk (g := g) (p := fun b => p b && decide (b < 2 ^ (β 1))) (q := fun b => q b && decide (b < 2 ^ (β 1))) (M := 2 ^ (β 1)) (d := d) (by omega) (by omega) (kr_all (by omega) _ (by omega)) hpq2 (by rw [hq2]; exact hlm) hj1.1 (by simp only [Bool.and_eq_true, decide_eq_true_eq]; exact ⟨hpj', hj1.1⟩) (fun a ha hpa => hmin a ha (by simp only [Bool.and_eq_true] at hpa; exact hpa.1))
      rw [hq2, ← hl] at hv
      have hcho : cho β g y = so (β 1) (β 2) (β 3) j := by
        rw [cho_eq]
        refine fsN_eq hj1.1 ?_ (fun b hb => ?_)
        · unfold choP
          have := ((hpq _ hj1.1).mp hpj').1
          rw [hq] at this
          simp only [Bool.and_eq_true] at this
          rw [this.1, this.2, ← hd, hv.2]
          simp
        · cases hcp : choP β g y (cho β g (y - 1)) (lft β g y) b with
          | false => rfl
          | true =>
            exfalso
            have hb2 : b < 2 ^ (β 1) := by omega
            have hcb := cho_cs hcp
            rw [← hd] at hcb
            have hfb := (cs_fit (β := β) (g := g) (d := d) (b := b) (by omega)).1
            have hkb2 := (kr_all (g := g) (by omega : β 2 ≤ 7) d (by omega) b hfb).1 (by omega)
            rw [hyd] at hfb
            have hpb : p b = true := (hpq b hb2).mpr ⟨by
              rw [hq]
              simp only [Bool.and_eq_true, Bool.or_eq_true, decide_eq_true_eq]
              exact ⟨hcb.1, hcb.2.2⟩, hfb⟩
            have ht := fit_tp hfb
            have htx : tx (β 2) (β 3) b < j := by
              have := tx_lt (M := so (β 1) (β 2) (β 3) j) hb ht
              rw [hj1.2.2] at this; exact this
            have := hl1 _ htx
            simp only [so_tx hb2 ht] at this
            rw [hp] at hpb
            have := this hpb
            omega
      have es : nI (y * 35 + j) - nI (y * 35) = nI j := by rw [pk_sub (by omega), Nat.add_sub_cancel_left]
      rw [es, nI_clamp (by omega)]
      refine ⟨fun _ => ⟨pk_in j 35 (by omega), ?_⟩, fun r => ?_⟩
      · obtain ⟨m3, hm3⟩ : ∃ m3, m3 = va_up m2 24 (va_up (m2 24) y (m2 5 j)) := ⟨_, rfl⟩
        rw [← hm3]
        have q1' : fr [24] m1 m3 := by rw [hm3]; exact q1.up (by decide)
        have hP3 : PcI β m3 ml := (hP.f f1 (by decide) (by decide) (by decide) (by decide)).f q1' (by decide) (by decide) (by decide) (by decide)
        refine c61 isT4 rfl hW.2 hn hP3.2.1 hj ?_
        have := ih m3 ⟨q1', fun z hz => ?_, fun z hz => ?_⟩ (fun b => mt (β 3) (β 2) (so (β 1) (β 2) (β 3) j) b) (fun b hb _ => ?_)
        · exact this
        · rw [hm3, gm_upS]
          by_cases hzy : z = y
          · subst hzy
            rw [gm_upS, (CT.seat hP2.2.1 hj).1, hcho]
          · rw [gm_upN hzy]; exact q2 z (by omega)
        · rw [hm3, gm_upS, gm_upN (by omega)]; exact q3 z hz
        · rw [Nat.add_sub_cancel, hcho]
          simp
      · exfalso
        have h0 : ¬ nI (y * 35 + j) < 0 := nI_pos (by omega)
        rw [Decidable.not_not.mp r] at h0
        exact h0 (by decide)
end C60
