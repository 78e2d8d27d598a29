/-! pairs: wish, length, sides, fault -/
section C69
variable {b : Nat} {mi : Mi} {ml : Ml}
theorem b8u {β : Bd} {j v y : Nat} (hj : j < 8) : (va_up β j v) (8 + y) = β (8 + y) := gm_upN (by omega)
theorem p72 {x : Int32} (hb : b + 8 < 2 ^ 31) (hR : Rel b mi ml) : Sg 72 0 [some (.ref 0), some (.int x), none] [] mi ml (qi fun v m l => Sg 133 0 [some (.ref 47), some (.int x), none] [] m l (qi (eqR (b + 8) v))) := by
  obtain ⟨β, lp, q, fu, sd, sq, h⟩ := hR
  have hp := h.1.1
  have hW := hp.1.2.1
  have hC := h.1.cd
  have hM := h.2.1.1
  have fin : Rel (b + 8) mi ml := Rel.mono (by omega) ⟨β, lp, q, fu, sd, sq, h⟩
  by_cases hc : ∃ s, (1 ≤ s ∧ s ≤ β 1) ∧ x = nI s
  · obtain ⟨s, hs, rfl⟩ := hc
    refine rg72_0 (pk_lt s 1 (fun r => by omega) (fun _ => pk_le s (β 1) (fun _ => rg2_0 ?_) (fun r => by omega) rfl hC.1.2.1))
    obtain ⟨m1, hm1⟩ : ∃ m1, m1 = va_up (va_up mi 1 (va_up (va_up (mi 1) 2 (nI s)) 5 ((mi 1 5) + 1))) 23 (va_up ((va_up mi 1 (va_up (va_up (mi 1) 2 (nI s)) 5 ((mi 1 5) + 1))) 23) 0 0) := ⟨_, rfl⟩
    rw [← hm1]
    have f1 : ∀ c, c ≠ 1 → c ≠ 23 → m1 c = mi c := fun c c1 c2 => by rw [hm1, gm_upN c2, gm_upN c1]
    have a1 : m1 1 = va_up (va_up (mi 1) 2 (nI s)) 5 ((mi 1 5) + 1) := by rw [hm1]; rfl
    have k47 : m1 47 = mi 47 := f1 47 (by decide) (by decide)
    refine rg133_0 ?_
    rw [k47, hM.1.2.1]
    refine c114c 1 (β 1) (fun _ _ _ _ => ⟨fun _ => ?_, fun r => absurd (by decide) r⟩) (fun hno => absurd rfl (hno s hs.1 hs.2))
    rw [k47, hM.1.2.2.1, hC.1.2.2.1]
    obtain ⟨m2, hm2⟩ : ∃ m2, m2 = va_up m1 47 (va_up (va_up (mi 47) 7 (nI s)) 11 0) := ⟨_, rfl⟩
    rw [← hm2]
    have f2 : ∀ c, c ≠ 47 → m2 c = m1 c := fun c hc => by rw [hm2, gm_upN hc]
    have e47 : m2 47 = va_up (va_up (mi 47) 7 (nI s)) 11 0 := by rw [hm2, gm_upS]
    refine ⟨rfl, Rel.b8 (d := 1) (by decide) ⟨va_up β 2 s, false, q, fu, sd, sq, h.bd (β' := va_up β 2 s) (d := 1) ?_ (show va_up β 2 s 3 ≤ 3 from hp.2.1) ?_ ?_ (by decide) ?_ (by omega) ?_ (Or.inl ⟨rfl, ?_⟩) ?_ ?_ ?_ ?_⟩⟩
    · exact ⟨hp.1.1, hW, hs, hp.1.2.2.2.1, fun y hy => by rw [b8u (by decide)]; exact hp.1.2.2.2.2 y hy⟩
    · unfold Cd
      rw [f2 1 (by decide), f2 2 (by decide), a1, f1 2 (by decide) (by decide)]
      exact ⟨⟨hC.1.1, hC.1.2.1, rfl, hC.1.2.2.2.1, hC.1.2.2.2.2⟩, fun y hy => by rw [b8u (by decide)]; exact hC.2 y hy⟩
    · unfold Md Mb
      rw [e47, f2 52 (by decide), f1 52 (by decide) (by decide)]
      exact ⟨⟨hM.1.1, hM.1.2.1, rfl, hM.1.2.2.2.1, hM.1.2.2.2.2⟩, fun y hy => by rw [b8u (by decide)]; exact hM.2 y hy⟩
    · rw [f2 1 (by decide), a1]; rfl
    · intro c c1 _ c3 c4 _ _ _
      rw [f2 c c4, f1 c c1 c3]
    · rw [f2 23 (by decide), hm1]; rfl
    · rw [e47]; rfl
    · rw [e47]; rfl
    · rw [e47]; rfl
    · rw [e47]; rfl
  · have no : Sg 133 0 [some (.ref 47), some (.int x), none] [] mi ml (qi (eqR (b + 8) (-2 : Int32))) := by
      refine rg133_0 ?_
      rw [hM.1.2.1]
      exact c114c 1 (β 1) (fun s hs1 hs2 e => absurd ⟨s, ⟨hs1, hs2⟩, e⟩ hc) (fun _ => ⟨fun r => absurd rfl r, fun _ => ⟨rfl, fin⟩⟩)
    refine rg72_0 ⟨fun _ => no, fun r1 => ⟨fun r4 => ?_, fun _ => no⟩⟩
    exfalso
    obtain ⟨s, hs, rfl⟩ := nI_of (x := x) (fun r => r1 (lt01 r))
    have q1 : ¬ s < 1 := fun r => r1 ((nI_ltI (b := 1) hs (by decide)).mpr r)
    rw [hC.1.2.1] at r4
    have q4 : s ≤ β 1 := (nI_leI hs (by omega)).mp r4
    exact hc ⟨s, by omega, rfl⟩
theorem p73 {x : Int32} (hb : b + 8 < 2 ^ 31) (hR : Rel b mi ml) : Sg 73 0 [some (.ref 0), some (.int x), none] [] mi ml (qi fun v m l => Sg 134 0 [some (.ref 47), some (.int x), none] [] m l (qi (eqR (b + 8) v))) := by
  obtain ⟨β, lp, q, fu, sd, sq, h⟩ := hR
  have hp := h.1.1
  have hC := h.1.cd
  have hM := h.2.1.1
  have fin : Rel (b + 8) mi ml := Rel.mono (by omega) ⟨β, lp, q, fu, sd, sq, h⟩
  by_cases hc : ∃ s, s ≤ 3 ∧ x = nI s
  · obtain ⟨s, hs, rfl⟩ := hc
    refine rg73_0 (pk_lt s 0 (fun r => by omega) (fun _ => pk_le s 3 (fun _ => rg3_0 ?_) (fun r => by omega)))
    obtain ⟨m1, hm1⟩ : ∃ m1, m1 = va_up mi 1 (va_up (va_up (mi 1) 3 (nI s)) 5 ((mi 1 5) + 1)) := ⟨_, rfl⟩
    rw [← hm1]
    have f1 : ∀ c, c ≠ 1 → m1 c = mi c := fun c c1 => by rw [hm1, gm_upN c1]
    have a1 : m1 1 = va_up (va_up (mi 1) 3 (nI s)) 5 ((mi 1 5) + 1) := by rw [hm1, gm_upS]
    have k47 : m1 47 = mi 47 := f1 47 (by decide)
    refine rg134_0 (c114c 0 3 (fun _ _ _ _ => ⟨fun _ => ?_, fun r => absurd (by decide) r⟩) (fun hno => absurd rfl (hno s (Nat.zero_le _) hs)))
    rw [k47, hM.1.2.2.2.1, hC.1.2.2.2.1]
    obtain ⟨m2, hm2⟩ : ∃ m2, m2 = va_up m1 47 (va_up (mi 47) 8 (nI s)) := ⟨_, rfl⟩
    rw [← hm2]
    have f2 : ∀ c, c ≠ 47 → m2 c = m1 c := fun c hc => by rw [hm2, gm_upN hc]
    have e47 : m2 47 = va_up (mi 47) 8 (nI s) := by rw [hm2, gm_upS]
    refine ⟨rfl, Rel.b8 (d := 1) (by decide) ⟨va_up β 3 s, lp, q, fu, sd, sq, h.bd (β' := va_up β 3 s) (d := 1) ?_ (show va_up β 3 s 3 ≤ 3 from hs) ?_ ?_ (by decide) ?_ (by omega) ?_ (Or.inr ⟨rfl, ?_, rfl, rfl, rfl⟩) ?_ ?_ ?_ ?_⟩⟩
    · exact ⟨hp.1.1, hp.1.2.1, hp.1.2.2.1, hp.1.2.2.2.1, fun y hy => by rw [b8u (by decide)]; exact hp.1.2.2.2.2 y hy⟩
    · unfold Cd
      rw [f2 1 (by decide), f2 2 (by decide), a1, f1 2 (by decide)]
      exact ⟨⟨hC.1.1, hC.1.2.1, hC.1.2.2.1, rfl, hC.1.2.2.2.2⟩, fun y hy => by rw [b8u (by decide)]; exact hC.2 y hy⟩
    · unfold Md Mb
      rw [e47, f2 52 (by decide), f1 52 (by decide)]
      exact ⟨⟨hM.1.1, hM.1.2.1, hM.1.2.2.1, rfl, hM.1.2.2.2.2⟩, fun y hy => by rw [b8u (by decide)]; exact hM.2 y hy⟩
    · rw [f2 1 (by decide), a1]; rfl
    · intro c c1 _ c3 c4 _ _ _
      rw [f2 c c4, f1 c c1]
    · rw [f2 23 (by decide), f1 23 (by decide)]
    · rw [e47]; exact h.2.1.2.1.1
    · rw [e47]; rfl
    · rw [e47]; rfl
    · rw [e47]; rfl
  · have no : Sg 134 0 [some (.ref 47), some (.int x), none] [] mi ml (qi (eqR (b + 8) (-2 : Int32))) :=
      rg134_0 (c114c 0 3 (fun s _ hs2 e => absurd ⟨s, hs2, e⟩ hc) (fun _ => ⟨fun r => absurd rfl r, fun _ => ⟨rfl, fin⟩⟩))
    refine rg73_0 ⟨fun _ => no, fun r1 => ⟨fun r4 => ?_, fun _ => no⟩⟩
    exfalso
    obtain ⟨s, hs, rfl⟩ := nI_of r1
    exact hc ⟨s, (nI_leI (b := 3) hs (by decide)).mp r4, rfl⟩
theorem p74 {x : Int32} (hb : b + 8 < 2 ^ 31) (hR : Rel b mi ml) : Sg 74 0 [some (.ref 0), some (.int x), none] [] mi ml (qi fun v m l => Sg 135 0 [some (.ref 47), some (.int x), none] [] m l (qi (eqR (b + 8) v))) := by
  obtain ⟨β, lp, q, fu, sd, sq, h⟩ := hR
  have hp := h.1.1
  have hC := h.1.cd
  have hM := h.2.1.1
  have fin : Rel (b + 8) mi ml := Rel.mono (by omega) ⟨β, lp, q, fu, sd, sq, h⟩
  by_cases hc : ∃ s, s ≤ 15 ∧ x = nI s
  · obtain ⟨s, hs, rfl⟩ := hc
    refine rg74_0 (pk_lt s 0 (fun r => by omega) (fun _ => pk_le s 15 (fun _ => rg4_0 ?_) (fun r => by omega)))
    obtain ⟨m1, hm1⟩ : ∃ m1, m1 = va_up mi 1 (va_up (va_up (mi 1) 4 (nI s)) 5 ((mi 1 5) + 1)) := ⟨_, rfl⟩
    rw [← hm1]
    have f1 : ∀ c, c ≠ 1 → m1 c = mi c := fun c c1 => by rw [hm1, gm_upN c1]
    have a1 : m1 1 = va_up (va_up (mi 1) 4 (nI s)) 5 ((mi 1 5) + 1) := by rw [hm1, gm_upS]
    have k47 : m1 47 = mi 47 := f1 47 (by decide)
    refine rg135_0 (c114c 0 15 (fun _ _ _ _ => ⟨fun _ => ?_, fun r => absurd (by decide) r⟩) (fun hno => absurd rfl (hno s (Nat.zero_le _) hs)))
    rw [k47, hM.1.2.2.2.2, hC.1.2.2.2.2]
    obtain ⟨m2, hm2⟩ : ∃ m2, m2 = va_up m1 47 (va_up (mi 47) 9 (nI s)) := ⟨_, rfl⟩
    rw [← hm2]
    have f2 : ∀ c, c ≠ 47 → m2 c = m1 c := fun c hc => by rw [hm2, gm_upN hc]
    have e47 : m2 47 = va_up (mi 47) 9 (nI s) := by rw [hm2, gm_upS]
    refine ⟨rfl, Rel.b8 (d := 1) (by decide) ⟨va_up β 4 s, lp, q, fu, sd, sq, h.bd (β' := va_up β 4 s) (d := 1) ?_ (show va_up β 4 s 3 ≤ 3 from hp.2.1) ?_ ?_ (by decide) ?_ (by omega) ?_ (Or.inr ⟨rfl, ?_, rfl, rfl, rfl⟩) ?_ ?_ ?_ ?_⟩⟩
    · exact ⟨hp.1.1, hp.1.2.1, hp.1.2.2.1, hs, fun y hy => by rw [b8u (by decide)]; exact hp.1.2.2.2.2 y hy⟩
    · unfold Cd
      rw [f2 1 (by decide), f2 2 (by decide), a1, f1 2 (by decide)]
      exact ⟨⟨hC.1.1, hC.1.2.1, hC.1.2.2.1, hC.1.2.2.2.1, rfl⟩, fun y hy => by rw [b8u (by decide)]; exact hC.2 y hy⟩
    · unfold Md Mb
      rw [e47, f2 52 (by decide), f1 52 (by decide)]
      exact ⟨⟨hM.1.1, hM.1.2.1, hM.1.2.2.1, hM.1.2.2.2.1, rfl⟩, fun y hy => by rw [b8u (by decide)]; exact hM.2 y hy⟩
    · rw [f2 1 (by decide), a1]; rfl
    · intro c c1 _ c3 c4 _ _ _
      rw [f2 c c4, f1 c c1]
    · rw [f2 23 (by decide), f1 23 (by decide)]
    · rw [e47]; exact h.2.1.2.1.1
    · rw [e47]; rfl
    · rw [e47]; rfl
    · rw [e47]; rfl
  · have no : Sg 135 0 [some (.ref 47), some (.int x), none] [] mi ml (qi (eqR (b + 8) (-2 : Int32))) :=
      rg135_0 (c114c 0 15 (fun s _ hs2 e => absurd ⟨s, hs2, e⟩ hc) (fun _ => ⟨fun r => absurd rfl r, fun _ => ⟨rfl, fin⟩⟩))
    refine rg74_0 ⟨fun _ => no, fun r1 => ⟨fun r4 => ?_, fun _ => no⟩⟩
    exfalso
    obtain ⟨s, hs, rfl⟩ := nI_of r1
    exact hc ⟨s, (nI_leI (b := 15) hs (by decide)).mp r4, rfl⟩
theorem bu_lo {β : Bd} {y v j : Nat} (hj : j < 8) : bu β y v j = β j := gm_upN (by omega)
theorem bu_at {β : Bd} {y v : Nat} : bu β y v (8 + y) = v := gm_upS
theorem bu_ne {β : Bd} {y v z : Nat} (h : z ≠ y) : bu β y v (8 + z) = β (8 + z) := gm_upN (by omega)
/-- a row of the class's board is changed -/
theorem Cd.bw {β : Bd} {mi : Mi} (h : Cd β mi) {y v : Nat} {x : Int32} : Cd (bu β y v) (va_up (va_up mi 2 (va_up (mi 2) y (nI v))) 1 (va_up (mi 1) 5 x)) := by
  unfold Cd
  rw [gm_upS, gm_upN (show (2 : Nat) ≠ 1 by decide), gm_upS]
  refine ⟨⟨?_, ?_, ?_, ?_, ?_⟩, fun z hz => ?_⟩
  · rw [gm_upN (by decide), bu_lo (by decide)]; exact h.1.1
  · rw [gm_upN (by decide), bu_lo (by decide)]; exact h.1.2.1
  · rw [gm_upN (by decide), bu_lo (by decide)]; exact h.1.2.2.1
  · rw [gm_upN (by decide), bu_lo (by decide)]; exact h.1.2.2.2.1
  · rw [gm_upN (by decide), bu_lo (by decide)]; exact h.1.2.2.2.2
  · by_cases hzy : z = y
    · subst hzy; rw [gm_upS, bu_at]
    · rw [gm_upN hzy, bu_ne hzy]; exact h.2 z hz
/-- one row of both boards is changed, once -/
theorem RX.row {β : Bd} {lp : Bool} {q : Nat → Nat} {fu : Nat} {sd sq : Nat → Nat → Nat} (h : RX b β lp q fu sd sq mi ml) {y v : Nat} (hv : v < 2 ^ (β 1)) (hb : b + 1 < 2 ^ 31) {m1 m2 : Mi} (e1 : m1 = va_up (va_up mi 2 (va_up (mi 2) y (nI v))) 1 (va_up (mi 1) 5 (mi 1 5 + 1))) (f2 : fr [52, 58, 59] m1 m2) (hB : Mb (bu β y v) m2) : RX (b + 1) (bu β y v) lp q fu sd sq m2 ml := by
  have hp := h.1.1
  have f1 : ∀ c, c ≠ 1 → c ≠ 2 → m1 c = mi c := fun c c1 c2 => by rw [e1, gm_upN c1, gm_upN c2]
  have k47 : m2 47 = mi 47 := by rw [f2 47 (by decide), f1 47 (by decide) (by decide)]
  have lo : ∀ j, j < 8 → bu β y v j = β j := fun j hj => gm_upN (by omega)
  refine h.bd (β' := bu β y v) (d := 1) (hp.1.bw hv) (by rw [lo 3 (by decide)]; exact hp.2.1) ?_ ⟨?_, hB⟩ (by decide) ?_ hb ?_ (Or.inr ⟨rfl, ?_, lo 0 (by decide), lo 1 (by decide), lo 2 (by decide)⟩) ?_ ?_ ?_ ?_
  · have := h.1.cd.bw (y := y) (v := v) (x := mi 1 5 + 1)
    rw [← e1] at this
    exact this.f f2 (by decide) (by decide)
  · rw [k47, lo 0 (by decide), lo 1 (by decide), lo 2 (by decide), lo 3 (by decide), lo 4 (by decide)]
    exact h.2.1.1.1
  · rw [f2 1 (by decide), e1, gm_upS, gm_upS]; rfl
  · intro c c1 c2 _ c4 c5 c6 c7
    rw [f2 c (by simp [c5, c6, c7]), f1 c c1 c2]
  · rw [f2 23 (by decide), f1 23 (by decide) (by decide)]
  · rw [k47]; exact h.2.1.2.1.1
  · rw [k47]
  · rw [k47]
  · rw [k47]
theorem p75 {x z : Int32} (hb : b + 8 < 2 ^ 31) (hR : Rel b mi ml) : Sg 75 0 [some (.ref 0), some (.int x), some (.int z)] [] mi ml (qi fun v m l => Sg 136 0 [some (.ref 47), some (.int x), some (.int z)] [] m l (qi (eqR (b + 8) v))) := by
  obtain ⟨β, lp, q, fu, sd, sq, h⟩ := hR
  have hp := h.1.1
  have hH := hp.1.1
  have hW := hp.1.2.1
  have hC := h.1.cd
  have hM := h.2.1.1
  have fin : Rel (b + 8) mi ml := Rel.mono (by omega) ⟨β, lp, q, fu, sd, sq, h⟩
  by_cases hc : ∃ s t, s < β 1 ∧ t < β 0 ∧ x = nI s ∧ z = nI t
  · obtain ⟨s, t, hs, ht, rfl, rfl⟩ := hc
    have hbd := hp.1.bd (show t < 7 by omega)
    refine rg75_0 (c7 hC.1.1 hH.2 hC.1.2.1 hW.2 (fun _ _ _ _ _ _ => ⟨fun _ => ⟨pk_in t 7 (by omega), ?_⟩, fun r => absurd (by decide) r⟩) (fun hno => absurd (hno s t hs ht rfl rfl) not_false))
    rw [nI_clamp (by omega), hC.2 t (by omega), sb_x _ hbd _ (by omega)]
    obtain ⟨v, hv⟩ : ∃ v, v = sb (β (8 + t)) s (!(β (8 + t)).testBit s) := ⟨_, rfl⟩
    rw [← hv]
    have hvl : v < 2 ^ (β 1) := by rw [hv]; exact sb_l (β 1) hW.2 _ (hp.1.2.2.2.2 t (by omega)) s hs _
    refine c5 rfl (by omega) ?_
    obtain ⟨m1, hm1⟩ : ∃ m1, m1 = va_up (va_up mi 2 (va_up (mi 2) t (nI v))) 1 (va_up (mi 1) 5 (mi 1 5 + 1)) := ⟨_, rfl⟩
    have hCd := hC.bw (y := t) (v := v) (x := mi 1 5 + 1)
    have hWf := hp.1.bw (y := t) hvl
    rw [← hm1] at hCd ⊢
    refine c11 hCd hWf ?_
    have f1 : ∀ c, c ≠ 1 → c ≠ 2 → m1 c = mi c := fun c c1 c2 => by rw [hm1, gm_upN c1, gm_upN c2]
    have hM1 : Md β m1 := hM.m (by rw [f1 47 (by decide) (by decide)]) (by rw [f1 47 (by decide) (by decide)]) (by rw [f1 47 (by decide) (by decide)]) (by rw [f1 47 (by decide) (by decide)]) (by rw [f1 47 (by decide) (by decide)]) (f1 52 (by decide) (by decide))
    refine rg136_0 (c130 hM1.1.1 hH hM1.1.2.1 hW (fun _ _ _ _ _ _ => ⟨fun _ => ⟨pk_in t 7 (by omega), ?_⟩, fun r => absurd (by decide) r⟩) (fun hno => absurd (hno s t hs ht rfl rfl) not_false))
    rw [nI_clamp (by omega), hM1.2 t (by omega), sb_x _ hbd _ (by omega), ← hv]
    have hM2 : Md (bu β t v) (va_up m1 52 (va_up (m1 52) t (nI v))) := hM1.bw
    refine c131 hM2 hWf ⟨rfl, Rel.b8 (d := 1) (by decide) ⟨bu β t v, lp, q, fu, sd, sq, h.row hvl (by omega) hm1 (fr.rf.up (by decide)) hM2.2⟩⟩
  · refine rg75_0 (c7 hC.1.1 hH.2 hC.1.2.1 hW.2 (fun s t hs ht e1 e2 => absurd ⟨s, t, hs, ht, e1, e2⟩ hc) (fun _ => ⟨fun r => absurd rfl r, fun _ => ?_⟩))
    exact rg136_0 (c130 hM.1.1 hH hM.1.2.1 hW (fun s t hs ht e1 e2 => absurd ⟨s, t, hs, ht, e1, e2⟩ hc) (fun _ => ⟨fun r => absurd rfl r, fun _ => ⟨rfl, fin⟩⟩))
end C69
