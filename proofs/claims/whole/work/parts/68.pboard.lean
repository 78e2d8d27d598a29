/-! pairs: the board changes -/
section C68
variable {b : Nat} {β β' : Bd} {lp lp' : Bool} {q : Nat → Nat} {fu : Nat} {sd sq : Nat → Nat → Nat} {mi m2 : Mi} {ml : Ml}
/-- a board of a later version: what is kept is of no use -/
theorem CI.new (h : CI b β mi ml) (hβ : Wf β') (h3 : β' 3 ≤ 7) (hC : Cd β' m2) {d : Nat} (hd : 1 ≤ d) (hv : m2 1 5 = mi 1 5 + nI d) (hb : b + d < 2 ^ 31) (e : ∀ c, 3 ≤ c → c < 23 → m2 c = mi c) : CI (b + d) β' m2 ml := by
  obtain ⟨k1, k2, k3, ⟨V, v1, v2, ⟨a1, a2, a3⟩, ⟨b1, b2, b3⟩, ⟨c1, c2, c3⟩⟩, k5, k8, k9⟩ := h
  have hv' : m2 1 5 = nI (V + d) := by rw [hv, v2, nI_add]
  have no : ∀ v, v ≤ V → nI v = nI (V + d) → False := fun v hvV hq => by
    have := (nI_eq (by omega) (by omega)).mp hq
    omega
  refine ⟨hβ, h3, hC, ⟨V + d, by omega, hv', ⟨a1, by omega, by rw [e 3 (by decide) (by decide)]; exact a3⟩, ⟨b1, by omega, by rw [e 3 (by decide) (by decide)]; exact b3⟩, ⟨c1, by omega, by rw [e 18 (by decide) (by decide)]; exact c3⟩⟩, ⟨fun r => ?_, fun r => ?_, fun r => ?_⟩, ?_, ?_⟩
  · rw [e 3 (by decide) (by decide), hv', a3] at r; exact (no a1 a2 r).elim
  · rw [e 3 (by decide) (by decide), hv', b3] at r; exact (no b1 b2 r).elim
  · rw [e 18 (by decide) (by decide), hv', c3] at r; exact (no c1 c2 r).elim
  · exact k8.m (e 4 (by decide) (by decide)) (e 5 (by decide) (by decide)) (e 6 (by decide) (by decide)) rfl
  · exact k9.m (e 9 (by decide) (by decide)) (e 10 (by decide) (by decide)) (e 11 (by decide) (by decide)) rfl
theorem RX.bd (h : RX b β lp q fu sd sq mi ml) (hβ : Wf β') (h3 : β' 3 ≤ 3) (hC : Cd β' m2) (hM : Md β' m2) {d : Nat} (hd : 1 ≤ d) (hv : m2 1 5 = mi 1 5 + nI d) (hb : b + d < 2 ^ 31) (e : ∀ c, c ≠ 1 → c ≠ 2 → c ≠ 23 → c ≠ 47 → c ≠ 52 → c ≠ 58 → c ≠ 59 → m2 c = mi c)
    (h23 : (lp' = false ∧ m2 23 0 = 0) ∨ (lp' = lp ∧ m2 23 = mi 23 ∧ β' 0 = β 0 ∧ β' 1 = β 1 ∧ β' 2 = β 2)) (h11 : m2 47 11 = bI lp') (h28 : m2 47 28 = mi 47 28) (h13 : m2 47 13 = mi 47 13) (h4 : m2 47 4 = mi 47 4) : RX (b + d) β' lp' q fu sd sq m2 ml := by
  obtain ⟨⟨p, ci, cl, cs⟩, ⟨md, mL, ms⟩, xi, e6, e7⟩ := h
  have ee : ∀ c, 3 ≤ c → c ≠ 23 → c ≠ 47 → c ≠ 52 → c ≠ 58 → c ≠ 59 → m2 c = mi c := fun c c1 c2 c3 c4 c5 c6 => e c (by omega) (by omega) c2 c3 c4 c5 c6
  refine ⟨⟨?_, ci.new hβ (by omega) hC hd hv hb (fun c c1 c2 => ee c c1 (by omega) (by omega) (by omega) (by omega) (by omega)), ?_, cs.m (fun c c1 c2 => ee c (by omega) (by omega) (by omega) (by omega) (by omega) (by omega))⟩, ⟨hM, ⟨h11, fun y hy => by rw [ee 53 (by decide) (by decide) (by decide) (by decide) (by decide) (by decide)]; exact mL.2 y hy⟩, ms.m h28 (ee 66 (by decide) (by decide) (by decide) (by decide) (by decide) (by decide)) (ee 67 (by decide) (by decide) (by decide) (by decide) (by decide) (by decide)) (ee 68 (by decide) (by decide) (by decide) (by decide) (by decide) (by decide)) (ee 69 (by decide) (by decide) (by decide) (by decide) (by decide) (by decide))⟩, xi.m (fun c c1 c2 => ee c (by omega) (by omega) (by omega) (by omega) (by omega) (by omega)) (ee 48 (by decide) (by decide) (by decide) (by decide) (by decide) (by decide)) (ee 49 (by decide) (by decide) (by decide) (by decide) (by decide) (by decide)) (ee 50 (by decide) (by decide) (by decide) (by decide) (by decide) (by decide)), ?_, ?_⟩
  · refine ⟨hβ, h3, p.2.2.1, fun hl => ?_, p.2.2.2.2.1, p.2.2.2.2.2⟩
    rcases h23 with r | ⟨r1, _, r3, _, r5⟩
    · rw [r.1] at hl; cases hl
    · rw [r3, r5]; exact p.2.2.2.1 (by rw [← r1]; exact hl)
  · have e24 : m2 24 = mi 24 := ee 24 (by decide) (by decide) (by decide) (by decide) (by decide) (by decide)
    rcases h23 with r | ⟨r1, r2, r3, r4, r5⟩
    · refine ⟨by rw [r.2, r.1]; rfl, fun y hy => by rw [e24]; exact cl.2.1 y hy, fun hl => by rw [r.1] at hl; cases hl⟩
    · unfold CL
      rw [r1, r2, e24, r3, r4, r5]; exact cl
  · rw [e 0 (by decide) (by decide) (by decide) (by decide) (by decide) (by decide) (by decide), h13]; exact e6
  · rw [e 0 (by decide) (by decide) (by decide) (by decide) (by decide) (by decide) (by decide), h4]; exact e7
/-- resize -/
theorem c1 {F : Mi → Ml → Prop} {x1 x2 : Int32} (h : ∀ m, (∀ c, c ≠ 1 → c ≠ 2 → m c = mi c) → (m 1 0 = x1 ∧ m 1 1 = x2 ∧ m 1 2 = (if x2 < (mi 1 2) then x2 else (mi 1 2)) ∧ m 1 3 = mi 1 3 ∧ m 1 4 = mi 1 4) → m 1 5 = mi 1 5 + 1 → (∀ y, y < 7 → m 2 y = 0) → F m ml) : Sg 1 0 [some (.ref 1), some (.int x1), some (.int x2)] [] mi ml (qv F) := by
  refine rg1_0 (c198 (n := 7) rfl (by decide) ?_)
  refine h _ (fun c c1 c2 => by rw [gm_upN c1, gm_upN c2, gm_upN c1]) ⟨rfl, rfl, rfl, rfl, rfl⟩ rfl (fun y hy => ?_)
  rw [gm_upN (by decide), gm_upS]
  exact if_pos hy
theorem lt01 {x : Int32} (h : x < 0) : x < 1 := by
  rw [fa_lt] at h ⊢
  have h0 : (0 : Int32).toInt = 0 := rfl
  have h1 : (1 : Int32).toInt = 1 := rfl
  omega
/-- the board after grid -/
def bg (β : Bd) (s t : Nat) : Bd := fun k => if k = 0 then s else if k = 1 then t else if k = 2 then min (β 2) t else if 8 ≤ k then 0 else β k
theorem Rel.b8 {b d : Nat} {m : Mi} {l : Ml} (hd : d ≤ 8) (h : Rel (b + d) m l) : Rel (b + 8) m l := h.mono (by omega)
theorem p71 {x z : Int32} (hb : b + 8 < 2 ^ 31) (hR : Rel b mi ml) : Sg 71 0 [some (.ref 0), some (.int x), some (.int z)] [] mi ml (qi fun v m l => Sg 132 0 [some (.ref 47), some (.int x), some (.int z), none] [] m l (qi (eqR (b + 8) v))) := by
  obtain ⟨β, lp, q, fu, sd, sq, h⟩ := hR
  have hp := h.1.1
  have hn := hp.n7
  have hn1 : 1 ≤ β 2 := hp.1.2.2.1.1
  have hC := h.1.cd
  have hM := h.2.1.1
  have fin : Rel (b + 8) mi ml := Rel.mono (by omega) ⟨β, lp, q, fu, sd, sq, h⟩
  by_cases hc : ∃ s t, (1 ≤ s ∧ s ≤ 7) ∧ (1 ≤ t ∧ t ≤ 7) ∧ x = nI s ∧ z = nI t
  · obtain ⟨s, t, hs, ht, rfl, rfl⟩ := hc
    refine rg71_0 (pk_lt s 1 (fun r => by omega) (fun _ => pk_lt 7 s (fun r => by omega) (fun _ => pk_lt t 1 (fun r => by omega) (fun _ => pk_le t 7 (fun _ => ?_) (fun r => by omega)))))
    refine c1 (fun m1 f1 g1 g5 g2 => ?_)
    have e2 : (if nI t < mi 1 2 then nI t else mi 1 2) = nI (min (β 2) t) := by
      rw [hC.1.2.2.1]
      by_cases hlt : t < β 2
      · rw [if_pos ((nI_ltI (by omega) (by omega)).mpr hlt), Nat.min_eq_right (by omega)]
      · rw [if_neg (fun r => hlt ((nI_ltI (by omega) (by omega)).mp r)), Nat.min_eq_left (by omega)]
    obtain ⟨m2, hm2⟩ : ∃ m2, m2 = va_up m1 23 (va_up (m1 23) 0 0) := ⟨_, rfl⟩
    rw [← hm2]
    have f2 : ∀ c, c ≠ 23 → m2 c = m1 c := fun c hc => by rw [hm2, gm_upN hc]
    refine c10 (β := bg β s t) (by rw [f2 1 (by decide)]; exact g1.1) (by rw [f2 1 (by decide)]; exact g1.2.1) ?_
    have k47 : m2 47 = mi 47 := by rw [f2 47 (by decide), f1 47 (by decide) (by decide)]
    refine rg132_0 (c114c 1 7 (fun _ _ _ _ => ⟨fun r => absurd r (by decide), fun _ => ?_⟩) (fun hno => absurd rfl (hno s hs.1 hs.2)))
    refine c114c 1 7 (fun _ _ _ _ => ⟨fun _ => ?_, fun r => absurd (by decide) r⟩) (fun hno => absurd rfl (hno t ht.1 ht.2))
    refine c117n (a := β 2) (b := t) (by rw [k47]; exact hM.1.2.2.1) rfl (by omega) (by omega) ?_
    obtain ⟨m3, hm3⟩ : ∃ m3, m3 = va_up (va_up m2 47 (va_up (va_up (m2 47) 5 (nI s)) 6 (nI t))) 47 (va_up (va_up ((va_up m2 47 (va_up (va_up (m2 47) 5 (nI s)) 6 (nI t))) 47) 7 (nI (min (β 2) t))) 11 0) := ⟨_, rfl⟩
    rw [← hm3]
    have f3 : ∀ c, c ≠ 47 → m3 c = m2 c := fun c hc => by rw [hm3, gm_upN hc, gm_upN hc]
    have e47 : m3 47 = va_up (va_up (va_up (va_up (mi 47) 5 (nI s)) 6 (nI t)) 7 (nI (min (β 2) t))) 11 0 := by rw [hm3, gm_upS, gm_upS, k47]
    have key := upI 7 (fun y (m4 : Mi) => (∀ c, c ≠ 52 → m4 c = m3 c) ∧ ∀ w, w < y → m4 52 w = 0) (fun y m4 => Sg 132 56 [some (.ref 47), some (.int (nI s)), some (.int (nI t)), some (.int (nI y))] [] m4 ml (qi (eqR (b + 8) (nI (bg β s t 0 * bg β s t 1))))) ?_ ?_
    · exact key 0 m3 (by decide) ⟨fun _ _ => rfl, fun w hw => by omega⟩
    · rintro m4 ⟨f4, g4⟩
      refine rg132_56 (pk_le 7 7 (fun _ => ?_) (fun r => by omega))
      rw [pk_mul]
      refine ⟨rfl, Rel.b8 (d := 1) (by decide) ⟨bg β s t, false, q, fu, sd, sq, h.bd (β' := bg β s t) (d := 1) ?_ (show bg β s t 3 ≤ 3 from hp.2.1) ?_ ?_ (by decide) ?_ (by omega) ?_ (Or.inl ⟨rfl, ?_⟩) ?_ ?_ ?_ ?_⟩⟩
      · refine ⟨hs, ht, ⟨?_, ?_⟩, hp.1.2.2.2.1, fun y _ => ?_⟩
        · show 1 ≤ min (β 2) t
          omega
        · show min (β 2) t ≤ t
          omega
        · show (if 8 + y = 0 then s else if 8 + y = 1 then t else if 8 + y = 2 then min (β 2) t else if 8 ≤ 8 + y then 0 else β (8 + y)) < 2 ^ t
          rw [if_neg (by omega), if_neg (by omega), if_neg (by omega), if_pos (by omega)]
          exact Nat.two_pow_pos _
      · have c1 : m4 1 = m1 1 := by rw [f4 1 (by decide), f3 1 (by decide), f2 1 (by decide)]
        have c2 : m4 2 = m1 2 := by rw [f4 2 (by decide), f3 2 (by decide), f2 2 (by decide)]
        unfold Cd
        rw [c1, c2]
        refine ⟨⟨g1.1, g1.2.1, g1.2.2.1.trans e2, g1.2.2.2.1.trans hC.1.2.2.2.1, g1.2.2.2.2.trans hC.1.2.2.2.2⟩, fun y hy => ?_⟩
        rw [g2 y hy]
        show _ = nI (if 8 + y = 0 then s else if 8 + y = 1 then t else if 8 + y = 2 then min (β 2) t else if 8 ≤ 8 + y then 0 else β (8 + y))
        rw [if_neg (by omega), if_neg (by omega), if_neg (by omega), if_pos (by omega)]; rfl
      · have c47 : m4 47 = m3 47 := f4 47 (by decide)
        unfold Md Mb
        rw [c47, e47]
        refine ⟨⟨rfl, rfl, rfl, hM.1.2.2.2.1, hM.1.2.2.2.2⟩, fun y hy => ?_⟩
        rw [g4 y hy]
        show _ = nI (if 8 + y = 0 then s else if 8 + y = 1 then t else if 8 + y = 2 then min (β 2) t else if 8 ≤ 8 + y then 0 else β (8 + y))
        rw [if_neg (by omega), if_neg (by omega), if_neg (by omega), if_pos (by omega)]; rfl
      · rw [f4 1 (by decide), f3 1 (by decide), f2 1 (by decide)]; exact g5
      · intro c c1 c2 c3 c4 c5 _ _
        rw [f4 c c5, f3 c c4, f2 c c3, f1 c c1 c2]
      · rw [f4 23 (by decide), f3 23 (by decide), hm2]; rfl
      · rw [f4 47 (by decide), e47]; rfl
      · rw [f4 47 (by decide), e47]; rfl
      · rw [f4 47 (by decide), e47]; rfl
      · rw [f4 47 (by decide), e47]; rfl
    · rintro y m4 hy ⟨f4, g4⟩ ih
      refine rg132_56 (pk_le 7 y (fun r => by omega) (fun _ => ⟨pk_in y 7 hy, ?_⟩))
      rw [nI_1, nI_clamp (by omega)]
      refine ih _ ⟨fun c hc => by rw [gm_upN hc]; exact f4 c hc, fun w hw => ?_⟩
      rw [gm_upS]
      by_cases hwy : w = y
      · subst hwy; exact gm_upS
      · rw [gm_upN hwy]; exact g4 w (by omega)
  · have no : Sg 132 0 [some (.ref 47), some (.int x), some (.int z), none] [] mi ml (qi (eqR (b + 8) (-2 : Int32))) := by
      refine rg132_0 (c114c 1 7 (fun s hs1 hs2 e => ⟨fun r => absurd r (by decide), fun _ => ?_⟩) (fun _ => ⟨fun _ => ⟨rfl, fin⟩, fun r => absurd rfl r⟩))
      exact c114c 1 7 (fun t ht1 ht2 e2 => absurd ⟨s, t, ⟨hs1, hs2⟩, ⟨ht1, ht2⟩, e, e2⟩ hc) (fun _ => ⟨fun r => absurd rfl r, fun _ => ⟨rfl, fin⟩⟩)
    refine rg71_0 ⟨fun _ => no, fun r1 => ⟨fun _ => no, fun r2 => ⟨fun _ => no, fun r3 => ⟨fun r4 => ?_, fun _ => no⟩⟩⟩⟩
    exfalso
    obtain ⟨s, hs, rfl⟩ := nI_of (x := x) (fun r => r1 (lt01 r))
    obtain ⟨t, ht, rfl⟩ := nI_of (x := z) (fun r => r3 (lt01 r))
    have q1 : ¬ s < 1 := fun r => r1 ((nI_ltI (b := 1) hs (by decide)).mpr r)
    have q2 : ¬ 7 < s := fun r => r2 ((nI_ltI (a := 7) (by decide) hs).mpr r)
    have q3 : ¬ t < 1 := fun r => r3 ((nI_ltI (b := 1) ht (by decide)).mpr r)
    have q4 : t ≤ 7 := (nI_leI (b := 7) ht (by decide)).mp r4
    exact hc ⟨s, t, by omega, by omega, rfl, rfl⟩
end C68
