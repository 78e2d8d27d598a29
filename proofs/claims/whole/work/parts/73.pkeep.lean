/-! pairs: keep, go, drop -/
theorem fuO : ∀ f, f < 64 → ∀ s, s < 6 → f ||| 2 ^ s < 64 := by decide +kernel
theorem fuA : ∀ f, f < 64 → ∀ s, s < 6 → nI f &&& (((1 : Int32) <<< (nI s &&& 31)) ^^^ (-1)) = nI (f &&& (63 ^^^ 2 ^ s)) := by decide +kernel
theorem fuB : ∀ f, f < 64 → ∀ s, s < 6 → f &&& (63 ^^^ 2 ^ s) < 64 := by decide +kernel
theorem fuT : ∀ f, f < 64 → ∀ s, s < 6 → ∀ t, t < 6 → (f &&& (63 ^^^ 2 ^ s)).testBit t = (f.testBit t && !decide (t = s)) := by decide +kernel
section C73
variable {b : Nat} {mi : Mi} {ml : Ml}
/-- cells of slot s of the class -/
theorem slN {s t : Nat} (h : t ≠ s) : 27 + 2 * t ≠ 27 + 2 * s ∧ 27 + 2 * t ≠ 27 + 2 * s + 1 ∧ 27 + 2 * t + 1 ≠ 27 + 2 * s ∧ 27 + 2 * t + 1 ≠ 27 + 2 * s + 1 := by omega
set_option maxHeartbeats 1000000 in
theorem p92 {x : Int32} (hR : Rel b mi ml) : Sg 92 0 [some (.ref 0), some (.int x), none] [] mi ml (qi fun v m l => Sg 184 0 [some (.ref 47), some (.int x), none] [] m l (qi (eqR b v))) := by
  obtain ⟨β, lp, q, fu, sd, sq, h⟩ := hR
  have hp := h.1.1
  have hH := hp.1.1
  have hW := hp.1.2.1
  have hn := hp.n7
  have hfu := hp.2.2.2.2.1
  have hC := h.1.cd
  by_cases hc : ∃ s, s ≤ 5 ∧ x = nI s
  · obtain ⟨s, hs, rfl⟩ := hc
    have hs6 : s < 6 := by omega
    refine rg92_0 (c105 (fun t ht e => ?_) (fun hno => absurd rfl (hno s hs)))
    have et : t = s := ((nI_eq (by omega) (by omega)).mp e).symm
    subst et
    refine ⟨fun r => (by cases r), fun r hr => ?_⟩
    cases hr
    have hY := (MRs t hs6).2
    refine ⟨hY, ?_⟩
    rw [h.1.2.2.1.1]
    refine bqn (fun hl => ?_) (fun hl => ?_)
    · have d23 := h.1.2.2.1.2.2 hl
      refine c25 hY isY23 (by omega) (by omega) (by omega) (by omega) (by rw [h.1.2.2.1.1]; exact bI_01 _) (fun m1 f1 a1 q1 => ?_)
      obtain ⟨fu', hfu'⟩ : ∃ fu', fu' = fu ||| 2 ^ t := ⟨_, rfl⟩
      have hfl : fu' < 64 := by rw [hfu']; exact fuO fu hfu t hs6
      have hft : ∀ w, fu'.testBit w = (fu.testBit w || decide (w = t)) := fun w => by rw [hfu']; exact fb_bit_set fu t w
      have hcs : CSl fu' (va_up sd t (fun k => if k = 0 then β 0 else if k = 1 then β 1 else β 2)) (va_up sq t q) m1 := fun w hw => by
        by_cases hwt : w = t
        · subst hwt
          rw [hft, gm_upS, gm_upS, a1.1, a1.2.1, a1.2.2.1, a1.2.2.2, h.1.2.2.1.1, hl]
          refine ⟨by simp [bI], ⟨d23.1, d23.2.1, d23.2.2⟩, fun y hy => ?_⟩
          rw [q1 y hy]; exact h.1.2.2.1.2.1 y hy
        · have hne := slN hwt
          rw [hft, gm_upN hwt, gm_upN hwt, f1 _ hne.1 hne.2.1, f1 _ hne.2.2.1 hne.2.2.2, show decide (w = t) = false by simpa using hwt, Bool.or_false]
          exact h.1.2.2.2 w hw
      refine c107 (full := fu') (fun w hw => (hcs w hw).1) ?_
      have e1 : ∀ c, (c < 27 ∨ 39 ≤ c) → m1 c = mi c := fun c hc => f1 c (by omega) (by omega)
      have hM1 : KM β lp q fu sd sq m1 := h.2.1.c (fun c hc => e1 c (by omega))
      refine rg184_0 (c183 (fun _ _ _ => ⟨fun _ => ?_, fun r => absurd (by decide) r⟩) (fun hno => absurd rfl (hno t hs)))
      rw [hM1.2.1.1, hl]
      refine ⟨fun _ => ?_, fun r => absurd (by decide) r⟩
      have e7 : (7 : Int32) * nI t = nI (7 * t) := pk_mul 7 t
      have key := upI 7 (fun y (m2 : Mi) => fr [66] m1 m2 ∧ (∀ w, w < y → m2 66 (7 * t + w) = nI (q w)) ∧ ∀ k, (k < 7 * t ∨ 7 * t + 7 ≤ k) → m2 66 k = m1 66 k) (fun y m2 => Sg 184 25 [some (.ref 47), some (.int (nI t)), some (.int (nI y))] [] m2 ml (qi (eqR b (nI (ct fu' 6))))) ?_ ?_
      · exact key 0 m1 (by decide) ⟨fr.rf, fun w hw => by omega, fun _ _ => rfl⟩
      · rintro m2 ⟨f2, g2, o2⟩
        refine rg184_25 (pk_le 7 7 (fun _ => ⟨pk_in t 6 hs6, ?_⟩) (fun r => by omega))
        have k2 : m2 47 = m1 47 := f2 47 (by decide)
        rw [nI_clamp (by omega), k2, hM1.2.2.1, hM1.1.1.1, hM1.1.1.2.1, hM1.1.1.2.2.1, shl_N t (by omega), fa_or, ← hfu', nI_i2l (by omega)]
        refine c119 rfl (by omega) ?_
        rw [ct_64 fu' hfl]
        obtain ⟨m3, hm3⟩ : ∃ m3, m3 = va_up (va_up (va_up (va_up m2 67 (va_up (m2 67) t (nI (β 0)))) 68 (va_up (m2 68) t (nI (β 1)))) 69 (va_up (m2 69) t (nI (β 2)))) 47 (va_up (m1 47) 28 (nI fu')) := ⟨_, rfl⟩
        rw [← hm3]
        have f3 : ∀ c, c ≠ 47 → c ≠ 67 → c ≠ 68 → c ≠ 69 → m3 c = m2 c := fun c c1 c2 c3 c4 => by rw [hm3, gm_upN c1, gm_upN c4, gm_upN c3, gm_upN c2]
        have e3 : ∀ c, (c < 27 ∨ 39 ≤ c) → c ≠ 47 → c ≠ 66 → c ≠ 67 → c ≠ 68 → c ≠ 69 → m3 c = mi c := fun c c0 c1 c2 c3 c4 c5 => by rw [f3 c c1 c3 c4 c5, f2 c (by simp [c2]), e1 c c0]
        have k47 : m3 47 = va_up (m1 47) 28 (nI fu') := by rw [hm3, gm_upS]
        have k67 : m3 67 = va_up (m1 67) t (nI (β 0)) := by rw [hm3, gm_upN (by decide), gm_upN (by decide), gm_upN (by decide), gm_upS, f2 67 (by decide)]
        have k68 : m3 68 = va_up (m1 68) t (nI (β 1)) := by rw [hm3, gm_upN (by decide), gm_upN (by decide), gm_upS, f2 68 (by decide)]
        have k69 : m3 69 = va_up (m1 69) t (nI (β 2)) := by rw [hm3, gm_upN (by decide), gm_upS, f2 69 (by decide)]
        have k66 : m3 66 = m2 66 := f3 66 (by decide) (by decide) (by decide) (by decide)
        refine ⟨rfl, β, lp, q, fu', va_up sd t (fun k => if k = 0 then β 0 else if k = 1 then β 1 else β 2), va_up sq t q, ⟨⟨⟨hp.1, hp.2.1, hp.2.2.1, hp.2.2.2.1, hfl, fun w hw => ?_⟩, ?_, ?_, ?_⟩, ⟨?_, ?_, ⟨?_, fun w hw => ?_⟩⟩, ?_, ?_, ?_⟩⟩
        · by_cases hwt : w = t
          · subst hwt
            rw [gm_upS, gm_upS]
            exact ⟨⟨show β 0 < 8 by omega, show β 1 < 8 by omega, show β 2 < 8 by omega⟩, hp.2.2.1, fun _ => hp.2.2.2.1 hl⟩
          · rw [gm_upN hwt, gm_upN hwt, hft, show decide (w = t) = false by simpa using hwt, Bool.or_false]
            exact hp.2.2.2.2.2 w hw
        · exact h.1.2.1.m (fun c hc => e3 c (by omega) (by omega) (by omega) (by omega) (by omega) (by omega))
        · exact h.1.2.2.1.m (e3 23 (by omega) (by decide) (by decide) (by decide) (by decide) (by decide)) (e3 24 (by omega) (by decide) (by decide) (by decide) (by decide) (by decide))
        · exact hcs.m (fun c c1 c2 => by rw [f3 c (by omega) (by omega) (by omega) (by omega), f2 c (by simp; omega)])
        · refine hM1.1.m ?_ ?_ ?_ ?_ ?_ ?_
          · rw [k47]; rfl
          · rw [k47]; rfl
          · rw [k47]; rfl
          · rw [k47]; rfl
          · rw [k47]; rfl
          · rw [f3 52 (by decide) (by decide) (by decide) (by decide), f2 52 (by decide)]
        · exact hM1.2.1.m (by rw [k47]; rfl) (by rw [f3 53 (by decide) (by decide) (by decide) (by decide), f2 53 (by decide)])
        · rw [k47]; rfl
        · rw [k67, k68, k69, k66]
          by_cases hwt : w = t
          · subst hwt
            rw [gm_upS, gm_upS, gm_upS, gm_upS, gm_upS]
            exact ⟨⟨rfl, rfl, rfl⟩, fun y hy => g2 y hy⟩
          · rw [gm_upN hwt, gm_upN hwt, gm_upN hwt, gm_upN hwt, gm_upN hwt]
            refine ⟨(hM1.2.2.2 w hw).1, fun y hy => ?_⟩
            rw [o2 _ (by omega)]
            exact (hM1.2.2.2 w hw).2 y hy
        · exact h.2.2.1.m (fun c c1 c2 => e3 c (by omega) (by omega) (by omega) (by omega) (by omega) (by omega)) (e3 48 (by omega) (by decide) (by decide) (by decide) (by decide) (by decide)) (e3 49 (by omega) (by decide) (by decide) (by decide) (by decide) (by decide)) (e3 50 (by omega) (by decide) (by decide) (by decide) (by decide) (by decide))
        · rw [e3 0 (by omega) (by decide) (by decide) (by decide) (by decide) (by decide), k47, gm_upN (by decide), e1 47 (by omega)]; exact h.2.2.2.1
        · rw [e3 0 (by omega) (by decide) (by decide) (by decide) (by decide) (by decide), k47, gm_upN (by decide), e1 47 (by omega)]; exact h.2.2.2.2
      · rintro y m2 hy ⟨f2, g2, o2⟩ ih
        refine rg184_25 (pk_le 7 y (fun r => by omega) (fun _ => ⟨pk_in y 7 hy, ?_⟩))
        rw [e7, nI_add, nI_1, nI_clamp (by omega), nI_clamp (by omega), f2 53 (by decide), hM1.2.1.2 y hy]
        refine ⟨pk_in (7 * t + y) 42 (by omega), ih _ ⟨f2.up (by decide), fun w hw => ?_, fun k hk => ?_⟩⟩
        · rw [gm_upS]
          by_cases hwy : w = y
          · subst hwy; exact gm_upS
          · rw [gm_upN (by omega)]; exact g2 w (by omega)
        · rw [gm_upS, gm_upN (by omega)]; exact o2 k hk
    · refine rg184_0 (c183 (fun _ _ _ => ⟨fun _ => ?_, fun r => absurd (by decide) r⟩) (fun hno => absurd rfl (hno t hs)))
      rw [h.2.1.2.1.1, hl]
      exact ⟨fun r => absurd rfl r, fun _ => ⟨rfl, β, lp, q, fu, sd, sq, h⟩⟩
  · exact rg92_0 (c105 (fun t ht e => absurd ⟨t, ht, e⟩ hc) (fun _ => ⟨fun _ => c104 (rg184_0 (c183 (fun s hs e => absurd ⟨s, hs, e⟩ hc) (fun _ => ⟨fun r => absurd rfl r, fun _ => c120 ⟨rfl, β, lp, q, fu, sd, sq, h.fnd⟩⟩))), fun r hr => (by cases hr)⟩))
theorem p95 {x : Int32} (hR : Rel b mi ml) : Sg 95 0 [some (.ref 0), some (.int x), none] [] mi ml (qi fun v m l => Sg 188 0 [some (.ref 47), some (.int x)] [] m l (qi (eqR b v))) := by
  obtain ⟨β, lp, q, fu, sd, sq, h⟩ := hR
  have hp := h.1.1
  have hfu := hp.2.2.2.2.1
  by_cases hc : ∃ s, s ≤ 5 ∧ x = nI s
  · obtain ⟨s, hs, rfl⟩ := hc
    have hs6 : s < 6 := by omega
    refine rg95_0 (c105 (fun t ht e => ?_) (fun hno => absurd rfl (hno s hs)))
    have et : t = s := ((nI_eq (by omega) (by omega)).mp e).symm
    subst et
    refine ⟨fun r => (by cases r), fun r hr => ?_⟩
    cases hr
    refine ⟨(MRs t hs6).2, ?_⟩
    rw [(h.1.2.2.2 t hs6).1]
    refine bqn (fun hf => ?_) (fun hf => ?_)
    · obtain ⟨m1, hm1⟩ : ∃ m1, m1 = va_up mi (27 + 2 * t) (va_up (mi (27 + 2 * t)) 0 0) := ⟨_, rfl⟩
      rw [← hm1]
      have f1 : ∀ c, c ≠ 27 + 2 * t → m1 c = mi c := fun c hc => by rw [hm1, gm_upN hc]
      obtain ⟨fu', hfu'⟩ : ∃ fu', fu' = fu &&& (63 ^^^ 2 ^ t) := ⟨_, rfl⟩
      have hfl : fu' < 64 := by rw [hfu']; exact fuB fu hfu t hs6
      have hft : ∀ w, w < 6 → fu'.testBit w = (fu.testBit w && !decide (w = t)) := fun w hw => by rw [hfu']; exact fuT fu hfu t hs6 w hw
      have hcs : CSl fu' sd sq m1 := fun w hw => by
        by_cases hwt : w = t
        · subst hwt
          obtain ⟨_, c2, c3⟩ := h.1.2.2.2 w hw
          rw [hft w hw, f1 (27 + 2 * w + 1) (by omega), hm1, gm_upS, gm_upS, gm_upN (by decide), gm_upN (by decide), gm_upN (by decide)]
          exact ⟨by simp [bI], c2, c3⟩
        · have hne := slN hwt
          rw [hft w hw, f1 _ hne.1, f1 _ hne.2.2.1, show decide (w = t) = false by simpa using hwt, Bool.not_false, Bool.and_true]
          exact h.1.2.2.2 w hw
      refine c107 (full := fu') (fun w hw => (hcs w hw).1) ?_
      have hM1 : KM β lp q fu sd sq m1 := h.2.1.c (fun c hc => f1 c (by omega))
      refine rg188_0 (c183 (fun _ _ _ => ⟨fun _ => ?_, fun r => absurd (by decide) r⟩) (fun hno => absurd rfl (hno t hs)))
      rw [hM1.2.2.1, nI_i2l (by omega)]
      refine c116 rfl rfl (by omega) (by omega) ?_
      rw [hf]
      refine ⟨fun _ => ?_, fun r => absurd (by decide) r⟩
      rw [hM1.2.2.1, fuA fu hfu t hs6, ← hfu', nI_i2l (by omega)]
      refine c119 rfl (by omega) ?_
      rw [ct_64 fu' hfl]
      have k47 : ∀ k, k ≠ 28 → (va_up m1 47 (va_up (m1 47) 28 (nI fu'))) 47 k = m1 47 k := fun k hk => by rw [gm_upS, gm_upN hk]
      have f2 : ∀ c, c ≠ 47 → (va_up m1 47 (va_up (m1 47) 28 (nI fu'))) c = m1 c := fun c hc => gm_upN hc
      refine ⟨rfl, β, lp, q, fu', sd, sq, ⟨⟨⟨hp.1, hp.2.1, hp.2.2.1, hp.2.2.2.1, hfl, fun w hw => ?_⟩, ?_, ?_, ?_⟩, ⟨?_, ?_, ⟨?_, fun w hw => ?_⟩⟩, ?_, ?_, ?_⟩⟩
      · obtain ⟨p1, p2, p3⟩ := hp.2.2.2.2.2 w hw
        refine ⟨p1, p2, fun r => p3 ?_⟩
        rw [hft w hw, Bool.and_eq_true] at r
        exact r.1
      · exact h.1.2.1.m (fun c hc => by rw [f2 c (by omega), f1 c (by omega)])
      · exact h.1.2.2.1.m (by rw [f2 23 (by decide), f1 23 (by omega)]) (by rw [f2 24 (by decide), f1 24 (by omega)])
      · exact hcs.m (fun c c1 c2 => f2 c (by omega))
      · exact hM1.1.m (k47 5 (by decide)) (k47 6 (by decide)) (k47 7 (by decide)) (k47 8 (by decide)) (k47 9 (by decide)) (f2 52 (by decide))
      · exact hM1.2.1.m (k47 11 (by decide)) (f2 53 (by decide))
      · rw [gm_upS, gm_upS]
      · rw [f2 66 (by decide), f2 67 (by decide), f2 68 (by decide), f2 69 (by decide)]
        exact hM1.2.2.2 w hw
      · exact h.2.2.1.m (fun c c1 c2 => by rw [f2 c (by omega), f1 c (by omega)]) (by rw [f2 48 (by decide), f1 48 (by omega)]) (by rw [f2 49 (by decide), f1 49 (by omega)]) (by rw [f2 50 (by decide), f1 50 (by omega)])
      · rw [f2 0 (by decide), f1 0 (by omega), k47 13 (by decide), f1 47 (by omega)]; exact h.2.2.2.1
      · rw [f2 0 (by decide), f1 0 (by omega), k47 4 (by decide), f1 47 (by omega)]; exact h.2.2.2.2
    · refine c104 (rg188_0 (c183 (fun _ _ _ => ⟨fun _ => ?_, fun r => absurd (by decide) r⟩) (fun hno => absurd rfl (hno t hs))))
      have e28 : (va_up mi 0 (va_up (mi 0) 7 1)) 47 28 = nI fu := by rw [gm_upN (by decide)]; exact h.2.1.2.2.1
      rw [e28, nI_i2l (by omega)]
      refine c116 rfl rfl (by omega) (by omega) ?_
      rw [hf]
      exact ⟨fun r => absurd rfl r, fun _ => c120 ⟨rfl, β, lp, q, fu, sd, sq, h.fnd⟩⟩
  · exact rg95_0 (c105 (fun t ht e => absurd ⟨t, ht, e⟩ hc) (fun _ => ⟨fun _ => c104 (rg188_0 (c183 (fun s hs e => absurd ⟨s, hs, e⟩ hc) (fun _ => ⟨fun r => absurd rfl r, fun _ => c120 ⟨rfl, β, lp, q, fu, sd, sq, h.fnd⟩⟩))), fun r hr => (by cases hr)⟩))
set_option maxHeartbeats 1000000 in
theorem p93 {x : Int32} (hR : Rel b mi ml) : Sg 93 0 [some (.ref 0), some (.int x), none] [] mi ml (qi fun v m l => Sg 186 0 [some (.ref 47), some (.int x), none, none] [] m l (qi (eqR b v))) := by
  obtain ⟨β, lp, q, fu, sd, sq, h⟩ := hR
  have hp := h.1.1
  have hH := hp.1.1
  have hfu := hp.2.2.2.2.1
  by_cases hc : ∃ s, s ≤ 5 ∧ x = nI s
  · obtain ⟨s, hs, rfl⟩ := hc
    have hs6 : s < 6 := by omega
    obtain ⟨k1, k2, k3⟩ := h.1.2.2.2 s hs6
    obtain ⟨p1, p2, p3⟩ := hp.2.2.2.2.2 s hs6
    refine rg93_0 (c105 (fun t ht e => ?_) (fun hno => absurd rfl (hno s hs)))
    have et : t = s := ((nI_eq (by omega) (by omega)).mp e).symm
    subst et
    refine ⟨fun r => (by cases r), fun r hr => ?_⟩
    cases hr
    have hY := (MRs t hs6).2
    refine ⟨hY, ?_⟩
    rw [k1]
    refine bqn (fun hf => ?_) (fun hf => ?_)
    · refine c27 hY h.1.cd hp.1 k2.1 k2.2.1 k2.2.2 p1.1 p1.2.1 p1.2.2 (fun hq => ⟨fun _ => ?_, fun r => absurd (by decide) r⟩) (fun hq => ⟨fun r => absurd rfl r, fun _ => ?_⟩)
      · have hpc : ∀ y, y < β 0 → pcn (sq t y) = β 2 := fun y hy => by rw [p3 hf y (by omega)]; exact hq.2.2
        refine c25 isY23 hY (by omega) (by omega) (by omega) (by omega) (by rw [k1]; exact bI_01 _) (fun m1 f1 a1 q1 => ?_)
        have e1 : ∀ c, c ≠ 23 → c ≠ 24 → m1 c = mi c := fun c c1 c2 => f1 c c1 c2
        have hC1 : Cd β m1 := by unfold Cd; rw [e1 1 (by decide) (by decide), e1 2 (by decide) (by decide)]; exact h.1.cd
        have h24 : ∀ y, y < 7 → m1 24 y = nI (sq t y) := fun y hy => by rw [show (24 : Nat) = 23 + 1 from rfl, q1 y hy]; exact k3 y hy
        refine c29 (g := sq t) isY23 hC1 hp.1 hp.l7 (fun y hy => ⟨h24 y (by omega), p2 y (by omega), hpc y hy⟩) ?_
        have hM1 : KM β lp q fu sd sq m1 := h.2.1.c (fun c hc => e1 c (by omega) (by omega))
        refine rg186_0 (n185 rfl hs6 hf hp hM1 (fun _ => ⟨fun _ => ?_, fun r => absurd rfl r⟩) (fun r => absurd hq r))
        have e7 : (7 : Int32) * nI t = nI (7 * t) := pk_mul 7 t
        have key := upI 7 (fun y (m2 : Mi) => fr [53] m1 m2 ∧ ∀ w, w < y → m2 53 w = nI (sq t w)) (fun y m2 => Sg 186 14 [some (.ref 47), some (.int (nI t)), some (.int 0), some (.int (nI y))] [] m2 ml (qi (eqR b (nI (bk β (sq t)))))) ?_ ?_
        · exact key 0 m1 (by decide) ⟨fr.rf, fun w hw => by omega⟩
        · rintro m2 ⟨f2, g2⟩
          refine rg186_14 (pk_le 7 7 (fun _ => ?_) (fun r => by omega))
          obtain ⟨m3, hm3⟩ : ∃ m3, m3 = va_up m2 47 (va_up (m2 47) 11 1) := ⟨_, rfl⟩
          rw [← hm3]
          have f3 : ∀ c, c ≠ 47 → m3 c = m2 c := fun c hc => by rw [hm3, gm_upN hc]
          have k47 : ∀ k, k ≠ 11 → m3 47 k = m1 47 k := fun k hk => by rw [hm3, gm_upS, gm_upN hk, f2 47 (by decide)]
          have e3 : ∀ c, c ≠ 23 → c ≠ 24 → c ≠ 47 → c ≠ 53 → m3 c = mi c := fun c c1 c2 c3 c4 => by rw [f3 c c3, f2 c (by simp [c4]), e1 c c1 c2]
          have hM3 : KM β true (sq t) fu sd sq m3 := ⟨hM1.1.m (k47 5 (by decide)) (k47 6 (by decide)) (k47 7 (by decide)) (k47 8 (by decide)) (k47 9 (by decide)) (by rw [f3 52 (by decide), f2 52 (by decide)]), ⟨by rw [hm3, gm_upS, gm_upS]; rfl, fun w hw => by rw [f3 53 (by decide)]; exact g2 w hw⟩, hM1.2.2.m (k47 28 (by decide)) (by rw [f3 66 (by decide), f2 66 (by decide)]) (by rw [f3 67 (by decide), f2 67 (by decide)]) (by rw [f3 68 (by decide), f2 68 (by decide)]) (by rw [f3 69 (by decide), f2 69 (by decide)])⟩
          have hp3 : PV β true (sq t) fu sd sq := ⟨hp.1, hp.2.1, p2, fun _ => hpc, hp.2.2.2.2⟩
          refine n159 hp3 hM3 ⟨rfl, β, true, sq t, fu, sd, sq, ⟨⟨hp3, ?_, ⟨?_, fun w hw => ?_, fun _ => ?_⟩, ?_⟩, hM3, ?_, ?_, ?_⟩⟩
          · exact h.1.2.1.m (fun c hc => e3 c (by omega) (by omega) (by omega) (by omega))
          · rw [f3 23 (by decide), f2 23 (by decide), a1.1, k1, hf]
          · rw [f3 24 (by decide), f2 24 (by decide)]; exact h24 w hw
          · rw [f3 23 (by decide), f2 23 (by decide), a1.2.1, a1.2.2.1, a1.2.2.2, k2.1, k2.2.1, k2.2.2, hq.1, hq.2.1, hq.2.2]
            exact ⟨rfl, rfl, rfl⟩
          · exact h.1.2.2.2.m (fun c c1 c2 => e3 c (by omega) (by omega) (by omega) (by omega))
          · exact h.2.2.1.m (fun c c1 c2 => e3 c (by omega) (by omega) (by omega) (by omega)) (e3 48 (by decide) (by decide) (by decide) (by decide)) (e3 49 (by decide) (by decide) (by decide) (by decide)) (e3 50 (by decide) (by decide) (by decide) (by decide))
          · rw [e3 0 (by decide) (by decide) (by decide) (by decide), k47 13 (by decide), e1 47 (by decide) (by decide)]; exact h.2.2.2.1
          · rw [e3 0 (by decide) (by decide) (by decide) (by decide), k47 4 (by decide), e1 47 (by decide) (by decide)]; exact h.2.2.2.2
        · rintro y m2 hy ⟨f2, g2⟩ ih
          refine rg186_14 (pk_le 7 y (fun r => by omega) (fun _ => ?_))
          rw [e7, nI_add, nI_1, nI_clamp (by omega), nI_clamp (by omega), f2 66 (by decide), (hM1.2.2.2 t hs6).2 y hy]
          refine ⟨pk_in (7 * t + y) 42 (by omega), pk_in y 7 hy, ih _ ⟨f2.up (by decide), fun w hw => ?_⟩⟩
          rw [gm_upS]
          by_cases hwy : w = y
          · subst hwy; exact gm_upS
          · rw [gm_upN hwy]; exact g2 w (by omega)
      · exact rg186_0 (n185 rfl hs6 hf hp h.2.1 (fun r => absurd r hq) (fun _ => ⟨fun r => absurd r (by decide), fun _ => ⟨rfl, β, lp, q, fu, sd, sq, h⟩⟩))
    · refine c104 (rg186_0 (rg185_0 (c183 (fun _ _ _ => ⟨fun _ => ?_, fun r => absurd (by decide) r⟩) (fun hno => absurd rfl (hno t hs)))))
      have e28 : (va_up mi 0 (va_up (mi 0) 7 1)) 47 28 = nI fu := by rw [gm_upN (by decide)]; exact h.2.1.2.2.1
      rw [e28, nI_i2l (by omega)]
      refine c116 rfl rfl (by omega) (by omega) ?_
      rw [hf]
      exact ⟨fun r => absurd rfl r, fun _ => c120 ⟨fun r => absurd r (by decide), fun _ => ⟨rfl, β, lp, q, fu, sd, sq, h.fnd⟩⟩⟩
  · exact rg93_0 (c105 (fun t ht e => absurd ⟨t, ht, e⟩ hc) (fun _ => ⟨fun _ => c104 (rg186_0 (rg185_0 (c183 (fun s hs e => absurd ⟨s, hs, e⟩ hc) (fun _ => ⟨fun r => absurd rfl r, fun _ => c120 ⟨fun r => absurd r (by decide), fun _ => ⟨rfl, β, lp, q, fu, sd, sq, h.fnd⟩⟩⟩)))), fun r hr => (by cases hr)⟩))
end C73
