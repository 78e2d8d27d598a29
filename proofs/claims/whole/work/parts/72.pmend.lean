/-! pairs: mend, slots -/
section C72
variable {b : Nat} {mi : Mi} {ml : Ml}
set_option maxHeartbeats 1000000 in
theorem p80 (hR : Rel b mi ml) : Sg 80 0 [some (.ref 0), none] [] mi ml (qi fun v m l => Sg 151 0 [some (.ref 47), none, none] [] m l (qi (eqR b v))) := by
  obtain ⟨β, lp, q, fu, sd, sq, h⟩ := hR
  have hp := h.1.1
  have hH := hp.1.1
  have hW := hp.1.2.1
  have hn := hp.n7
  have h2W : 2 ^ β 1 ≤ 128 := pw7 hW.2
  obtain ⟨g, hg⟩ : ∃ g, g = gof lp q (β 2) := ⟨_, rfl⟩
  have hle : few β g ≤ 1000000 := mn_MU (sp (β 2)) (cs β g (β 0 - 1)) (2 ^ (β 1))
  have hfw := few_wh (g := g) hp.1
  refine rg80_0 (q49 (g := g) h.1.2.1 (by rw [hg]; exact h.1.sy) (fun m1 l1 f1 c1 hP hMV => ?_))
  have hK1 : KC b β lp q fu sd sq m1 l1 := h.1.qy f1 c1
  have hM1 : KM β lp q fu sd sq m1 := h.2.1.cc f1
  -- the model up to its fewest
  have mo : ∀ (m : Mi) (l : Ml) (A : Int32), (∀ c, 47 ≤ c → m c = m1 c) → (∀ m3, mk m m3 → MT β m3 → fr [60] m3 m3 → (∀ y b, y < β 0 → b < 2 ^ (β 1) → sp (β 2) b = true → m3 60 (40 * y + sx (β 2) b) = nI (cs β g (β 0 - 1 - y) b)) → ((few β g < 1000000) → Sg 150 0 [some (.ref 47), some (.int (nI (few β g))), none, none, none, none, none] [] m3 l (qv fun mi8 ml9 => Sg 151 25 [some (.ref 47), some (.int (nI (few β g))), some (.int 0)] [] mi8 ml9 (qi (eqR b A)))) ∧ (¬ few β g < 1000000 → eqR b A (-3) m3 l)) → Sg 151 0 [some (.ref 47), none, none] [] m l (qi (eqR b A)) := by
    intro m l A e g1
    have hM2 : KM β lp q fu sd sq m := hM1.c e
    refine rg151_0 (n142 hp hM2 (fun m2 f2 t2 => ?_))
    refine c149 (g := g) (hM2.k f2).1 hp.1 t2 (by rw [hg]; exact (hM2.k f2).sn hp) (fun m3 f3 hco => ?_)
    have := g1 m3 (f2.tr (f3.mk (by decide))) (t2.f f3 (by decide) (by decide) (by decide) (by decide) (by decide)) fr.rf hco
    exact pk_lt (few β g) 1000000 this.1 (fun r => this.2 (by omega))
  cases hw : whole β with
  | false =>
    rw [if_neg (by decide)]
    refine ⟨fun r => absurd rfl r, fun _ => mo m1 l1 (-3) (fun _ _ => rfl) (fun m3 k3 _ _ _ => ⟨fun r => ?_, fun _ => ⟨rfl, β, lp, q, fu, sd, sq, h.qy f1 hK1 k3⟩⟩)⟩
    have := hfw.mp r
    rw [hw] at this; cases this
  | true =>
    have hf : few β g < 1000000 := hfw.mpr hw
    have ok := cho_ok hH.1 hf
    rw [if_pos rfl]
    refine ⟨fun _ => ?_, fun r => ?_⟩
    · refine c54 (g := g) hp.1 hK1.cd hP hw (hMV hw) (fun m2 f2 d2 s2 o2 => ?_)
      obtain ⟨m3, hm3⟩ : ∃ m3, m3 = va_up m2 0 (va_up (m2 0) 6 ((m2 0 6) + nI (few β g))) := ⟨_, rfl⟩
      rw [← hm3]
      have f3 : ∀ c, c ≠ 0 → m3 c = m2 c := fun c hc => by rw [hm3, gm_upN hc]
      have e3 : ∀ c, c ≠ 0 → c ≠ 23 → c ≠ 24 → m3 c = m1 c := fun c c1 c2 c3 => by rw [f3 c c1, f2 c (by simp [c2, c3])]
      refine mo m3 l1 _ (fun c hc => e3 c (by omega) (by omega) (by omega)) (fun m4 k4 t4 _ hco => ⟨fun _ => ?_, fun r => absurd hf r⟩)
      have hM3 : KM β lp q fu sd sq m3 := hM1.c (fun c hc => e3 c (by omega) (by omega) (by omega))
      have hM4 := hM3.k k4
      refine c150 (g := g) rfl hM4.1 hp.1 t4 (by rw [hg]; exact hM4.sn hp) hf hco (fun m5 f5 hch => ?_)
      have k5 : mk m3 m5 := k4.tr (f5.mk (by decide))
      have hM5 := hM3.k k5
      have key := upI (β 0) (fun y (m6 : Mi) => fr [53] m5 m6 ∧ (∀ w, w < y → m6 53 w = nI (cho β g w)) ∧ ∀ w, β 0 ≤ w → m6 53 w = m5 53 w) (fun y m6 => Sg 151 25 [some (.ref 47), some (.int (nI (few β g))), some (.int (nI y))] [] m6 l1 (qi (eqR b (nI (few β g))))) ?_ ?_
      · exact key 0 m5 (Nat.zero_le _) ⟨fr.rf, fun w hw => by omega, fun _ _ => rfl⟩
      · rintro m6 ⟨f6, g6, o6⟩
        refine rg151_25 (pk_le (β 0) (β 0) (fun _ => ?_) (fun r => by omega) (by rw [f6 47 (by decide)]; exact hM5.1.1.1) rfl)
        obtain ⟨m7, hm7⟩ : ∃ m7, m7 = va_up m6 47 (va_up (va_up (m6 47) 11 1) 13 ((m6 47 13) + nI (few β g))) := ⟨_, rfl⟩
        rw [← hm7]
        have f7 : ∀ c, c ≠ 47 → m7 c = m6 c := fun c hc => by rw [hm7, gm_upN hc]
        have e47 : m7 47 = va_up (va_up (m5 47) 11 1) 13 ((m5 47 13) + nI (few β g)) := by rw [hm7, gm_upS, f6 47 (by decide)]
        have lo7 : ∀ c, c < 47 → m7 c = m3 c := fun c hc => by rw [f7 c (by omega), f6 c (by simp; omega), mk_lo k5 c hc]
        have hq : ∀ w, (fun y => if y < β 0 then cho β g y else q y) w = if w < β 0 then cho β g w else q w := fun _ => rfl
        refine ⟨rfl, β, true, fun y => if y < β 0 then cho β g y else q y, fu, sd, sq, ⟨⟨⟨hp.1, hp.2.1, fun w hw => ?_, fun _ w hw => ?_, hp.2.2.2.2⟩, ?_, ⟨?_, fun w hw => ?_, fun _ => ?_⟩, ?_⟩, ⟨?_, ⟨?_, fun w hw => ?_⟩, ?_⟩, ?_, ?_, ?_⟩⟩
        · show (if w < β 0 then cho β g w else q w) < 128
          split
          · have := (ok w (by omega)).1; omega
          · exact hp.2.2.1 w hw
        · show pcn (if w < β 0 then cho β g w else q w) = β 2
          rw [if_pos hw]
          exact sp_iff.mp (cho_cs (ok w hw).2.1).1
        · exact hK1.2.1.m1 (fun c c1 c2 => by rw [lo7 c (by omega), e3 c (by omega) (by omega) (by omega)])
        · rw [lo7 23 (by decide), f3 23 (by decide)]; exact d2.1
        · rw [lo7 24 (by decide), f3 24 (by decide)]
          show _ = nI (if w < β 0 then cho β g w else q w)
          split
          · rename_i hlt; exact s2 w hlt
          · rename_i hge; rw [o2 w (by omega)]; exact hK1.2.2.1.2.1 w hw
        · rw [lo7 23 (by decide), f3 23 (by decide)]; exact d2.2
        · exact hK1.2.2.2.m (fun c c1 c2 => by rw [lo7 c (by omega), e3 c (by omega) (by omega) (by omega)])
        · refine hM5.1.m ?_ ?_ ?_ ?_ ?_ ?_
          · rw [e47]; rfl
          · rw [e47]; rfl
          · rw [e47]; rfl
          · rw [e47]; rfl
          · rw [e47]; rfl
          · rw [f7 52 (by decide), f6 52 (by decide)]
        · rw [e47]; rfl
        · rw [f7 53 (by decide)]
          show _ = nI (if w < β 0 then cho β g w else q w)
          split
          · rename_i hlt; exact g6 w hlt
          · rename_i hge; rw [o6 w (by omega)]; exact hM5.2.1.2 w hw
        · refine hM5.2.2.m ?_ ?_ ?_ ?_ ?_
          · rw [e47]; rfl
          · rw [f7 66 (by decide), f6 66 (by decide)]
          · rw [f7 67 (by decide), f6 67 (by decide)]
          · rw [f7 68 (by decide), f6 68 (by decide)]
          · rw [f7 69 (by decide), f6 69 (by decide)]
        · have hc : ∀ c, 25 ≤ c → c ≠ 47 → c ∉ mS → c ≠ 53 → m7 c = mi c := fun c c1 c2 c3 c4 => by
            rw [f7 c c2, f6 c (by simp [c4]), k5.1 c c3 c2, e3 c (by omega) (by omega) (by omega), ck_hi f1 c (by omega)]
          exact h.2.2.1.m (fun c c1 c2 => hc c (by omega) (by omega) (by intro q; simp only [mS, List.mem_cons, List.not_mem_nil, or_false] at q; omega) (by omega)) (hc 48 (by decide) (by decide) (by decide) (by decide)) (hc 49 (by decide) (by decide) (by decide) (by decide)) (hc 50 (by decide) (by decide) (by decide) (by decide))
        · have a0 : m7 0 6 = mi 0 6 + nI (few β g) := by
            rw [lo7 0 (by decide), hm3, gm_upS, gm_upS, f2 0 (by decide), f1 0 (by decide)]
          have a1 : m7 47 13 = mi 47 13 + nI (few β g) := by
            rw [e47, gm_upS, k5.2 13 (by decide) (by decide), e3 47 (by decide) (by decide) (by decide), ck_hi f1 47 (by decide)]
          rw [a0, a1, h.2.2.2.1]
        · have a0 : m7 0 7 = mi 0 7 := by
            rw [lo7 0 (by decide), hm3, gm_upS, gm_upN (by decide), f2 0 (by decide), f1 0 (by decide)]
          have a1 : m7 47 4 = mi 47 4 := by
            rw [e47, gm_upN (by decide), gm_upN (by decide), k5.2 4 (by decide) (by decide), e3 47 (by decide) (by decide) (by decide), ck_hi f1 47 (by decide)]
          rw [a0, a1, h.2.2.2.2]
      · rintro y m6 hy ⟨f6, g6, o6⟩ ih
        refine rg151_25 (pk_le (β 0) y (fun r => by omega) (fun _ => ⟨pk_in y 7 (by omega), ?_⟩) (by rw [f6 47 (by decide)]; exact hM5.1.1.1) rfl)
        rw [nI_1, nI_clamp (by omega), f6 61 (by decide), hch y hy]
        refine ih _ ⟨f6.up (by decide), fun w hw => ?_, fun w hw => ?_⟩
        · rw [gm_upS]
          by_cases hwy : w = y
          · subst hwy; exact gm_upS
          · rw [gm_upN hwy]; exact g6 w (by omega)
        · rw [gm_upS, gm_upN (by omega)]; exact o6 w hw
    · exfalso
      have h0 : ¬ nI (few β g) < 0 := nI_pos (by omega)
      rw [Decidable.not_not.mp r] at h0
      exact h0 (by decide)
end C72
