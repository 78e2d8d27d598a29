/-! pairs: seat, mend, slots -/
section C71
variable {b : Nat} {mi : Mi} {ml : Ml}
theorem CI.m1 {b : Nat} {β : Bd} {mi mi' : Mi} {ml : Ml} (h : CI b β mi ml) (e : ∀ c, 1 ≤ c → c < 23 → mi' c = mi c) : CI b β mi' ml := by
  have h2 : CI b β (va_up mi' 0 (mi 0)) ml := h.m (fun c hc => by
    by_cases h0 : c = 0
    · subst h0; exact gm_upS
    · rw [gm_upN h0]; exact e c (by omega) hc)
  obtain ⟨k1, k2, k3, k4, ⟨k5, k6, k7⟩, k8, k9⟩ := h2
  have ne : ∀ c, c ≠ 0 → va_up mi' 0 (mi 0) c = mi' c := fun c hc => gm_upN hc
  refine ⟨k1, k2, ?_, ?_, ⟨fun r => ?_, fun r => ?_, fun r => ?_⟩, ?_, ?_⟩
  · unfold Cd at k3 ⊢; rw [ne 1 (by decide), ne 2 (by decide)] at k3; exact k3
  · unfold VI at k4 ⊢; rw [ne 1 (by decide), ne 3 (by decide), ne 18 (by decide)] at k4; exact k4
  · rw [← ne 1 (by decide), ← ne 3 (by decide)] at r
    exact (k5 r).m (by rw [ne 3 (by decide)]) (ne 4 (by decide)).symm (ne 5 (by decide)).symm (ne 6 (by decide)).symm rfl rfl
  · rw [← ne 1 (by decide), ← ne 3 (by decide)] at r
    exact (k6 r).m (by rw [ne 3 (by decide)]) (by rw [ne 3 (by decide)]) (ne 14 (by decide)).symm (ne 15 (by decide)).symm
  · rw [← ne 1 (by decide), ← ne 18 (by decide)] at r
    exact (k7 r).m (by rw [ne 18 (by decide)]) rfl
  · exact k8.m (ne 4 (by decide)).symm (ne 5 (by decide)).symm (ne 6 (by decide)).symm rfl
  · exact k9.m (ne 9 (by decide)).symm (ne 10 (by decide)).symm (ne 11 (by decide)).symm rfl
theorem p82 {x z : Int32} (hR : Rel b mi ml) : Sg 82 0 [some (.ref 0), some (.int x), some (.int z), none] [] mi ml (qi fun v m l => Sg 154 0 [some (.ref 47), some (.int x), some (.int z), none] [] m l (qi (eqR b v))) := by
  obtain ⟨β, lp, q, fu, sd, sq, h⟩ := hR
  have hp := h.1.1
  have hH := hp.1.1
  have hW := hp.1.2.1
  have hn := hp.n7
  have hC := h.1.cd
  have hM := h.2.1.1
  have fin : Rel b mi ml := ⟨β, lp, q, fu, sd, sq, h⟩
  have h2W : 2 ^ β 1 ≤ 128 := pw7 hW.2
  have h2p : 1 ≤ 2 ^ β 1 := Nat.two_pow_pos _
  have eW : (1 : Int32) <<< (mi 1 1 &&& 31) = nI (2 ^ β 1) := by rw [hC.1.2.1]; exact shl_N _ (by omega)
  have eM : ((1 : Int32) <<< (mi 47 6 &&& 31)) - 1 = nI (2 ^ β 1 - 1) := by rw [hM.1.2.1]; exact shl_m1 _ (by omega)
  by_cases hcy : ∃ y, y < β 0 ∧ x = nI y
  · obtain ⟨y, hy, rfl⟩ := hcy
    by_cases hcv : ∃ v, v < 2 ^ β 1 ∧ z = nI v
    · obtain ⟨v, hv, rfl⟩ := hcv
      refine rg82_0 (c6 hC.1.1 hH.2 (fun _ _ _ => ⟨fun r => absurd r (by decide), fun _ => pk_lt v 0 (fun r => by omega) (fun _ => pk_le (2 ^ β 1) v (fun r => by omega) (fun _ => c194 rfl (by omega) ?_) eW rfl)⟩) (fun hno => absurd rfl (hno y hy)))
      have head : ∀ (m : Mi) (A : Int32), (∀ c, 47 ≤ c → m c = mi c) → (pcn v ≠ β 2 → eqR b A (-2) m ml) → (pcn v = β 2 → ((¬ (m 47 11) = 0) → Sg 148 0 [some (.ref 47), some (.int (nI y)), some (.int (nI v)), none, none] [] m ml (qi fun y10 mi11 ml12 => (vp_in (nI y) 7) ∧ (eqR b A y10 (va_up mi11 53 (va_up (mi11 53) (Int32.toNatClampNeg (nI y)) (nI v))) ml12))) ∧ (¬ (¬ (m 47 11) = 0) → eqR b A (-3) m ml)) → Sg 154 0 [some (.ref 47), some (.int (nI y)), some (.int (nI v)), none] [] m ml (qi (eqR b A)) := by
        intro m A e g1 g2
        have e47 := e 47 (by decide)
        refine rg154_0 (c129 (H := β 0) (by rw [e47]; exact hM.1.1) hH (fun _ _ _ => ⟨fun r => absurd r (by decide), fun _ => ?_⟩) (fun hno => absurd rfl (hno y hy)))
        rw [e47, eM]
        refine c114c 0 (2 ^ β 1 - 1) (fun _ _ _ _ => ⟨fun r => absurd r (by decide), fun _ => ?_⟩) (fun hno => absurd rfl (hno v (Nat.zero_le _) (by omega)))
        refine c119 (n := v) (nI_i2l (by omega)) (by omega) ?_
        rw [ct49 (by omega)]
        exact pk_eq (pcn v) (β 2) (fun r => g2 r) (fun r => g1 r) rfl (by rw [e47]; exact hM.1.2.2.1) (by have := pcn_le v; omega) (by omega)
      refine pk_eq (pcn v) (β 2) (fun hpc => ?_) (fun hpc => head mi (-2) (fun _ _ => rfl) (fun _ => ⟨rfl, fin⟩) (fun r => absurd r hpc)) rfl hC.1.2.2.1 (by have := pcn_le v; omega) (by omega)
      rw [h.1.2.2.1.1]
      refine bqn (fun hl => ⟨pk_in y 7 (by omega), ?_⟩) (fun hl => ?_)
      · rw [nI_clamp (by omega), h.1.2.2.1.2.1 y (by omega)]
        refine c112 rfl rfl hC.1.2.2.1 (by have := hp.2.2.1 y (by omega); omega) (by omega) (by omega) ?_
        obtain ⟨m1, hm1⟩ : ∃ m1, m1 = va_up mi 24 (va_up (mi 24) y (nI v)) := ⟨_, rfl⟩
        rw [← hm1]
        have f1 : fr [24] mi m1 := by rw [hm1]; exact fr.rf.up (by decide)
        have hM1 : KM β lp q fu sd sq m1 := h.2.1.c (fun c hc => f1 c (by simp; omega))
        refine head m1 _ (fun c hc => f1 c (by simp; omega)) (fun r => absurd hpc r) (fun _ => ⟨fun _ => ?_, fun r => ?_⟩)
        · refine c148 (g := gof lp q (β 2)) rfl rfl (by omega) (by omega) hn hM1.1.1.2.2.1 (hM1.sn hp) ⟨pk_in y 7 (by omega), ?_⟩
          rw [nI_clamp (by omega)]
          have eg : gof lp q (β 2) y = q y := by unfold gof; rw [hl]; rfl
          refine ⟨by rw [eg], β, lp, va_up q y v, fu, sd, sq, ⟨⟨⟨hp.1, hp.2.1, fun w hw => ?_, fun _ w hw => ?_, hp.2.2.2.2⟩, ?_, ?_, ?_⟩, ⟨?_, ?_, ?_⟩, ?_, ?_, ?_⟩⟩
          · by_cases hwy : w = y
            · subst hwy; rw [gm_upS]; omega
            · rw [gm_upN hwy]; exact hp.2.2.1 w hw
          · by_cases hwy : w = y
            · subst hwy; rw [gm_upS]; exact hpc
            · rw [gm_upN hwy]; exact hp.2.2.2.1 hl w hw
          · exact h.1.2.1.m (fun c hc => by rw [gm_upN (by omega), f1 c (by simp; omega)])
          · refine ⟨?_, fun w hw => ?_, fun hl2 => ?_⟩
            · rw [gm_upN (by decide), f1 23 (by decide)]; exact h.1.2.2.1.1
            · rw [gm_upN (by decide), hm1, gm_upS]
              by_cases hwy : w = y
              · subst hwy; rw [gm_upS, gm_upS]
              · rw [gm_upN hwy, gm_upN hwy]; exact h.1.2.2.1.2.1 w hw
            · rw [gm_upN (by decide), f1 23 (by decide)]; exact h.1.2.2.1.2.2 hl2
          · exact h.1.2.2.2.m (fun c c1 c2 => by rw [gm_upN (by omega), f1 c (by simp; omega)])
          · exact hM1.1.m rfl rfl rfl rfl rfl (gm_upN (by decide))
          · refine ⟨hM1.2.1.1, fun w hw => ?_⟩
            rw [gm_upS]
            by_cases hwy : w = y
            · subst hwy; rw [gm_upS, gm_upS]
            · rw [gm_upN hwy, gm_upN hwy]; exact hM1.2.1.2 w hw
          · exact hM1.2.2.m rfl (gm_upN (by decide)) (gm_upN (by decide)) (gm_upN (by decide)) (gm_upN (by decide))
          · exact h.2.2.1.m (fun c c1 c2 => by rw [gm_upN (by omega), f1 c (by simp; omega)]) (by rw [gm_upN (by decide), f1 48 (by decide)]) (by rw [gm_upN (by decide), f1 49 (by decide)]) (by rw [gm_upN (by decide), f1 50 (by decide)])
          · rw [gm_upN (by decide), gm_upN (by decide), f1 0 (by decide), f1 47 (by decide)]; exact h.2.2.2.1
          · rw [gm_upN (by decide), gm_upN (by decide), f1 0 (by decide), f1 47 (by decide)]; exact h.2.2.2.2
        · rw [hM1.2.1.1, hl] at r
          exact absurd (by decide) r
      · refine head mi _ (fun _ _ => rfl) (fun r => absurd hpc r) (fun _ => ⟨fun r => ?_, fun _ => ⟨rfl, fin⟩⟩)
        rw [h.2.1.2.1.1, hl] at r
        exact absurd rfl r
    · have no : Sg 154 0 [some (.ref 47), some (.int (nI y)), some (.int z), none] [] mi ml (qi (eqR b (-2 : Int32))) := by
        refine rg154_0 (c129 hM.1.1 hH (fun _ _ _ => ⟨fun r => absurd r (by decide), fun _ => ?_⟩) (fun hno => absurd rfl (hno y hy)))
        rw [eM]
        exact c114c 0 (2 ^ β 1 - 1) (fun s _ hs e => absurd ⟨s, by omega, e⟩ hcv) (fun _ => ⟨fun _ => ⟨rfl, fin⟩, fun r => absurd rfl r⟩)
      refine rg82_0 (c6 hC.1.1 hH.2 (fun _ _ _ => ⟨fun r => absurd r (by decide), fun _ => ⟨fun _ => no, fun r => ?_⟩⟩) (fun hno => absurd rfl (hno y hy)))
      obtain ⟨j, hj, rfl⟩ := nI_of r
      exact pk_le (2 ^ β 1) j (fun _ => no) (fun r => absurd ⟨j, r, rfl⟩ hcv) eW rfl
  · exact rg82_0 (c6 hC.1.1 hH.2 (fun s hs e => absurd ⟨s, hs, e⟩ hcy) (fun _ => ⟨fun _ => rg154_0 (c129 hM.1.1 hH (fun s hs e => absurd ⟨s, hs, e⟩ hcy) (fun _ => ⟨fun _ => ⟨rfl, fin⟩, fun r => absurd rfl r⟩)), fun r => absurd rfl r⟩))
end C71
