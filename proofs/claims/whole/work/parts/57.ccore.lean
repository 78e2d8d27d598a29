/-! the placer: the core marked, all that is marked -/
theorem kq {W y x : Nat} (hx : x < W) : (y * W + x) / W = y := by
  rw [Nat.mul_comm, Nat.mul_add_div (by omega), Nat.div_eq_of_lt hx, Nat.add_zero]
theorem kr {W y x : Nat} (hx : x < W) : (y * W + x) % W = x := by
  rw [Nat.mul_comm, Nat.mul_add_mod, Nat.mod_eq_of_lt hx]
theorem sbE : ∀ b, b < 128 → ∀ x, x < 7 → (sb b x false = b ↔ b.testBit x = false) := by decide +kernel
theorem bmq_lo {β γ : Bd} {p : Nat → Bool} (h1 : γ 1 = β 1) (h2 : γ 2 = β 2) (h3 : γ 3 = β 3) : bmq γ p = bmq β p := by unfold bmq; rw [h1, h2, h3]
theorem CTb.lo {β γ : Bd} {r : Nat} {mi : Mi} {ml : Ml} (h : CTb r β mi ml) (h1 : γ 1 = β 1) (h2 : γ 2 = β 2) (h3 : γ 3 = β 3) : CTb r γ mi ml := by
  show CT r (γ 1) (γ 2) (γ 3) mi ml
  rw [h1, h2, h3]; exact h
/-- the table stays -/
theorem CTb.m {β : Bd} {r : Nat} {mi mi' : Mi} {ml : Ml} (h : CTb r β mi ml) (e0 : mi' r = mi r) (e1 : mi' (r + 1) = mi (r + 1)) (e2 : mi' (r + 2) = mi (r + 2)) : CTb r β mi' ml := by
  refine ⟨?_, h.2⟩
  have := h.1
  unfold TB at this ⊢
  rw [e0, e1, e2]; exact this
theorem fit_row {β γ : Bd} {z b : Nat} (h2 : γ 2 = β 2) (h3 : γ 3 = β 3) (h8 : γ (8 + z) = β (8 + z)) : fit γ z b = fit β z b := by unfold fit; rw [h2, h3, h8]
theorem bs_at {γ : Bd} {y x : Nat} {v : Bool} (hx : x < γ 1) : bs γ (y * γ 1 + x) v = bu γ y (sb (γ (8 + y)) x v) := by unfold bs; rw [kq hx, kr hx]
theorem bt_at {γ : Bd} {y x : Nat} (hx : x < γ 1) : bt γ (y * γ 1 + x) = (γ (8 + y)).testBit x := by unfold bt; rw [kq hx, kr hx]
section C57
variable {β : Bd}
/-- inside markCore -/
def cI (β : Bd) (mi : Mi) (ml : Ml) (y x : Nat) (mi' : Mi) (ml' : Ml) : Prop := fr [14] mi mi' ∧ (∀ c, c ≠ 13 → ml' c = ml c) ∧ (∀ z, z ≤ y → mi' 14 z = nI (coS β (y * β 1 + x) (8 + z))) ∧ ∀ z, z < β 0 → ml' 13 z = lN (bmq β (fit (coS β (y * β 1 + x)) z))
set_option maxHeartbeats 1000000 in
theorem c46s {mi mi' : Mi} {ml ml' : Ml} {F : Mi → Ml → Prop} {y x : Nat} (hβ : Wf β) (hC : Cd β mi) (hP : PcI β mi ml) (hy : y < β 0) (hx : x < β 1) (hI : cI β mi ml y x mi' ml')
    (ih : ∀ m2 l2, cI β mi ml y (x + 1) m2 l2 → Sg 46 45 [some (.ref 3), some (.int (nI y)), some (.int (nI (x + 1))), none, none, none] [] m2 l2 (qv F)) : Sg 46 45 [some (.ref 3), some (.int (nI y)), some (.int (nI x)), none, none, none] [] mi' ml' (qv F) := by
  obtain ⟨g1, g2, g3, g4⟩ := hI
  have hH := hβ.1
  have hW := hβ.2.1
  have hn : β 2 < 8 := by have := hβ.2.2.1; omega
  obtain ⟨γ, hγ⟩ : ∃ γ, γ = coS β (y * β 1 + x) := ⟨_, rfl⟩
  have hk : y * β 1 + x < β 0 * β 1 := by
    have : (y + 1) * β 1 ≤ β 0 * β 1 := Nat.mul_le_mul_right _ hy
    rw [Nat.add_mul, Nat.one_mul] at this
    omega
  have l0 : γ 0 = β 0 := by rw [hγ]; exact coS_lo (by decide) _
  have l1 : γ 1 = β 1 := by rw [hγ]; exact coS_lo (by decide) _
  have l2 : γ 2 = β 2 := by rw [hγ]; exact coS_lo (by decide) _
  have l3 : γ 3 = β 3 := by rw [hγ]; exact coS_lo (by decide) _
  have wγ : Wf γ := by rw [hγ]; exact coS_wf hβ _ (by omega)
  rw [← hγ] at g3 g4
  have hb := wγ.bd (show y < 7 by omega)
  obtain ⟨δ, hδ⟩ : ∃ δ, δ = bu γ y (sb (γ (8 + y)) x false) := ⟨_, rfl⟩
  have d0 : δ 0 = β 0 := by rw [hδ]; exact (gm_upN (by omega)).trans l0
  have d1 : δ 1 = β 1 := by rw [hδ]; exact (gm_upN (by omega)).trans l1
  have d2 : δ 2 = β 2 := by rw [hδ]; exact (gm_upN (by omega)).trans l2
  have d3 : δ 3 = β 3 := by rw [hδ]; exact (gm_upN (by omega)).trans l3
  have dy : δ (8 + y) = sb (γ (8 + y)) x false := by rw [hδ]; exact gm_upS
  have dn : ∀ z, z ≠ y → δ (8 + z) = γ (8 + z) := fun z hz => by rw [hδ]; exact gm_upN (by omega)
  have hbs : bs γ (y * β 1 + x) false = δ := by rw [hδ, ← l1]; exact bs_at (by omega)
  have hbt : bt γ (y * β 1 + x) = (γ (8 + y)).testBit x := by rw [← l1]; exact bt_at (by omega)
  have step : coS β (y * β 1 + (x + 1)) = if (γ (8 + y)).testBit x then if whole δ then γ else δ else γ := by
    rw [← Nat.add_assoc, coS, ← hγ, hbt, hbs]
  have hm : mi' 1 = mi 1 := g1 1 (by decide)
  have h10 : mi' 1 0 = nI (β 0) := by rw [hm]; exact hC.1.1
  have h11 : mi' 1 1 = nI (β 1) := by rw [hm]; exact hC.1.2.1
  have hT : CTb 4 δ mi' ml' := ((hP.2.1.l (g2 7 (by decide))).m (g1 4 (by decide)) (g1 5 (by decide)) (g1 6 (by decide))).lo d1 d2 d3
  refine rg46_45 (pk_le (β 1) x (fun q => by omega) (fun _ => ⟨pk_in y 7 (by omega), ?_⟩) h11 rfl)
  rw [nI_clamp (by omega), g3 y (Nat.le_refl y), sb_f _ hb _ (by omega), nI_1]
  refine pk_ne (sb (γ (8 + y)) x false) (γ (8 + y)) (fun hne => ?_) (fun he => ?_) rfl rfl (by have := sb_l (γ 1) wγ.2.1.2 _ (wγ.2.2.2.2 y (by omega)) x (by omega) false; have := pw7 wγ.2.1.2; omega) (by omega)
  · have hbit : (γ (8 + y)).testBit x = true := by
      cases hq : (γ (8 + y)).testBit x with
      | false => exact absurd ((sbE _ hb _ (by omega)).mpr hq) hne
      | true => rfl
    rw [if_pos hbit] at step
    refine c62 isT4 rfl (by omega) (by omega) hT ?_
    have ey : bm (fun i => sb (γ (8 + y)) x false &&& so (δ 1) (δ 2) (δ 3) i == 0) (tN (δ 1) (δ 2) (δ 3)) = bmq δ (fit δ y) := bm_cong fun i hi => by rw [fit_so hi, dy]
    rw [ey]
    have e1 : mi' 1 0 - 1 = nI (β 0 - 1) := by rw [h10]; exact pk_sub (b := 1) hH.1
    rw [e1]
    have hT2 : CTb 4 δ mi' (va_up ml' 13 (va_up (ml' 13) y (lN (bmq δ (fit δ y))))) := hT.l (gm_upN (by decide))
    refine c35 (β := δ) (f := 0) (t := β 0 - 1) isT4 isJ13 rfl rfl (Nat.zero_le _) (by omega) (by omega) (by omega) hT2 (fun z _ hz => ?_) ?_
    · rw [gm_upS]
      by_cases hzy : z = y
      · subst hzy; exact gm_upS
      · rw [gm_upN hzy, g4 z (by omega), bmq_lo d1 d2 d3]
        congr 1
        exact bm_cong fun i _ => (fit_row (d2.trans l2.symm) (d3.trans l3.symm) (dn z hzy)).symm
    · have hwd : wh δ 0 (β 0 - 1) = whole δ := by unfold whole; rw [d0]
      rw [hwd]
      refine bq (fun hw => ih _ _ ⟨g1.up (by decide), fun c hc => by rw [gm_upN hc]; exact g2 c hc, fun z hz => ?_, fun z hz => ?_⟩) (fun hw => ih _ _ ⟨g1, fun c hc => by rw [gm_upN hc, gm_upN hc]; exact g2 c hc, fun z hz => ?_, fun z hz => ?_⟩)
      · rw [step, if_neg (by rw [hw]; decide)]
        show va_up (mi' 14) y _ z = _
        by_cases hzy : z = y
        · subst hzy; rw [gm_upS, dy]
        · rw [gm_upN hzy, g3 z hz, dn z hzy]
      · rw [step, if_neg (by rw [hw]; decide)]
        show va_up (ml' 13) y _ z = _
        by_cases hzy : z = y
        · subst hzy; rw [gm_upS, bmq_lo d1 d2 d3]
        · rw [gm_upN hzy, g4 z hz]
          congr 1
          exact bm_cong fun i _ => (fit_row (d2.trans l2.symm) (d3.trans l3.symm) (dn z hzy)).symm
      · rw [step, if_pos hw]; exact g3 z hz
      · rw [step, if_pos hw, gm_upS, gm_upS]
        by_cases hzy : z = y
        · subst hzy; rw [gm_upS]; exact g4 z hz
        · rw [gm_upN hzy, gm_upN hzy]; exact g4 z hz
  · have hbit : (γ (8 + y)).testBit x = false := (sbE _ hb _ (by omega)).mp he
    rw [if_neg (by rw [hbit]; decide)] at step
    refine ih mi' ml' ⟨g1, g2, ?_, ?_⟩
    · rw [step]; exact g3
    · rw [step]; exact g4
/-- markCore -/
theorem c46 {mi : Mi} {ml : Ml} {F : Mi → Ml → Prop} (hβ : Wf β) (hC : Cd β mi) (hP : PcI β mi ml) (h : ∀ mi' ml', fr [14] mi mi' → (∀ c, c ≠ 13 → ml' c = ml c) → (∀ y, y < β 0 → mi' 14 y = nI (cor β y)) → F mi' ml') : Sg 46 0 [some (.ref 3), none, none, none, none, none] [] mi ml (qv F) := by
  have hH := hβ.1
  have hW := hβ.2.1
  refine rg46_0 ?_
  have rows : ∀ y (s : Mi × Ml), y ≤ β 0 → (fr [14] mi s.1 ∧ (∀ c, c ≠ 13 → s.2 c = ml c) ∧ (∀ z, z < y → s.1 14 z = nI (coS β (y * β 1) (8 + z))) ∧ ∀ z, z < β 0 → s.2 13 z = lN (bmq β (fit (coS β (y * β 1)) z))) → Sg 46 17 [some (.ref 3), some (.int (nI y)), none, none, none, none] [] s.1 s.2 (qv F) := by
    refine upI (β 0) (fun y (s : Mi × Ml) => fr [14] mi s.1 ∧ (∀ c, c ≠ 13 → s.2 c = ml c) ∧ (∀ z, z < y → s.1 14 z = nI (coS β (y * β 1) (8 + z))) ∧ ∀ z, z < β 0 → s.2 13 z = lN (bmq β (fit (coS β (y * β 1)) z))) (fun y s => Sg 46 17 [some (.ref 3), some (.int (nI y)), none, none, none, none] [] s.1 s.2 (qv F)) ?_ ?_
    · rintro ⟨m1, l1⟩ ⟨g1, g2, g3, g4⟩
      exact rg46_17 (pk_le (β 0) (β 0) (fun _ => h m1 l1 g1 g2 g3) (fun q => by omega) (by show m1 1 0 = _; rw [show m1 1 = mi 1 from g1 1 (by decide)]; exact hC.1.1) rfl)
    · rintro y ⟨m1, l1⟩ hy ⟨g1, g2, g3, g4⟩ ih
      refine rg46_17 (pk_le (β 0) y (fun q => by omega) (fun _ => ⟨pk_in y 7 (by omega), ?_⟩) (by show m1 1 0 = _; rw [show m1 1 = mi 1 from g1 1 (by decide)]; exact hC.1.1) rfl)
      have e2 : m1 2 y = nI (β (8 + y)) := by rw [show m1 2 = mi 2 from g1 2 (by decide)]; exact hC.2 y (by omega)
      have key := upI (β 1) (fun x (s : Mi × Ml) => cI β mi ml y x s.1 s.2) (fun x s => Sg 46 45 [some (.ref 3), some (.int (nI y)), some (.int (nI x)), none, none, none] [] s.1 s.2 (qv F)) ?_ ?_
      · refine key 0 (_, _) (Nat.zero_le _) ⟨g1.up (by decide), g2, fun z hz => ?_, g4⟩
        show va_up (m1 14) (Int32.toNatClampNeg (nI y)) (m1 2 (Int32.toNatClampNeg (nI y))) z = _
        rw [nI_clamp (by omega), e2, Nat.add_zero]
        by_cases hzy : z = y
        · subst hzy
          have : z * β 1 ≤ β 0 * β 1 := Nat.mul_le_mul_right _ (by omega)
          rw [gm_upS, coS_row _ (Nat.le_refl _) this]
        · rw [gm_upN hzy]; exact g3 z (by omega)
      · rintro ⟨m2, l2⟩ ⟨f1, f2, f3, f4⟩
        refine rg46_45 (pk_le (β 1) (β 1) (fun _ => ?_) (fun q => by omega) (by show m2 1 1 = _; rw [show m2 1 = mi 1 from f1 1 (by decide)]; exact hC.1.2.1) rfl)
        rw [nI_1]
        have e : y * β 1 + β 1 = (y + 1) * β 1 := by rw [Nat.add_mul, Nat.one_mul]
        rw [e] at f3 f4
        exact ih (m2, l2) ⟨f1, f2, fun z hz => f3 z (by omega), f4⟩
      · rintro x ⟨m2, l2⟩ hx hI ihx
        exact c46s hβ hC hP hy hx hI (fun m3 l3 q => ihx (m3, l3) q)
  have e7 : (Int32.toNatClampNeg 7) = 7 := by decide
  have e0 : (Int32.toNatClampNeg 0) = 0 := by decide
  rw [e7, e0]
  refine rows 0 (_, _) (Nat.zero_le _) ⟨fr.rf, fun c hc => gm_upN hc, fun z hz => by omega, fun z hz => ?_⟩
  show va_up ml 13 (va_cpy (ml 8) (ml 13) 0 0 7) 13 z = _
  rw [gm_upS, pk_cpy_in (Nat.zero_le z) (by omega), Nat.zero_mul]
  show ml 8 (0 + (z - 0)) = _
  rw [Nat.zero_add, Nat.sub_zero]
  exact hP.2.2 z hz
/-- whole rows are whole in parts -/
theorem rc_sub {f : Nat} : ∀ d b, rc β 0 (f + d) b = true → rc β f d b = true
  | 0, b, h => by have := rc_fit h; rw [Nat.zero_add] at this; exact this
  | d + 1, b, h => by
    rw [show f + (d + 1) = (f + d) + 1 from rfl, rc, Bool.and_eq_true, Nat.zero_add] at h
    rw [rc, Bool.and_eq_true]
    refine ⟨h.1, ?_⟩
    obtain ⟨a, ha, h2⟩ := anyB_iff.mp h.2
    rw [Bool.and_eq_true] at h2
    exact anyB_iff.mpr ⟨a, ha, by rw [rc_sub d a h2.1, h2.2]; rfl⟩
theorem wh_sub (hw : whole β = true) {f d : Nat} (hfd : f + d < β 0) : wh β f (f + d) = true := by
  have h1 : anyB (rc β 0 (f + d)) (2 ^ (β 1)) = true := by
    cases hq : anyB (rc β 0 (f + d)) (2 ^ (β 1)) with
    | true => rfl
    | false =>
      have := rc_none hq (β 0 - 1 - (f + d))
      rw [show f + d + (β 0 - 1 - (f + d)) = β 0 - 1 - 0 by omega] at this
      unfold whole wh at hw
      rw [this] at hw; cases hw
  unfold wh
  rw [show f + d - f = d by omega]
  obtain ⟨b, hb, h2⟩ := anyB_iff.mp h1
  exact anyB_iff.mpr ⟨b, hb, rc_sub d b h2⟩
theorem wtd_whole (hw : whole β = true) : wtd β = β 0 := fsN_no fun d hd => by
  rw [allB_iff.mpr fun y hy => wh_sub hw (by omega)]; rfl
/-- what is marked -/
def corW (β : Bd) (y : Nat) : Nat := if whole β then 0 else cor β y
def criW (β : Bd) (y : Nat) : Nat := if whole β then cri β y else 0
def PmI (β : Bd) (mi : Mi) : Prop := (mi 3 10 = wt0 β ∧ mi 3 11 = wt1 β) ∧ ∀ y, y < β 0 → mi 14 y = nI (corW β y) ∧ mi 15 y = nI (criW β y)
theorem PcI.m {mi mi' : Mi} {ml ml' : Ml} (h : PcI β mi ml) (e9 : mi' 3 9 = mi 3 9) (e4 : mi' 4 = mi 4) (e5 : mi' 5 = mi 5) (e6 : mi' 6 = mi 6) (l7 : ml' 7 = ml 7) (l8 : ml' 8 = ml 8) : PcI β mi' ml' :=
  ⟨e9.trans h.1, (h.2.1.l l7).m e4 e5 e6, fun y hy => by rw [l8]; exact h.2.2 y hy⟩
/-- what marking may change -/
def pM (mi mi' : Mi) (ml ml' : Ml) : Prop := (∀ c, c ∉ [3, 14, 15] → mi' c = mi c) ∧ (∀ k, k ≠ 10 → k ≠ 11 → k ≠ 13 → mi' 3 k = mi 3 k) ∧ ∀ c, c ≠ 13 → ml' c = ml c
theorem pM.rf {mi : Mi} {ml : Ml} : pM mi mi ml ml := ⟨fun _ _ => rfl, fun _ _ _ _ => rfl, fun _ _ => rfl⟩
set_option maxHeartbeats 1000000 in
/-- refreshMarks -/
theorem c43 {mi : Mi} {ml : Ml} {F : Mi → Ml → Prop} (hβ : Wf β) (hC : Cd β mi) (hP : PcI β mi ml) (hv : mi 3 13 = mi 1 5 → PmI β mi)
    (h : ∀ mi' ml', pM mi mi' ml ml' → mi' 3 13 = mi 1 5 → PmI β mi' → F mi' ml') : Sg 43 0 [some (.ref 3)] [] mi ml (qv F) := by
  have hH := hβ.1
  refine rg43_0 ⟨fun _ => ?_, fun q => h mi ml pM.rf (Decidable.not_not.mp q) (hv (Decidable.not_not.mp q))⟩
  refine c198 (n := 7) rfl (by decide) ?_
  refine c198 (n := 7) rfl (by decide) ?_
  obtain ⟨m1, hm1⟩ : ∃ m1, m1 = va_up (va_up (va_up mi 3 (va_up (mi 3) 13 (mi 1 5))) 14 (fl ((va_up mi 3 (va_up (mi 3) 13 (mi 1 5))) 14) 7 0)) 15 (fl ((va_up (va_up mi 3 (va_up (mi 3) 13 (mi 1 5))) 14 (fl ((va_up mi 3 (va_up (mi 3) 13 (mi 1 5))) 14) 7 0)) 15) 7 0) := ⟨_, rfl⟩
  rw [← hm1]
  have a3 : m1 3 = va_up (mi 3) 13 (mi 1 5) := by rw [hm1]; rfl
  have a14 : ∀ y, y < 7 → m1 14 y = 0 := fun y hy => by rw [hm1]; exact if_pos hy
  have a15 : ∀ y, y < 7 → m1 15 y = 0 := fun y hy => by rw [hm1]; exact if_pos hy
  have ac : ∀ c, c ∉ [3, 14, 15] → m1 c = mi c := fun c hc => by
    simp only [List.mem_cons, not_or, List.not_mem_nil, not_false_eq_true, and_true] at hc
    rw [hm1, gm_upN hc.2.2, gm_upN hc.2.1, gm_upN hc.1]
  obtain ⟨m2, hm2⟩ : ∃ m2, m2 = va_up m1 3 (va_up (va_up (m1 3) 10 (-1)) 11 (-1)) := ⟨_, rfl⟩
  rw [← hm2]
  have b3 : m2 3 = va_up (va_up (va_up (mi 3) 13 (mi 1 5)) 10 (-1)) 11 (-1) := by rw [hm2, gm_upS, a3]
  have bn : ∀ c, c ≠ 3 → m2 c = m1 c := fun c hc => by rw [hm2, gm_upN hc]
  have bc : ∀ c, c ∉ [3, 14, 15] → m2 c = mi c := fun c hc => by
    rw [bn c (fun e => hc (by rw [e]; decide))]; exact ac c hc
  have b9 : m1 3 9 = bI (whole β) := by rw [a3, gm_upN (by decide)]; exact hP.1
  have hC2 : Cd β m2 := by unfold Cd; rw [bc 1 (by decide), bc 2 (by decide)]; exact hC
  have hP2 : PcI β m2 ml := hP.m (by rw [b3]; rfl) (bc 4 (by decide)) (bc 5 (by decide)) (bc 6 (by decide)) rfl rfl
  have b13 : m2 3 13 = mi 1 5 := by rw [b3]; rfl
  have bk : ∀ k, k ≠ 10 → k ≠ 11 → k ≠ 13 → m2 3 k = mi 3 k := fun k k1 k2 k3 => by rw [b3, gm_upN k2, gm_upN k1, gm_upN k3]
  rw [b9]
  refine bq (fun hw => ?_) (fun hw => ?_)
  · refine c45 hβ hC2 hP2 (by rw [b3]; rfl) (by rw [b3]; rfl) (fun m3 f1 f2 f3 f4 => ?_)
    have hC3 : Cd β m3 := by unfold Cd; rw [f1 1 (by decide), f1 2 (by decide)]; exact hC2
    have hP3 : PcI β m3 ml := hP2.m (f2 9 (by decide) (by decide)) (f1 4 (by decide)) (f1 5 (by decide)) (f1 6 (by decide)) rfl rfl
    refine c46 hβ hC3 hP3 (fun m4 l4 q1 q2 q3 => h m4 l4 ⟨fun c hc => ?_, fun k k1 k2 k3 => ?_, q2⟩ ?_ ⟨⟨?_, ?_⟩, fun y hy => ⟨?_, ?_⟩⟩)
    · have hc' := hc
      simp only [List.mem_cons, not_or, List.not_mem_nil, not_false_eq_true, and_true] at hc'
      rw [q1 c (by simp [hc'.2.1]), f1 c hc'.1]; exact bc c hc
    · rw [q1 3 (by decide), f2 k k1 k2]; exact bk k k1 k2 k3
    · rw [q1 3 (by decide), f2 13 (by decide) (by decide)]; exact b13
    · rw [q1 3 (by decide)]; exact f3
    · rw [q1 3 (by decide)]; exact f4
    · rw [q3 y hy]; unfold corW; rw [hw]; rfl
    · rw [q1 15 (by decide), f1 15 (by decide), bn 15 (by decide), a15 y (by omega)]; unfold criW; rw [hw]; rfl
  · have ed := wtd_whole hw
    refine c44 hβ hC2 hP2 (fun m4 l4 q1 q2 q3 => h m4 l4 ⟨fun c hc => ?_, fun k k1 k2 k3 => ?_, q2⟩ ?_ ⟨⟨?_, ?_⟩, fun y hy => ⟨?_, ?_⟩⟩)
    · have hc' := hc
      simp only [List.mem_cons, not_or, List.not_mem_nil, not_false_eq_true, and_true] at hc'
      rw [q1 c (by simp [hc'.2.2])]; exact bc c hc
    · rw [q1 3 (by decide)]; exact bk k k1 k2 k3
    · rw [q1 3 (by decide)]; exact b13
    · rw [q1 3 (by decide), b3]; unfold wt0; rw [if_pos ed]; rfl
    · rw [q1 3 (by decide), b3]; unfold wt1; rw [if_pos ed]; rfl
    · rw [q1 14 (by decide), bn 14 (by decide), a14 y (by omega)]; unfold corW; rw [hw]; rfl
    · rw [q3 y hy]; unfold criW; rw [hw]; rfl
end C57
