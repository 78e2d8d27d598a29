/-! the placer: whether there is a placing -/
def bmq (β : Bd) (p : Nat → Bool) : Nat := bm (fun i => p (so (β 1) (β 2) (β 3) i)) (tN (β 1) (β 2) (β 3))
abbrev CTb (r : Nat) (β : Bd) (mi : Mi) (ml : Ml) : Prop := CT r (β 1) (β 2) (β 3) mi ml
theorem fit_tp {β : Bd} {y b : Nat} (h : fit β y b = true) : tp (β 2) (β 3) b = true := by
  unfold fit at h
  simp only [Bool.and_eq_true] at h
  unfold tp
  rw [h.1, h.2.1]; rfl
theorem rc_tp {β : Bd} {f d b : Nat} (h : rc β f d b = true) : tp (β 2) (β 3) b = true := fit_tp (rc_fit h)
theorem fit_so {β : Bd} {y i : Nat} (hi : i < tN (β 1) (β 2) (β 3)) : fit β y (so (β 1) (β 2) (β 3) i) = (β (8 + y) &&& so (β 1) (β 2) (β 3) i == 0) := by
  have h := tp_sp (so_ok hi).2.1
  unfold fit
  rw [h.1, h.2, Bool.true_and, Bool.true_and]
/-- quantified over seats that fit -/
theorem so_anyQ {β : Bd} {p : Nat → Bool} (h : ∀ b, p b = true → tp (β 2) (β 3) b = true) : anyB (fun i => p (so (β 1) (β 2) (β 3) i)) (tN (β 1) (β 2) (β 3)) = anyB p (2 ^ (β 1)) := by
  rw [so_any]
  refine anyB_cong fun b _ => ?_
  cases hp : p b with
  | false => simp
  | true => rw [h b hp]; rfl
theorem so_ctQ {β : Bd} {p : Nat → Bool} (h : ∀ b, p b = true → tp (β 2) (β 3) b = true) : fb_ct (fun i => p (so (β 1) (β 2) (β 3) i)) (tN (β 1) (β 2) (β 3)) = fb_ct p (2 ^ (β 1)) := by
  rw [so_ct]
  refine fb_ct_cong fun b _ => ?_
  cases hp : p b with
  | false => simp
  | true => rw [h b hp]; rfl
theorem bmq_62 {β : Bd} (hn : β 2 < 8) (hw : β 1 ≤ 7) (p : Nat → Bool) : bmq β p < 2 ^ 36 := bm_36 _ (tN_35 hn hw)
theorem bmq_0 {β : Bd} {p : Nat → Bool} (h : ∀ b, p b = true → tp (β 2) (β 3) b = true) : bmq β p = 0 ↔ anyB p (2 ^ (β 1)) = false := by
  unfold bmq
  rw [bm_0, so_anyQ h]
/-- once nothing is reached -/
theorem rc_none {β : Bd} {f d : Nat} (h : anyB (rc β f d) (2 ^ (β 1)) = false) : ∀ e, anyB (rc β f (d + e)) (2 ^ (β 1)) = false
  | 0 => h
  | e + 1 => by
    have ih := rc_none h e
    refine anyB_false.mpr fun b hb => ?_
    rw [show d + (e + 1) = (d + e) + 1 from rfl, rc]
    have : anyB (fun a => rc β f (d + e) a && mt (β 3) (β 2) a b) (2 ^ (β 1)) = false := anyB_false.mpr fun a ha => by
      rw [anyB_false.mp ih a ha]; rfl
    rw [this, Bool.and_false]
/-- the next row -/
theorem rc_next {β : Bd} {f d : Nat} : bm (fun j => fit β (f + (d + 1)) (so (β 1) (β 2) (β 3) j)) (tN (β 1) (β 2) (β 3)) &&& bm (fun j => anyB (fun i => rc β f d (so (β 1) (β 2) (β 3) i) && mt (β 3) (β 2) (so (β 1) (β 2) (β 3) i) (so (β 1) (β 2) (β 3) j)) (tN (β 1) (β 2) (β 3))) (tN (β 1) (β 2) (β 3)) = bmq β (rc β f (d + 1)) := by
  rw [bm_and]
  unfold bmq
  refine bm_cong fun j _ => ?_
  rw [rc]
  congr 1
  exact so_anyQ (p := fun a => rc β f d a && mt (β 3) (β 2) a (so (β 1) (β 2) (β 3) j)) (fun b hb => by rw [Bool.and_eq_true] at hb; exact rc_tp hb.1)
section C53
variable {β : Bd}
/-- canPlace -/
theorem c35 {mi : Mi} {ml : Ml} {F : Int32 → Mi → Ml → Prop} {r0 r1 f t : Nat} {x y : Int32} (h0 : isT r0) (h1 : isJ r1) (hx : x = nI f) (hy : y = nI t) (hft : f ≤ t) (ht : t < 7) (hw : β 1 ≤ 7) (hn : β 2 < 8) (hT : CTb r0 β mi ml) (hR : ∀ y, f ≤ y → y ≤ t → ml r1 y = lN (bmq β (fit β y))) (h : F (bI (wh β f t)) mi ml) : Sg 35 0 [some (.ref r0), some (.ref r1), some (.int x), some (.int y), none, none, none] [] mi ml (qi F) := by
  subst hx hy
  refine rg35_0 h0 h1 ⟨pk_in f 7 (by omega), ?_⟩
  rw [nI_clamp (by omega), hR f (Nat.le_refl f) hft, nI_1]
  have fin : ∀ d (x6 : Int32), f + d ≤ t → (f + d = t ∨ anyB (rc β f d) (2 ^ (β 1)) = false) → Sg 35 42 [some (.ref r0), some (.ref r1), some (.int (nI f)), some (.int (nI t)), some (.long (lN (bmq β (rc β f d)))), none, some (.int x6)] [] mi ml (qi F) := by
    intro d x6 hd hor
    refine rg35_42 h0 h1 ?_
    have hb := bmq_62 hn hw (rc β f d)
    rw [lz (by omega), bmq_0 (fun b hb => rc_tp hb)]
    have hwh : anyB (rc β f d) (2 ^ (β 1)) = wh β f t := by
      rcases hor with q | q
      · unfold wh; rw [show t - f = d by omega]
      · unfold wh
        have := rc_none q (t - f - d)
        rw [show d + (t - f - d) = t - f by omega] at this
        rw [q, this]
    rw [hwh]
    refine ⟨fun q => ?_, fun q => ?_⟩
    · rw [q] at h; exact h
    · rw [show wh β f t = true by simpa using q] at h; exact h
  have key : ∀ g d, f + d + g = t → Sg 35 10 [some (.ref r0), some (.ref r1), some (.int (nI f)), some (.int (nI t)), some (.long (lN (bmq β (rc β f d)))), none, some (.int (nI (f + d + 1)))] [] mi ml (qi F) := by
    intro g
    induction g with
    | zero =>
      intro d hd
      exact rg35_10 h0 h1 (pk_lt t (f + d + 1) (fun _ => fin d _ (by omega) (Or.inl (by omega))) (fun q => by omega))
    | succ g ih =>
      intro d hd
      have hb := bmq_62 hn hw (rc β f d)
      have hb2 := bmq_62 hn hw (fit β (f + d + 1))
      refine rg35_10 h0 h1 (pk_lt t (f + d + 1) (fun q => by omega) (fun _ => ?_))
      rw [lz (by omega), bmq_0 (fun b hb => rc_tp hb)]
      refine ⟨fun q => fin d _ (by omega) (Or.inr q), fun q => ⟨pk_in (f + d + 1) 7 (by omega), ?_⟩⟩
      refine c63 (p := fun i => rc β f d (so (β 1) (β 2) (β 3) i)) h0 rfl hw hn hT ?_
      rw [nI_clamp (by omega), hR (f + d + 1) (by omega) (by omega), nI_1]
      have l2 := bm_62 (fun j => anyB (fun i => rc β f d (so (β 1) (β 2) (β 3) i) && mt (β 3) (β 2) (so (β 1) (β 2) (β 3) i) (so (β 1) (β 2) (β 3) j)) (tN (β 1) (β 2) (β 3))) (tN_35 (len := β 3) hn hw)
      rw [wb_and (by omega) (by omega)]
      have e := rc_next (β := β) (f := f) (d := d)
      have e' : bmq β (fit β (f + d + 1)) &&& bm (fun j => anyB (fun i => rc β f d (so (β 1) (β 2) (β 3) i) && mt (β 3) (β 2) (so (β 1) (β 2) (β 3) i) (so (β 1) (β 2) (β 3) j)) (tN (β 1) (β 2) (β 3))) (tN (β 1) (β 2) (β 3)) = bmq β (rc β f (d + 1)) := e
      rw [e']
      exact ih (d + 1) (by omega)
  exact key (t - f) 0 (by omega)
/-- canPlaceBy -/
theorem c34 {mi : Mi} {ml : Ml} {F : Int32 → Mi → Ml → Prop} {r0 r1 : Nat} (h0 : isT r0) (h1 : isJ r1) (hne : r1 ≠ r0 + 3) (hβ : (1 ≤ β 0 ∧ β 0 ≤ 7) ∧ β 1 ≤ 7 ∧ β 2 < 8) (hT : CTb r0 β mi ml) (hh : mi 1 0 = nI (β 0)) (hC : ∀ y, y < 7 → mi 2 y = nI (β (8 + y))) (h : ∀ ml', (∀ c, c ≠ r1 → ml' c = ml c) → (∀ y, y < β 0 → ml' r1 y = lN (bmq β (fit β y))) → F (bI (whole β)) mi ml') : Sg 34 0 [some (.ref 3), some (.ref r0), some (.ref r1), none] [] mi ml (qi F) := by
  obtain ⟨hH, hw, hn⟩ := hβ
  refine rg34_0 h0 h1 ?_
  have key : ∀ y ml', y ≤ β 0 → ((∀ c, c ≠ r1 → ml' c = ml c) ∧ ∀ z, z < y → ml' r1 z = lN (bmq β (fit β z))) → Sg 34 2 [some (.ref 3), some (.ref r0), some (.ref r1), some (.int (nI y))] [] mi ml' (qi F) := by
    refine upI (β 0) (fun y (ml' : Ml) => (∀ c, c ≠ r1 → ml' c = ml c) ∧ ∀ z, z < y → ml' r1 z = lN (bmq β (fit β z))) (fun y ml' => Sg 34 2 [some (.ref 3), some (.ref r0), some (.ref r1), some (.int (nI y))] [] mi ml' (qi F)) ?_ ?_
    · rintro ml' ⟨g1, g2⟩
      refine rg34_2 h0 h1 (pk_le (β 0) (β 0) (fun _ => ?_) (fun q => by omega) hh rfl)
      have hT' : CTb r0 β mi ml' := ⟨hT.1, fun i hi => by rw [g1 (r0 + 3) (fun e => hne e.symm)]; exact hT.2 i hi⟩
      have e : mi 1 0 - 1 = nI (β 0 - 1) := by rw [hh]; exact pk_sub (b := 1) hH.1
      rw [e]
      exact c35 (f := 0) (t := β 0 - 1) h0 h1 rfl rfl (Nat.zero_le _) (by omega) hw hn hT' (fun y _ hy => g2 y (by omega)) ⟨bI_01 _, h ml' g1 g2⟩
    · rintro y ml' hy ⟨g1, g2⟩ ih
      have hT' : CTb r0 β mi ml' := ⟨hT.1, fun i hi => by rw [g1 (r0 + 3) (fun e => hne e.symm)]; exact hT.2 i hi⟩
      refine rg34_2 h0 h1 (pk_le (β 0) y (fun q => by omega) (fun _ => ⟨pk_in y 7 (by omega), ?_⟩) hh rfl)
      rw [nI_clamp (by omega), hC y (by omega)]
      refine c62 h0 rfl hw hn hT' ?_
      rw [nI_1]
      refine ih _ ⟨fun c hc => by rw [gm_upN hc]; exact g1 c hc, fun z hz => ?_⟩
      rw [gm_upS]
      by_cases hzy : z = y
      · subst hzy
        rw [gm_upS]
        congr 1
        exact bm_cong fun i hi => (fit_so hi).symm
      · rw [gm_upN hzy]; exact g2 z (by omega)
  exact key 0 ml (Nat.zero_le _) ⟨fun _ _ => rfl, fun z hz => by omega⟩
theorem isT4 : isT 4 := ⟨rfl, rfl, rfl, rfl, rfl, rfl, rfl⟩
theorem isT9 : isT 9 := ⟨rfl, rfl, rfl, rfl, rfl, rfl, rfl⟩
theorem isJ8 : isJ 8 := rfl
theorem isJ13 : isJ 13 := rfl
/-- what the placer keeps -/
def PcI (β : Bd) (mi : Mi) (ml : Ml) : Prop := mi 3 9 = bI (whole β) ∧ CTb 4 β mi ml ∧ ∀ y, y < β 0 → ml 8 y = lN (bmq β (fit β y))
/-- what a refresh may change -/
def pR (mi mi' : Mi) (ml ml' : Ml) : Prop := (∀ c, c ∉ [3, 4, 5, 6] → mi' c = mi c) ∧ (∀ k, k ≠ 9 → k ≠ 12 → mi' 3 k = mi 3 k) ∧ ∀ c, c ∉ [7, 8] → ml' c = ml c
theorem pR.rf {mi : Mi} {ml : Ml} : pR mi mi ml ml := ⟨fun _ _ => rfl, fun _ _ _ => rfl, fun _ _ => rfl⟩
/-- refresh -/
theorem c33 {mi : Mi} {ml : Ml} {F : Mi → Ml → Prop} (hβ : Wf β) (h3 : β 3 ≤ 7) (hC : Cd β mi) (hv : mi 3 12 = mi 1 5 → PcI β mi ml) (hT : TI 4 mi ml)
    (h : ∀ mi' ml', pR mi mi' ml ml' → mi' 3 12 = mi 1 5 → PcI β mi' ml' → F mi' ml') : Sg 33 0 [some (.ref 3)] [] mi ml (qv F) := by
  have hH := hβ.1
  have hW := hβ.2.1
  have hn : β 2 < 8 := by have := hβ.2.2.1; omega
  refine rg33_0 ⟨fun _ => ?_, fun q => h mi ml pR.rf (Decidable.not_not.mp q) (hv (Decidable.not_not.mp q))⟩
  refine c56 (w := β 1) (n := β 2) (len := β 3) isT4 hC.1.2.1 hC.1.2.2.1 hC.1.2.2.2.1 hW hn h3 ?_ (fun m1 l1 g1 g2 g3 => ?_)
  · rcases hT with q | ⟨w, n, len, q1, q2, q3, q4⟩
    · exact Or.inl q
    · exact Or.inr ⟨w, n, len, q1, q2, q3, q4⟩
  · have e1 : m1 1 = mi 1 := g1 1 (by decide) (by decide) (by decide)
    have e2 : m1 2 = mi 2 := g1 2 (by decide) (by decide) (by decide)
    have e3 : m1 3 = va_up (mi 3) 12 (mi 1 5) := by rw [g1 3 (by decide) (by decide) (by decide), gm_upS]
    refine c34 (β := β) isT4 isJ8 (by decide) ⟨hH, hW.2, hn⟩ g3 (by rw [e1]; exact hC.1.1) (fun y hy => by rw [e2]; exact hC.2 y hy) (fun l2 q1 q2 => ⟨bI_01 _, ?_⟩)
    refine h _ l2 ⟨fun c hc => ?_, fun k k9 k12 => ?_, fun c hc => ?_⟩ ?_ ⟨?_, ?_, q2⟩
    · simp only [List.mem_cons, not_or, List.not_mem_nil, not_false_eq_true, and_true] at hc
      rw [gm_upN hc.1, g1 c hc.2.1 hc.2.2.1 hc.2.2.2, gm_upN hc.1]
    · rw [gm_upS, gm_upN k9, e3, gm_upN k12]
    · simp only [List.mem_cons, not_or, List.not_mem_nil, not_false_eq_true, and_true] at hc
      rw [q1 c hc.2]; exact g2 c hc.1
    · rw [gm_upS, gm_upN (by decide), e3, gm_upS]
    · rw [gm_upS, gm_upS]
    · exact ⟨g3.1, fun i hi => by rw [q1 7 (by decide)]; exact g3.2 i hi⟩
/-- isWhole -/
theorem c36 {mi : Mi} {ml : Ml} {F : Int32 → Mi → Ml → Prop} (hβ : Wf β) (h3 : β 3 ≤ 7) (hC : Cd β mi) (hv : mi 3 12 = mi 1 5 → PcI β mi ml) (hT : TI 4 mi ml)
    (h : ∀ mi' ml', pR mi mi' ml ml' → mi' 3 12 = mi 1 5 → PcI β mi' ml' → F (bI (whole β)) mi' ml') : Sg 36 0 [some (.ref 3)] [] mi ml (qi F) :=
  rg36_0 (c33 hβ h3 hC hv hT (fun mi' ml' a b c => by rw [c.1]; exact ⟨bI_01 _, h mi' ml' a b c⟩))
theorem ct_bmq {p : Nat → Bool} (hw : β 1 ≤ 7) (hn : β 2 < 8) (h : ∀ b, p b = true → tp (β 2) (β 3) b = true) : ct (bmq β p) 40 = fb_ct p (2 ^ (β 1)) := by
  unfold bmq
  rw [bm_ct (by have := tN_35 (len := β 3) hn hw; omega), so_ctQ h]
/-- seatsOfRow -/
theorem c37 {mi : Mi} {ml : Ml} {F : Int32 → Mi → Ml → Prop} {x : Int32} {y : Nat} (hx : x = nI y) (hy : y < β 0) (hβ : Wf β) (h3 : β 3 ≤ 7) (hC : Cd β mi) (hv : mi 3 12 = mi 1 5 → PcI β mi ml) (hT : TI 4 mi ml)
    (h : ∀ mi' ml', pR mi mi' ml ml' → mi' 3 12 = mi 1 5 → PcI β mi' ml' → F (nI (fb_ct (fit β y) (2 ^ (β 1)))) mi' ml') : Sg 37 0 [some (.ref 3), some (.int x)] [] mi ml (qi F) := by
  subst hx
  have hH := hβ.1
  have hW := hβ.2.1
  have hn : β 2 < 8 := by have := hβ.2.2.1; omega
  refine rg37_0 (c33 hβ h3 hC hv hT (fun mi' ml' a b c => ⟨pk_in y 7 (by omega), ?_⟩))
  rw [nI_clamp (by omega), c.2.2 y hy]
  refine c195 rfl (by have := bmq_62 hn hW.2 (fit β y); omega) ?_
  rw [ct_bmq hW.2 hn (fun b hb => fit_tp hb)]
  exact h mi' ml' a b c
/-- seatsOfAllRows -/
theorem c38 {mi : Mi} {ml : Ml} {F : Int32 → Mi → Ml → Prop} (hβ : Wf β) (h3 : β 3 ≤ 7) (hC : Cd β mi) (hv : mi 3 12 = mi 1 5 → PcI β mi ml) (hT : TI 4 mi ml)
    (h : ∀ mi' ml', pR mi mi' ml ml' → mi' 3 12 = mi 1 5 → PcI β mi' ml' → F (nI (sm (fun y => fb_ct (fit β y) (2 ^ (β 1))) (β 0))) mi' ml') : Sg 38 0 [some (.ref 3), none, none] [] mi ml (qi F) := by
  have hH := hβ.1
  have hW := hβ.2.1
  have hn : β 2 < 8 := by have := hβ.2.2.1; omega
  refine rg38_0 (c33 hβ h3 hC hv hT (fun mi' ml' a b c => ?_))
  have h10 : mi' 1 0 = nI (β 0) := by rw [a.1 1 (by decide)]; exact hC.1.1
  refine upP (β 0) (fun y => Sg 38 8 [some (.ref 3), some (.int (nI (sm (fun y => fb_ct (fit β y) (2 ^ (β 1))) y))), some (.int (nI y))] [] mi' ml' (qi F)) ?_ ?_ 0 (Nat.zero_le _)
  · exact rg38_8 (pk_le (β 0) (β 0) (fun _ => h mi' ml' a b c) (fun q => by omega) h10 rfl)
  · intro y hy ih
    refine rg38_8 (pk_le (β 0) y (fun q => by omega) (fun _ => ⟨pk_in y 7 (by omega), ?_⟩) h10 rfl)
    rw [nI_clamp (by omega), c.2.2 y hy]
    refine c195 rfl (by have := bmq_62 hn hW.2 (fit β y); omega) ?_
    rw [ct_bmq hW.2 hn (fun b hb => fit_tp hb), nI_1, nI_add]
    exact ih
end C53
