/-! the placer: least length, greatest wish; the witness -/
/-- what a trial may change -/
def pL (mi mi' : Mi) (ml ml' : Ml) : Prop := (∀ c, c ∉ [9, 10, 11] → mi' c = mi c) ∧ ∀ c, c ∉ [12, 13] → ml' c = ml c
theorem pL.rf {mi : Mi} {ml : Ml} : pL mi mi ml ml := ⟨fun _ _ => rfl, fun _ _ => rfl⟩
theorem pL.tr {m1 m2 m3 : Mi} {l1 l2 l3 : Ml} (h1 : pL m1 m2 l1 l2) (h2 : pL m2 m3 l2 l3) : pL m1 m3 l1 l3 := ⟨fun c hc => (h2.1 c hc).trans (h1.1 c hc), fun c hc => (h2.2 c hc).trans (h1.2 c hc)⟩
section C54
variable {β : Bd}
/-- one trial -/
theorem c56t {mi : Mi} {ml : Ml} {F : Int32 → Mi → Ml → Prop} {γ : Bd} {x y z : Int32} (hβ : Wf β) (hC : Cd β mi) (hγ0 : γ 0 = β 0) (hγ1 : γ 1 = β 1) (hγ8 : ∀ y, γ (8 + y) = β (8 + y)) (hx : x = nI (γ 1)) (hy : y = nI (γ 2)) (hz : z = nI (γ 3)) (hn : γ 2 < 8) (hlen : γ 3 ≤ 7) (hT : TI 9 mi ml) (h : ∀ mi' ml', pL mi mi' ml ml' → TI 9 mi' ml' → F (bI (whole γ)) mi' ml') :
    Sg 56 0 [some (.ref 9), some (.int x), some (.int y), some (.int z), none] [] mi ml (qv fun mi2 ml3 => Sg 34 0 [some (.ref 3), some (.ref 9), some (.ref 13), none] [] mi2 ml3 (qi F)) := by
  have hH := hβ.1
  have hW := hβ.2.1
  refine c56 isT9 hx hy hz (by rw [hγ1]; exact hW) hn hlen hT (fun m1 l1 g1 g2 g3 => ?_)
  have e1 : m1 1 = mi 1 := g1 1 (by decide) (by decide) (by decide)
  have e2 : m1 2 = mi 2 := g1 2 (by decide) (by decide) (by decide)
  refine c34 (β := γ) isT9 isJ13 (by decide) ⟨by rw [hγ0]; exact hH, by rw [hγ1]; exact hW.2, hn⟩ g3 (by rw [e1, hγ0]; exact hC.1.1) (fun y hy => by rw [e2, hγ8]; exact hC.2 y hy) (fun l2 q1 q2 => ?_)
  refine h m1 l2 ⟨fun c hc => ?_, fun c hc => ?_⟩ (Or.inr ⟨γ 1, γ 2, γ 3, by rw [hγ1]; exact hW, hn, hlen, g3.1, fun i hi => by rw [q1 12 (by decide)]; exact g3.2 i hi⟩)
  · simp only [List.mem_cons, not_or, List.not_mem_nil, not_false_eq_true, and_true] at hc
    exact g1 c hc.1 hc.2.1 hc.2.2
  · simp only [List.mem_cons, not_or, List.not_mem_nil, not_false_eq_true, and_true] at hc
    rw [q1 c hc.2]; exact g2 c hc.1
theorem Cd.pL {mi mi' : Mi} {ml ml' : Ml} (h : Cd β mi) (hf : pL mi mi' ml ml') : Cd β mi' := by
  unfold Cd
  rw [hf.1 1 (by decide), hf.1 2 (by decide)]
  exact h
/-- leastLength -/
theorem c47 {mi : Mi} {ml : Ml} {F : Int32 → Mi → Ml → Prop} (hβ : Wf β) (hC : Cd β mi) (hT : TI 9 mi ml) (h : ∀ mi' ml', pL mi mi' ml ml' → TI 9 mi' ml' → F (ls0 β) mi' ml') : Sg 47 0 [some (.ref 3), none] [] mi ml (qi F) := by
  have hW := hβ.2.1
  have hn : β 2 < 8 := by have := hβ.2.2.1; omega
  refine rg47_0 ?_
  have key : ∀ v (s : Mi × Ml), v ≤ 7 → (pL mi s.1 ml s.2 ∧ TI 9 s.1 s.2 ∧ ∀ u, u < v → whole (va_up β 3 u) = false) → Sg 47 2 [some (.ref 3), some (.int (nI v))] [] s.1 s.2 (qi F) := by
    refine upI 7 (fun v (s : Mi × Ml) => pL mi s.1 ml s.2 ∧ TI 9 s.1 s.2 ∧ ∀ u, u < v → whole (va_up β 3 u) = false) (fun v s => Sg 47 2 [some (.ref 3), some (.int (nI v))] [] s.1 s.2 (qi F)) ?_ ?_
    · rintro ⟨m1, l1⟩ ⟨g1, g2, g3⟩
      refine rg47_2 (pk_lt 6 7 (fun _ => ?_) (fun q => by omega))
      have e : lsv β = 7 := fsN_no g3
      have := h m1 l1 g1 g2
      unfold ls0 at this
      rw [if_pos e] at this
      exact this
    · rintro v ⟨m1, l1⟩ hv ⟨g1, g2, g3⟩ ih
      have hC1 := hC.pL g1
      refine rg47_2 (pk_lt 6 v (fun q => by omega) (fun _ => ?_))
      refine c56t (β := β) (γ := va_up β 3 v) hβ hC1 (gm_upN (by decide)) (gm_upN (by decide)) (fun y => gm_upN (by omega)) (by rw [gm_upN (by decide)]; exact hC1.1.2.1) (by rw [gm_upN (by decide)]; exact hC1.1.2.2.1) (by rw [gm_upS]) (by rw [gm_upN (by decide)]; exact hn) (by rw [gm_upS]; omega) g2 (fun m2 l2 q1 q2 => ?_)
      rw [nI_1]
      refine bq (fun hq => ih (m2, l2) ⟨g1.tr q1, q2, fun u hu => ?_⟩) (fun hq => ?_)
      · rcases Nat.lt_succ_iff_lt_or_eq.mp hu with r | r
        · exact g3 u r
        · subst r; exact hq
      · have e : lsv β = v := fsN_eq hv hq g3
        have := h m2 l2 (g1.tr q1) q2
        unfold ls0 at this
        rw [e, if_neg (by omega)] at this
        exact this
  exact key 0 (mi, ml) (by omega) ⟨pL.rf, hT, fun u hu => by omega⟩
/-- greatestWish -/
theorem c48 {mi : Mi} {ml : Ml} {F : Int32 → Mi → Ml → Prop} (hβ : Wf β) (h3 : β 3 ≤ 7) (hC : Cd β mi) (hT : TI 9 mi ml) (h : ∀ mi' ml', pL mi mi' ml ml' → TI 9 mi' ml' → F (ls1 β) mi' ml') : Sg 48 0 [some (.ref 3), none] [] mi ml (qi F) := by
  have hW := hβ.2.1
  refine rg48_0 ?_
  rw [hC.1.2.1]
  have key : ∀ v (s : Mi × Ml), v ≤ β 1 → (pL mi s.1 ml s.2 ∧ TI 9 s.1 s.2 ∧ ∀ u, u < v → whole (va_up β 2 (β 1 - u)) = false) → Sg 48 8 [some (.ref 3), some (.int (nI (β 1 - v)))] [] s.1 s.2 (qi F) := by
    refine upI (β 1) (fun v (s : Mi × Ml) => pL mi s.1 ml s.2 ∧ TI 9 s.1 s.2 ∧ ∀ u, u < v → whole (va_up β 2 (β 1 - u)) = false) (fun v s => Sg 48 8 [some (.ref 3), some (.int (nI (β 1 - v)))] [] s.1 s.2 (qi F)) ?_ ?_
    · rintro ⟨m1, l1⟩ ⟨g1, g2, g3⟩
      refine rg48_8 (pk_lt (β 1 - β 1) 1 (fun _ => ?_) (fun q => by omega))
      have e : lsw β = β 1 := fsN_no g3
      have := h m1 l1 g1 g2
      unfold ls1 at this
      rw [if_pos e] at this
      exact this
    · rintro v ⟨m1, l1⟩ hv ⟨g1, g2, g3⟩ ih
      have hC1 := hC.pL g1
      refine rg48_8 (pk_lt (β 1 - v) 1 (fun q => by omega) (fun _ => ?_))
      refine c56t (β := β) (γ := va_up β 2 (β 1 - v)) hβ hC1 (gm_upN (by decide)) (gm_upN (by decide)) (fun y => gm_upN (by omega)) (by rw [gm_upN (by decide)]; exact hC1.1.2.1) (by rw [gm_upS]) (by rw [gm_upN (by decide)]; exact hC1.1.2.2.2.1) (by rw [gm_upS]; omega) (by rw [gm_upN (by decide)]; exact h3) g2 (fun m2 l2 q1 q2 => ?_)
      rw [nI_m1 (by omega)]
      refine bq (fun hq => ?_) (fun hq => ?_)
      · rw [show β 1 - v - 1 = β 1 - (v + 1) by omega]
        refine ih (m2, l2) ⟨g1.tr q1, q2, fun u hu => ?_⟩
        rcases Nat.lt_succ_iff_lt_or_eq.mp hu with r | r
        · exact g3 u r
        · subst r; exact hq
      · have e : lsw β = v := fsN_eq hv hq g3
        have := h m2 l2 (g1.tr q1) q2
        unfold ls1 at this
        rw [e, if_neg (by omega)] at this
        exact this
  exact key 0 (mi, ml) (Nat.zero_le _) ⟨pL.rf, hT, fun u hu => by omega⟩
/-- markWitness -/
theorem c45 {mi : Mi} {ml : Ml} {F : Mi → Ml → Prop} (hβ : Wf β) (hC : Cd β mi) (hP : PcI β mi ml) (h10 : mi 3 10 = -1) (h11 : mi 3 11 = -1) (h : ∀ mi', (∀ c, c ≠ 3 → mi' c = mi c) → (∀ k, k ≠ 10 → k ≠ 11 → mi' 3 k = mi 3 k) → mi' 3 10 = wt0 β → mi' 3 11 = wt1 β → F mi' ml) : Sg 45 0 [some (.ref 3), none, none] [] mi ml (qv F) := by
  have hH := hβ.1
  have hW := hβ.2.1
  have hn : β 2 < 8 := by have := hβ.2.2.1; omega
  refine rg45_0 ?_
  refine upP (β 0) (fun d => (∀ e, e < d → allB (fun y => wh β y (y + e)) (β 0 - e) = true) → Sg 45 2 [some (.ref 3), some (.int (nI (d + 1))), none] [] mi ml (qv F)) ?_ ?_ 0 (Nat.zero_le _) (fun e he => by omega)
  · intro g2
    refine rg45_2 (pk_lt (β 0) (β 0 + 1) (fun _ => ?_) (fun q => by omega) hC.1.1 rfl)
    have hd : wtd β = β 0 := fsN_no fun e he => by rw [g2 e he]; rfl
    refine h mi (fun _ _ => rfl) (fun _ _ _ => rfl) ?_ ?_
    · unfold wt0; rw [if_pos hd]; exact h10
    · unfold wt1; rw [if_pos hd]; exact h11
  · intro d hd ihd g2
    refine rg45_2 (pk_lt (β 0) (d + 1) (fun q => by omega) (fun _ => ?_) hC.1.1 rfl)
    refine upP (β 0 - d) (fun y => (∀ z, z < y → wh β z (z + d) = true) → Sg 45 15 [some (.ref 3), some (.int (nI (d + 1))), some (.int (nI y))] [] mi ml (qv F)) ?_ ?_ 0 (Nat.zero_le _) (fun z hz => by omega)
    · intro f2
      refine rg45_15 (pk_lt (β 0) (β 0 - d + (d + 1)) (fun _ => ?_) (fun q => by omega) hC.1.1 (nI_add _ _))
      rw [nI_1]
      refine ihd (fun e he => ?_)
      rcases Nat.lt_succ_iff_lt_or_eq.mp he with q | q
      · exact g2 e q
      · subst q; exact allB_iff.mpr f2
    · intro y hy ihy f2
      refine rg45_15 (pk_lt (β 0) (y + (d + 1)) (fun q => by omega) (fun _ => ?_) hC.1.1 (nI_add _ _))
      have e1 : nI y + nI (d + 1) - 1 = nI (y + d) := by rw [nI_add]; exact nI_pred (y + d)
      rw [e1, nI_1]
      refine c35 (β := β) (f := y) (t := y + d) isT4 isJ8 rfl rfl (by omega) (by omega) hW.2 hn hP.2.1 (fun z _ hz => hP.2.2 z (by omega)) ?_
      refine bqn (fun hw => ihy (fun z hz => ?_)) (fun hw => ?_)
      · rcases Nat.lt_succ_iff_lt_or_eq.mp hz with q | q
        · exact f2 z q
        · subst q; exact hw
      · have hd' : wtd β = d := by
          refine fsN_eq hd ?_ (fun e he => by rw [g2 e he]; rfl)
          rw [Bool.not_eq_true']
          cases ha : allB (fun y => wh β y (y + d)) (β 0 - d) with
          | false => rfl
          | true => rw [allB_iff.mp ha y hy] at hw; cases hw
        have hy' : wty β = y := by
          unfold wty
          rw [hd']
          exact fsN_eq hy (by rw [hw]; rfl) (fun z hz => by rw [f2 z hz]; rfl)
        refine h _ (fun c hc => gm_upN hc) (fun k k10 k11 => by rw [gm_upS, gm_upN k11, gm_upN k10]) ?_ ?_
        · rw [gm_upS, gm_upN (by decide), gm_upS]
          unfold wt0
          rw [hd', hy', if_neg (by omega)]
        · rw [gm_upS, gm_upS]
          unfold wt1
          rw [hd', hy', if_neg (by omega)]
end C54
