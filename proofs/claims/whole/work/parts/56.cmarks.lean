/-! the placer: what is marked -/
section C56
variable {β : Bd}
/-- only trial sets change -/
theorem CTb.l {mi : Mi} {ml ml' : Ml} (h : CTb 4 β mi ml) (e : ml' 7 = ml 7) : CTb 4 β mi ml' := ⟨h.1, fun i hi => by rw [e]; exact h.2 i hi⟩
set_option maxHeartbeats 1000000 in
/-- markCritical -/
theorem c44 {mi : Mi} {ml : Ml} {F : Mi → Ml → Prop} (hβ : Wf β) (hC : Cd β mi) (hP : PcI β mi ml) (h : ∀ mi' ml', fr [15] mi mi' → (∀ c, c ≠ 13 → ml' c = ml c) → (∀ y, y < β 0 → mi' 15 y = nI (cri β y)) → F mi' ml') : Sg 44 0 [some (.ref 3), none, none] [] mi ml (qv F) := by
  have hH := hβ.1
  have hW := hβ.2.1
  have hn : β 2 < 8 := by have := hβ.2.2.1; omega
  have e1 : mi 1 0 - 1 = nI (β 0 - 1) := by rw [hC.1.1]; exact pk_sub (b := 1) hH.1
  have b36 : ∀ p, bmq β p < 2 ^ 36 := fun p => bmq_62 hn hW.2 p
  refine rg44_0 ?_
  rw [e1]
  -- the columns
  have cols : ∀ ml', (∀ c, c ≠ 13 → ml' c = ml c) → (∀ y, y < β 0 → ml' 13 y = lN (bmq β (fbk β y))) → ∀ y mi', y ≤ β 0 → (fr [15] mi mi' ∧ ∀ z, z < y → mi' 15 z = nI (cri β z)) → Sg 44 103 [some (.ref 3), some (.int (nI (β 0 - 1))), some (.int (nI y))] [] mi' ml' (qv F) := by
    intro ml' g1 g2
    have hT : CTb 4 β mi ml' := hP.2.1.l (g1 7 (by decide))
    refine upI (β 0) (fun y mi' => fr [15] mi mi' ∧ ∀ z, z < y → mi' 15 z = nI (cri β z)) (fun y mi' => Sg 44 103 [some (.ref 3), some (.int (nI (β 0 - 1))), some (.int (nI y))] [] mi' ml' (qv F)) ?_ ?_
    · rintro mi' ⟨f1, f2⟩
      exact rg44_103 (pk_lt (β 0 - 1) (β 0) (fun _ => h mi' ml' f1 g1 f2) (fun q => by omega))
    · rintro y mi' hy ⟨f1, f2⟩ ih
      have hT' : CTb 4 β mi' ml' := by
        refine ⟨?_, hT.2⟩
        have := hT.1
        unfold TB at this ⊢
        rw [f1 4 (by decide), f1 (4 + 1) (by decide), f1 (4 + 2) (by decide)]
        exact this
      refine rg44_103 (pk_lt (β 0 - 1) y (fun q => by omega) (fun _ => ⟨pk_in y 7 (by omega), ?_⟩))
      rw [nI_clamp (by omega), g2 y hy]
      refine c64 (p := fun i => fbk β y (so (β 1) (β 2) (β 3) i)) isT4 rfl hW.2 hn hT' ?_
      rw [nI_1]
      refine ih _ ⟨f1.up (by decide), fun z hz => ?_⟩
      show va_up (mi' 15) y _ z = _
      by_cases hzy : z = y
      · subst hzy; exact gm_upS
      · rw [gm_upN hzy]; exact f2 z (by omega)
  -- upwards
  have up : ∀ d ml', d + 1 ≤ β 0 → (∀ c, c ≠ 13 → ml' c = ml c) → (∀ y, y < β 0 → ml' 13 y = lN (bmq β (if β 0 - 1 - d ≤ y then fbk β y else rc β 0 y))) → Sg 44 67 [some (.ref 3), some (.int (nI (β 0 - 1))), some (.int (nI (β 0 - 1 - d) - 1))] [] mi ml' (qv F) := by
    intro d
    obtain ⟨g, hg⟩ : ∃ g, g = β 0 - 1 - d := ⟨_, rfl⟩
    induction g generalizing d with
    | zero =>
      intro ml' hd g1 g2
      rw [← hg]
      refine rg44_67 ⟨fun _ => cols ml' g1 (fun y hy => ?_) 0 mi (Nat.zero_le _) ⟨fr.rf, fun z hz => by omega⟩, fun q => absurd (by decide) q⟩
      rw [g2 y hy, if_pos (by omega)]
    | succ g ih =>
      intro ml' hd g1 g2
      rw [← hg]
      have e : nI (g + 1) - 1 = nI g := nI_pred g
      have hT : CTb 4 β mi ml' := hP.2.1.l (g1 7 (by decide))
      rw [e]
      refine rg44_67 (pk_lt g 0 (fun q => by omega) (fun _ => ?_))
      rw [nI_1, nI_clamp (by omega), nI_clamp (by omega), g2 (g + 1) (by omega), if_pos (by omega)]
      refine ⟨pk_in g 7 (by omega), pk_in (g + 1) 7 (by omega), ?_⟩
      refine c63 (p := fun i => fbk β (g + 1) (so (β 1) (β 2) (β 3) i)) isT4 rfl hW.2 hn hT ?_
      have l1 := b36 (rc β 0 g)
      have l2 := bm_62 (fun j => anyB (fun i => fbk β (g + 1) (so (β 1) (β 2) (β 3) i) && mt (β 3) (β 2) (so (β 1) (β 2) (β 3) i) (so (β 1) (β 2) (β 3) j)) (tN (β 1) (β 2) (β 3))) (tN_35 (len := β 3) hn hW.2)
      rw [g2 g (by omega), if_neg (by omega), wb_and (by omega) (by omega), i_m1]
      have ev : bmq β (rc β 0 g) &&& bm (fun j => anyB (fun i => fbk β (g + 1) (so (β 1) (β 2) (β 3) i) && mt (β 3) (β 2) (so (β 1) (β 2) (β 3) i) (so (β 1) (β 2) (β 3) j)) (tN (β 1) (β 2) (β 3))) (tN (β 1) (β 2) (β 3)) = bmq β (fbk β g) := by
        unfold bmq
        rw [bm_and]
        refine bm_cong fun j hj => ?_
        rw [← fbk_step (by omega) (so_ok hj).1]
        congr 1
        exact so_anyQ (p := fun a => fbk β (g + 1) a && mt (β 3) (β 2) a (so (β 1) (β 2) (β 3) j)) (fun b hb => by rw [Bool.and_eq_true] at hb; exact fbk_tp hb.1)
      rw [ev]
      have := ih (d + 1) (by omega) (va_up ml' 13 (va_up (ml' 13) g (lN (bmq β (fbk β g))))) (by omega) (fun c hc => by rw [gm_upN hc]; exact g1 c hc) (fun y hy => ?_)
      · rw [show β 0 - 1 - (d + 1) = g by omega] at this
        exact this
      · rw [gm_upS]
        by_cases hyg : y = g
        · subst hyg
          rw [gm_upS, if_pos (by omega)]
        · rw [gm_upN hyg, g2 y hy]
          by_cases hle : β 0 - 1 - d ≤ y
          · rw [if_pos hle, if_pos (by omega)]
          · rw [if_neg hle, if_neg (by omega)]
  -- downwards
  have dn : ∀ y ml', 1 ≤ y → y ≤ β 0 → ((∀ c, c ≠ 13 → ml' c = ml c) ∧ ∀ z, z < y → ml' 13 z = lN (bmq β (rc β 0 z))) → Sg 44 24 [some (.ref 3), some (.int (nI (β 0 - 1))), some (.int (nI y))] [] mi ml' (qv F) := by
    have key := upI (β 0) (fun y (ml' : Ml) => 1 ≤ y ∧ (∀ c, c ≠ 13 → ml' c = ml c) ∧ ∀ z, z < y → ml' 13 z = lN (bmq β (rc β 0 z))) (fun y ml' => Sg 44 24 [some (.ref 3), some (.int (nI (β 0 - 1))), some (.int (nI y))] [] mi ml' (qv F)) ?_ ?_
    · exact fun y ml' h1 h2 h3 => key y ml' h2 ⟨h1, h3⟩
    · rintro ml' ⟨_, g1, g2⟩
      refine rg44_24 (pk_lt (β 0 - 1) (β 0) (fun _ => ?_) (fun q => by omega))
      have := up 0 ml' hH.1 g1 (fun y hy => ?_)
      · rw [Nat.sub_zero] at this; exact this
      · rw [g2 y hy]
        by_cases hle : β 0 - 1 - 0 ≤ y
        · rw [if_pos hle]
          have : y = β 0 - 1 := by omega
          subst this
          congr 1
          exact bm_cong fun i _ => (fbk_last hH.1 _).symm
        · rw [if_neg hle]
    · rintro y ml' hy ⟨h1, g1, g2⟩ ih
      have hT : CTb 4 β mi ml' := hP.2.1.l (g1 7 (by decide))
      have em : nI y - 1 = nI (y - 1) := pk_sub (b := 1) h1
      refine rg44_24 (pk_lt (β 0 - 1) y (fun q => by omega) (fun _ => ⟨pk_in y 7 (by omega), ?_⟩))
      rw [em, nI_clamp (by omega), nI_clamp (by omega), g2 (y - 1) (by omega)]
      refine ⟨pk_in (y - 1) 7 (by omega), ?_⟩
      refine c63 (p := fun i => rc β 0 (y - 1) (so (β 1) (β 2) (β 3) i)) isT4 rfl hW.2 hn hT ?_
      have l1 := b36 (fit β y)
      have l2 := bm_62 (fun j => anyB (fun i => rc β 0 (y - 1) (so (β 1) (β 2) (β 3) i) && mt (β 3) (β 2) (so (β 1) (β 2) (β 3) i) (so (β 1) (β 2) (β 3) j)) (tN (β 1) (β 2) (β 3))) (tN_35 (len := β 3) hn hW.2)
      rw [g1 8 (by decide), hP.2.2 y hy, wb_and (by omega) (by omega), nI_1]
      have ev := rc_next (β := β) (f := 0) (d := y - 1)
      rw [show 0 + (y - 1 + 1) = y by omega, show y - 1 + 1 = y by omega] at ev
      have ev' : bmq β (fit β y) &&& bm (fun j => anyB (fun i => rc β 0 (y - 1) (so (β 1) (β 2) (β 3) i) && mt (β 3) (β 2) (so (β 1) (β 2) (β 3) i) (so (β 1) (β 2) (β 3) j)) (tN (β 1) (β 2) (β 3))) (tN (β 1) (β 2) (β 3)) = bmq β (rc β 0 y) := ev
      rw [ev']
      refine ih _ ⟨by omega, fun c hc => by rw [gm_upN hc]; exact g1 c hc, fun z hz => ?_⟩
      rw [gm_upS]
      by_cases hzy : z = y
      · subst hzy; exact gm_upS
      · rw [gm_upN hzy]; exact g2 z (by omega)
  refine dn 1 _ (Nat.le_refl 1) hH.1 ⟨fun c hc => gm_upN hc, fun z hz => ?_⟩
  have hz0 : z = 0 := by omega
  subst hz0
  rw [gm_upS]
  show va_up (ml 13) 0 (ml 8 0) 0 = _
  rw [gm_upS, hP.2.2 0 (by omega)]
  rfl
end C56
/-! core -/
theorem coS_row {β : Bd} {y : Nat} : ∀ k, k ≤ y * β 1 → k ≤ β 0 * β 1 → coS β k (8 + y) = β (8 + y)
  | 0, _, _ => rfl
  | k + 1, h, hK => by
    have ih := coS_row (β := β) (y := y) k (by omega) (by omega)
    have hk : k / β 1 < y := kH (show k < y * β 1 by omega)
    rw [coS]
    have e : bs (coS β k) k false (8 + y) = coS β k (8 + y) := by
      unfold bs bu
      rw [coS_lo (by decide)]
      exact gm_upN (by omega)
    split
    · split
      · exact ih
      · rw [e]; exact ih
    · exact ih
/-- rows that are behind don't change -/
theorem coS_rowdn {β : Bd} {y : Nat} (hW : 1 ≤ β 1) : ∀ d, (y + 1) * β 1 + d ≤ β 0 * β 1 → coS β ((y + 1) * β 1 + d) (8 + y) = coS β ((y + 1) * β 1) (8 + y)
  | 0, _ => rfl
  | d + 1, h => by
    have ih := coS_rowdn (β := β) (y := y) hW d (by omega)
    rw [← ih]
    have hk : y < ((y + 1) * β 1 + d) / β 1 := by
      have : (y + 1) ≤ ((y + 1) * β 1 + d) / β 1 := (Nat.le_div_iff_mul_le (by omega)).mpr (by omega)
      omega
    rw [show (y + 1) * β 1 + (d + 1) = ((y + 1) * β 1 + d) + 1 from rfl, coS]
    have e : bs (coS β ((y + 1) * β 1 + d)) ((y + 1) * β 1 + d) false (8 + y) = coS β ((y + 1) * β 1 + d) (8 + y) := by
      unfold bs bu
      rw [coS_lo (by decide)]
      exact gm_upN (by omega)
    split
    · split
      · rfl
      · exact e
    · rfl
/-- the core's columns of a row -/
def cor (β : Bd) (y : Nat) : Nat := coS β (β 0 * β 1) (8 + y)
theorem cor_bit {β : Bd} (hβ : Wf β) {k : Nat} (hk : k < β 0 * β 1) : (cor β (k / β 1)).testBit (k % β 1) = cb β k := by
  have := coS_dn hβ hk (Nat.le_refl _)
  unfold cb
  rw [← this]
  unfold bt cor
  rw [coS_lo (j := 1) (by decide)]
