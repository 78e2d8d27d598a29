/-! the class's chains: all of them -/
section C47
variable {ml : Ml} {β : Bd} {P : Nat → Nat}
theorem Cd.gq {S : List Nat} {mi mi' : Mi} (h : Cd β mi) (hf : gq S mi mi') (h1 : 1 ∉ S) (h2 : 2 ∉ S) : Cd β mi' := by
  unfold Cd
  rw [hf.1 1 h1 (by decide), hf.1 2 h2 (by decide)]
  exact h
theorem and_tb : ∀ s, s < 16 → ∀ j, j < 4 → (nI s &&& nI (2 ^ j) = 0 ↔ s.testBit j = false) := by decide +kernel
theorem c8 {mi : Mi} {F : Int32 → Mi → Ml → Prop} {x y : Int32} {k : Nat} (hβ : Wf β) (hC : Cd β mi) (hk : k < β 0 * β 1) (hx : x = nI (k % β 1)) (hy : y = nI (k / β 1)) (h : F (bI (ot β k)) mi ml) : Sg 8 0 [some (.ref 1), some (.int x), some (.int y)] [] mi ml (qi F) := by
  subst hx hy
  have h49 := HW49 hβ
  have hH := hβ.1
  have hW := hβ.2.1
  have hS := hβ.2.2.2.1
  have hyy := kH hk
  have hxx := kW (k := k) hW.1
  obtain ⟨⟨c0, c1, c2, c3, c4⟩, c5⟩ := hC
  have e6 : mi 1 1 - 1 = nI (β 1 - 1) := by rw [c1]; exact pk_sub (b := 1) hW.1
  have e5 : mi 1 0 - 1 = nI (β 0 - 1) := by rw [c0]; exact pk_sub (b := 1) hH.1
  have t : ∀ j, j < 4 → (nI (β 4) &&& nI (2 ^ j) = 0 ↔ (β 4).testBit j = false) := fun j hj => and_tb _ (by omega) j hj
  have tt : ∀ j, j < 4 → ¬ nI (β 4) &&& nI (2 ^ j) = 0 → (β 4).testBit j = true := fun j hj q => by
    cases hb : (β 4).testBit j with
    | true => rfl
    | false => exact absurd ((t j hj).mpr hb) q
  have hot : ot β k = (((β 4).testBit 0 && (k % β 1 == 0)) || ((β 4).testBit 1 && (k / β 1 == 0)) || ((β 4).testBit 2 && (k % β 1 + 1 == β 1)) || ((β 4).testBit 3 && (k / β 1 + 1 == β 0))) := rfl
  have s4 : ((β 4).testBit 0 && (k % β 1 == 0)) = false → ((β 4).testBit 1 && (k / β 1 == 0)) = false → ((β 4).testBit 2 && (k % β 1 + 1 == β 1)) = false → Sg 8 45 [some (.ref 1), some (.int (nI (k % β 1))), some (.int (nI (k / β 1)))] [] mi ml (qi F) := by
    intro a1 a2 a3
    refine rg8_45 ?_
    rw [hot, a1, a2, a3, Bool.false_or, Bool.false_or, Bool.false_or] at h
    rw [e5, c4]
    refine pk_ne (k / β 1) (β 0 - 1) (fun h1 => ?_) (fun h1 => ⟨fun h2 => ?_, fun h2 => ?_⟩)
    · rw [show (k / β 1 + 1 == β 0) = false by simp; omega, Bool.and_false] at h; exact h
    · rw [(t 3 (by decide)).mp h2] at h; exact h
    · rw [tt 3 (by decide) h2, show (k / β 1 + 1 == β 0) = true by simp; omega] at h; exact h
  have s3 : ((β 4).testBit 0 && (k % β 1 == 0)) = false → ((β 4).testBit 1 && (k / β 1 == 0)) = false → Sg 8 26 [some (.ref 1), some (.int (nI (k % β 1))), some (.int (nI (k / β 1)))] [] mi ml (qi F) := by
    intro a1 a2
    refine rg8_26 ?_
    rw [e6, c4]
    refine pk_ne (k % β 1) (β 1 - 1) (fun h1 => s4 a1 a2 ?_) (fun h1 => ⟨fun h2 => ?_, fun h2 => s4 a1 a2 ?_⟩)
    · rw [show (k % β 1 + 1 == β 1) = false by simp; omega, Bool.and_false]
    · rw [hot, tt 2 (by decide) h2, show (k % β 1 + 1 == β 1) = true by simp; omega] at h
      simpa [bI] using h
    · rw [(t 2 (by decide)).mp (Decidable.not_not.mp h2)]; rfl
  have s2 : ((β 4).testBit 0 && (k % β 1 == 0)) = false → Sg 8 13 [some (.ref 1), some (.int (nI (k % β 1))), some (.int (nI (k / β 1)))] [] mi ml (qi F) := by
    intro a1
    refine rg8_13 ?_
    rw [c4]
    refine pk_ne (k / β 1) 0 (fun h1 => s3 a1 ?_) (fun h1 => ⟨fun h2 => ?_, fun h2 => s3 a1 ?_⟩)
    · rw [show (k / β 1 == 0) = false from beq_eq_false_iff_ne.mpr h1, Bool.and_false]
    · rw [hot, tt 1 (by decide) h2, show (k / β 1 == 0) = true from beq_iff_eq.mpr h1] at h
      simpa [bI] using h
    · rw [(t 1 (by decide)).mp (Decidable.not_not.mp h2)]; rfl
  refine rg8_0 ?_
  rw [c4]
  refine pk_ne (k % β 1) 0 (fun h1 => s2 ?_) (fun h1 => ⟨fun h2 => ?_, fun h2 => s2 ?_⟩)
  · rw [show (k % β 1 == 0) = false from beq_eq_false_iff_ne.mpr h1, Bool.and_false]
  · rw [hot, tt 0 (by decide) h2, show (k % β 1 == 0) = true from beq_iff_eq.mpr h1] at h
    simpa [bI] using h
  · rw [(t 0 (by decide)).mp (Decidable.not_not.mp h2)]; rfl
theorem yx {W y x : Nat} (hx : x < W) : (y * W + x) / W = y ∧ (y * W + x) % W = x := by
  constructor
  · rw [Nat.mul_comm, Nat.mul_add_div (by omega), Nat.div_eq_of_lt hx, Nat.add_zero]
  · rw [Nat.mul_comm, Nat.mul_add_mod]; exact Nat.mod_eq_of_lt hx
theorem yxlt {H W y x : Nat} (hy : y < H) (hx : x < W) : y * W + x < H * W := by
  have := Nat.mul_le_mul_right W (show y + 1 ≤ H from hy)
  rw [Nat.succ_mul] at this
  omega
theorem c23 {mi : Mi} {F : Int32 → Mi → Ml → Prop} {x y : Int32} {k W : Nat} (hx : x = nI (k % W)) (hy : y = nI (k / W)) (h : F (nI (pl W k)) mi ml) : Sg 23 0 [some (.int x), some (.int y)] [] mi ml (qi F) := by
  subst hx hy
  refine rg23_0 ?_
  have e : (nI (k / W) + 1) * 9 + nI (k % W) + 1 = nI (pl W k) := by
    show (nI (k / W) + nI 1) * nI 9 + nI (k % W) + nI 1 = _
    rw [nI_add, pk_mul, nI_add, nI_add]; rfl
  rw [e]; exact h
set_option maxHeartbeats 1000000 in
/-- takeKinds -/
theorem c16 {mi : Mi} {F : Mi → Ml → Prop} (hβ : Wf β) (hC : Cd β mi) (h : ∀ mi', fr [19] mi mi' → CK β mi' → F mi' ml) : Sg 16 0 [some (.ref 18), none, none, none] [] mi ml (qv F) := by
  have h49 := HW49 hβ
  have hH := hβ.1
  have hW := hβ.2.1
  refine rg16_0 (c198 rfl (by decide) ?_)
  -- cells below k have their kinds
  obtain ⟨J, hJ⟩ : ∃ J : Nat → Mi → Prop, J = fun k mi' => fr [19] mi mi' ∧ ∀ p, p < 81 → mi' 19 p = nI (if isp (β 0) (β 1) p && decide (kp (β 1) p < k) then kd β p else 0) := ⟨_, rfl⟩
  have fin : ∀ mi', J (β 0 * β 1) mi' → F mi' ml := by
    intro mi' q
    rw [hJ] at q
    refine h mi' q.1 (fun p hp => ?_)
    rw [q.2 p hp]
    by_cases hi : isp (β 0) (β 1) p = true
    · rw [hi, decide_eq_true (kp_ok hβ hp hi).1]; rfl
    · have : kd β p = 0 := by unfold kd; rw [if_neg hi]
      rw [if_neg (by simp [hi]), this]
  have rows : ∀ y mi', y ≤ β 0 → J (y * β 1) mi' → Sg 16 10 [some (.ref 18), some (.int (nI y)), none, none] [] mi' ml (qv F) := by
    refine upI (β 0) (fun y mi' => J (y * β 1) mi') (fun y mi' => Sg 16 10 [some (.ref 18), some (.int (nI y)), none, none] [] mi' ml (qv F)) ?_ ?_
    · intro mi' q
      have q' := q
      rw [hJ] at q'
      exact rg16_10 (pk_le (β 0) (β 0) (fun _ => fin mi' q) (fun h1 => by omega) (by rw [q'.1 1 (by decide)]; exact hC.1.1) rfl)
    · intro y mi' hy q ihy
      have q' := q
      rw [hJ] at q'
      refine rg16_10 (pk_le (β 0) y (fun h1 => by omega) (fun _ => ?_) (by rw [q'.1 1 (by decide)]; exact hC.1.1) rfl)
      have cols : ∀ x mi', x ≤ β 1 → J (y * β 1 + x) mi' → Sg 16 23 [some (.ref 18), some (.int (nI y)), some (.int (nI x)), none] [] mi' ml (qv F) := by
        refine upI (β 1) (fun x mi' => J (y * β 1 + x) mi') (fun x mi' => Sg 16 23 [some (.ref 18), some (.int (nI y)), some (.int (nI x)), none] [] mi' ml (qv F)) ?_ ?_
        · intro m1 r
          have r' := r
          rw [hJ] at r'
          refine rg16_23 (pk_le (β 1) (β 1) (fun _ => ?_) (fun h1 => by omega) (by rw [r'.1 1 (by decide)]; exact hC.1.2.1) rfl)
          rw [nI_1]
          refine ihy m1 ?_
          rw [Nat.succ_mul]; exact r
        · intro x m1 hx r ihx
          rw [hJ] at r
          obtain ⟨k, hk⟩ : ∃ k, k = y * β 1 + x := ⟨_, rfl⟩
          have hkK : k < β 0 * β 1 := by rw [hk]; exact yxlt hy hx
          have ky : k / β 1 = y := by rw [hk]; exact (yx hx).1
          have kx : k % β 1 = x := by rw [hk]; exact (yx hx).2
          have hC1 : Cd β m1 := by unfold Cd; rw [r.1 1 (by decide), r.1 2 (by decide)]; exact hC
          have hbd := hβ.bd (show y < 7 by omega)
          have hpl := pl_ok hβ hkK
          refine rg16_23 (pk_le _ x (fun h1 => by omega) (fun _ => ⟨pk_in y 7 (by omega), ?_⟩) hC1.1.2.1 rfl)
          rw [nI_clamp (by omega), hC1.2 y (by omega)]
          refine c109 rfl rfl (by omega) (by omega) ?_
          have ebt : (β (8 + y)).testBit x = bt β k := by unfold bt; rw [ky, kx]
          rw [ebt]
          have store : ∀ v, v = nI (kd β (pl (β 1) k)) → Sg 16 23 [some (.ref 18), some (.int (nI y)), some (.int (nI (x + 1))), none] [] (va_up m1 19 (va_up (m1 19) (pl (β 1) k) v)) ml (qv F) := by
            intro v hv
            refine ihx _ ?_
            rw [hJ]
            refine ⟨r.1.up (by decide), fun p hp => ?_⟩
            show va_up (m1 19) (pl (β 1) k) v p = _
            by_cases hpk : p = pl (β 1) k
            · subst hpk
              rw [gm_upS, hv, hpl.2.2.1, hpl.2.2.2, decide_eq_true (by omega), Bool.true_and, if_pos rfl]
            · rw [gm_upN hpk, r.2 p hp]
              by_cases hi : isp (β 0) (β 1) p = true
              · have hne : kp (β 1) p ≠ k := fun e => hpk (by rw [← e]; exact (kp_ok hβ hp hi).2.symm)
                congr 2
                rw [show decide (kp (β 1) p < y * β 1 + x) = decide (kp (β 1) p < y * β 1 + (x + 1)) from decide_eq_decide.mpr ⟨fun q => by omega, fun q => by omega⟩]
              · rw [show isp (β 0) (β 1) p = false by simpa using hi, Bool.false_and, Bool.false_and]
          have behind : ∀ b : Nat, b = (if bt β k then 2 else 1) → Sg 16 56 [some (.ref 18), some (.int (nI y)), some (.int (nI x)), none] [.int (nI b)] m1 ml (qv F) := by
            intro b hb
            refine rg16_56 (c23 (k := k) (W := β 1) (by rw [kx]) (by rw [ky]) (c8 hβ hC1 hkK (by rw [kx]) (by rw [ky]) ?_))
            rw [nI_clamp (by omega), nI_1]
            have hkd := kd_k hβ hkK
            rw [← hb] at hkd
            refine bq (fun ho => ⟨pk_in (pl (β 1) k) 81 (by omega), store _ ?_⟩) (fun ho => ⟨pk_in (pl (β 1) k) 81 (by omega), store _ ?_⟩)
            · rw [hkd, ho]; rfl
            · rw [hkd, ho, hb]
              cases bt β k <;> decide
          refine bq1 (fun hb => behind 1 ?_) (fun hb => behind 2 ?_)
          · rw [hb]; rfl
          · rw [hb]; rfl
      exact cols 0 mi' (Nat.zero_le _) q
  refine rows 0 _ (Nat.zero_le _) ?_
  rw [hJ]
  refine ⟨fr.rf.up (by decide), fun p hp => ?_⟩
  rw [Nat.zero_mul]
  show va_up mi 19 (fl (mi 19) 81 0) 19 p = _
  rw [gm_upS]
  unfold fl
  rw [if_pos hp, decide_eq_false (by omega), Bool.and_false]
  rfl
theorem kd_and : ∀ b : Bool, ∀ o : Bool, (nI ((if b then 2 else 1) + (if o then 4 else 0)) &&& 2 = 0 ↔ b = false) ∧ (nI ((if b then 2 else 1) + (if o then 4 else 0)) &&& 4 = 0 ↔ o = false) ∧ ¬ nI ((if b then 2 else 1) + (if o then 4 else 0)) = 0 := by decide
set_option maxHeartbeats 2000000 in
/-- lastNodeOfNewChain -/
theorem c17 {mi : Mi} {F : Int32 → Mi → Ml → Prop} (hβ : Wf β) (hK : CK β mi) (hF : FlB β P) (hP : CPl β P mi)
    (hyes : ∀ mi' cf q c i e, gq [21, 22] mi mi' → CQ β cf q c mi' → BfB β P cf q c → i < c → q i = 2 * e + 1 → e < β 0 * β 1 → ot β e = true → F (nI (nd (β 1) (q i))) mi' ml)
    (hno : ∀ mi' cf q c, gq [21, 22] mi mi' → CQ β cf q c mi' → BfB β P cf q c → CrB β P (fun w => decide (w < 2 * (β 0 * β 1)) && decide (cf w ≠ 0)) → F (-1) mi' ml) :
    Sg 17 0 [some (.ref 18), none, none] [] mi ml (qi F) := by
  have h49 := HW49 hβ
  refine rg17_0 ?_
  have srch : ∀ a mi', a ≤ 98 → (∃ cf q c, gq [21, 22] mi mi' ∧ CQ β cf q c mi' ∧ BfB β P cf q c ∧ a ≤ c ∧ (∀ k, k < β 0 * β 1 → bt β k = true → cf (2 * k) ≠ 0) ∧ ∀ i, i < a → (∀ w, RsB β P (q i) w → cf w ≠ 0) ∧ ∀ e, e < β 0 * β 1 → q i = 2 * e + 1 → ot β e = false) → Sg 17 76 [some (.ref 18), some (.int (nI a)), none] [] mi' ml (qi F) := by
    have stop : ∀ a mi' cf q c, gq [21, 22] mi mi' → CQ β cf q c mi' → BfB β P cf q c → a ≤ c → (∀ k, k < β 0 * β 1 → bt β k = true → cf (2 * k) ≠ 0) → (∀ i, i < a → (∀ w, RsB β P (q i) w → cf w ≠ 0) ∧ ∀ e, e < β 0 * β 1 → q i = 2 * e + 1 → ot β e = false) → c ≤ a → F (-1) mi' ml := by
      intro a mi' cf q c g1 g2 g3 g4 g5 g6 hca
      exact hno mi' cf q c g1 g2 g3 (g3.crt hF g5 (fun i w hi hr => (g6 i (by omega)).1 w hr) (fun i e hi he hq => (g6 i (by omega)).2 e he hq))
    refine upI 98 (fun a mi' => ∃ cf q c, gq [21, 22] mi mi' ∧ CQ β cf q c mi' ∧ BfB β P cf q c ∧ a ≤ c ∧ (∀ k, k < β 0 * β 1 → bt β k = true → cf (2 * k) ≠ 0) ∧ ∀ i, i < a → (∀ w, RsB β P (q i) w → cf w ≠ 0) ∧ ∀ e, e < β 0 * β 1 → q i = 2 * e + 1 → ot β e = false) (fun a mi' => Sg 17 76 [some (.ref 18), some (.int (nI a)), none] [] mi' ml (qi F)) ?_ ?_
    · rintro mi' ⟨cf, q, c, g1, g2, g3, g4, g5, g6⟩
      have hle := g3.le
      exact rg17_76 (pk_le c 98 (fun h1 => stop 98 mi' cf q c g1 g2 g3 g4 g5 g6 h1) (fun h1 => by omega) g2.1 rfl)
    · rintro a mi' ha ⟨cf, q, c, g1, g2, g3, g4, g5, g6⟩ ih
      have hle := g3.le
      refine rg17_76 (pk_le c a (fun h1 => stop a mi' cf q c g1 g2 g3 g4 g5 g6 h1) (fun h1 => ?_) g2.1 rfl)
      have hq := (g3.2.1 a h1).1
      have hnd := nd_lt hβ hq
      have hndm : nd (β 1) (q a) % 2 = q a % 2 := by unfold nd; omega
      have hqK : q a / 2 < β 0 * β 1 := by omega
      have hpl := pl_ok hβ hqK
      rw [nI_clamp (by omega), g2.2.2.2 a h1, nI_odd (by omega), nI_half (by omega), nd_half, hndm, nI_clamp (by omega), (hK.gq g1 (by decide)) _ (by omega), kd_k hβ hqK, nI_1]
      refine pk_le 162 a (fun h2 => by omega) (fun _ => ⟨pk_in a 162 (by omega), ?_⟩)
      have on : ∀ m2 cf2 q2 c2, gq [21, 22] mi' m2 → CQ β cf2 q2 c2 m2 → BfB β P cf2 q2 c2 → Grw cf q c cf2 q2 c2 → (∀ w, RsB β P (q a) w → cf2 w ≠ 0) → (∀ e, e < β 0 * β 1 → q a = 2 * e + 1 → ot β e = false) → Sg 17 76 [some (.ref 18), some (.int (nI (a + 1))), none] [] m2 ml (qi F) := by
        intro m2 cf2 q2 c2 a1 a2 a3 a4 a5 hout
        refine ih m2 ⟨cf2, q2, c2, g1.tr a1, a2, a3, by have := a4.1; omega, fun k hk hb => a4.2.2 _ (g5 k hk hb), fun i hi => ?_⟩
        rw [a4.2.1 i (by omega)]
        rcases Nat.lt_succ_iff_lt_or_eq.mp hi with r | r
        · exact ⟨fun w hr => a4.2.2 _ ((g6 i r).1 w hr), (g6 i r).2⟩
        · subst r; exact ⟨a5, hout⟩
      have hP' := hP.gq g1 (by decide)
      refine pk_ne (q a % 2) 0 (fun h2 => ⟨pk_in (pl (β 1) (q a / 2)) 81 (by omega), fun h3 => ?_, fun h3 => ?_⟩) (fun h2 => ?_)
      · have ho := (kd_and _ _).2.1.mp h3
        refine c19 (k := q a / 2) hβ hF hP' rfl h1 (by omega) g2 g3 g5 (fun m2 cf2 q2 c2 a1 a2 a3 a4 a5 => on m2 cf2 q2 c2 a1 a2 a3 a4 a5 (fun e he hqe => ?_))
        rw [hqe, show (2 * e + 1) / 2 = e by omega] at ho; exact ho
      · refine hyes mi' cf q c a (q a / 2) g1 g2 g3 h1 (by omega) (by omega) ?_
        cases ho : ot β (q a / 2) with
        | true => rfl
        | false => exact absurd ((kd_and _ _).2.1.mpr ho) h3
      · exact c18 (k := q a / 2) hβ hF hP' rfl h1 (by omega) g2 g3 (fun m2 cf2 q2 c2 a1 a2 a3 a4 a5 => on m2 cf2 q2 c2 a1 a2 a3 a4 a5 (fun e he hqe => by omega))
  -- places below p are written
  have ini : ∀ p mi', p ≤ 81 → (∃ cf q c, gq [21, 22] mi mi' ∧ BfB β P cf q c ∧ mi' 18 5 = nI c ∧ (∀ w, w < 2 * (β 0 * β 1) → pl (β 1) (w / 2) < p → mi' 21 (nd (β 1) w) = ec (β 1) (cf w)) ∧ (∀ w, w < 2 * (β 0 * β 1) → p ≤ pl (β 1) (w / 2) → cf w = 0) ∧ (∀ z, z < p → isp (β 0) (β 1) z = false → mi' 21 (2 * z) ≠ -2) ∧ (∀ i, i < c → mi' 22 i = nI (nd (β 1) (q i))) ∧ ∀ k, k < β 0 * β 1 → pl (β 1) k < p → bt β k = true → cf (2 * k) ≠ 0) → Sg 17 7 [some (.ref 18), some (.int (nI p)), none] [] mi' ml (qi F) := by
    refine upI 81 (fun p mi' => ∃ cf q c, gq [21, 22] mi mi' ∧ BfB β P cf q c ∧ mi' 18 5 = nI c ∧ (∀ w, w < 2 * (β 0 * β 1) → pl (β 1) (w / 2) < p → mi' 21 (nd (β 1) w) = ec (β 1) (cf w)) ∧ (∀ w, w < 2 * (β 0 * β 1) → p ≤ pl (β 1) (w / 2) → cf w = 0) ∧ (∀ z, z < p → isp (β 0) (β 1) z = false → mi' 21 (2 * z) ≠ -2) ∧ (∀ i, i < c → mi' 22 i = nI (nd (β 1) (q i))) ∧ ∀ k, k < β 0 * β 1 → pl (β 1) k < p → bt β k = true → cf (2 * k) ≠ 0) (fun p mi' => Sg 17 7 [some (.ref 18), some (.int (nI p)), none] [] mi' ml (qi F)) ?_ ?_
    · rintro mi' ⟨cf, q, c, g1, g2, g3, g4, g5, g6, g7, g8⟩
      have hp70 : ∀ w, w < 2 * (β 0 * β 1) → pl (β 1) (w / 2) < 81 := fun w hw => by have := (pl_ok hβ (show w / 2 < β 0 * β 1 by omega)).2.1; omega
      refine rg17_7 (pk_le 81 81 (fun _ => srch 0 mi' (by omega) ⟨cf, q, c, g1, ⟨g3, fun w hw => g4 w hw (hp70 w hw), g6, g7⟩, g2, by omega, fun k hk hb => g8 k hk (by have := (pl_ok hβ hk).2.1; omega) hb, fun i hi => by omega⟩) (fun h1 => by omega))
    · rintro p mi' hp ⟨cf, q, c, g1, g2, g3, g4, g5, g6, g7, g8⟩ ih
      have hle := g2.le
      refine rg17_7 (pk_le 81 p (fun h1 => by omega) (fun _ => ⟨pk_in p 81 hp, ?_⟩))
      have e2 : 2 * nI p = nI (2 * p) := pk_mul 2 p
      have hkp := (hK.gq g1 (by decide)) p hp
      rw [nI_clamp (by omega), hkp, e2]
      by_cases hi : isp (β 0) (β 1) p = true
      · obtain ⟨k1, k2⟩ := kp_ok hβ hp hi
        obtain ⟨k, hk⟩ : ∃ k, k = kp (β 1) p := ⟨_, rfl⟩
        rw [← hk] at k1 k2
        have hkd : kd β p = (if bt β k then 2 else 1) + (if ot β k then 4 else 0) := by rw [← k2]; exact kd_k hβ k1
        rw [hkd]
        obtain ⟨d1, d2, d3⟩ := kd_and (bt β k) (ot β k)
        refine ⟨fun _ => rg17_36 ?_, fun q => absurd d3 q⟩
        rw [e2, nI_1, nI_1, nI_clamp (by omega), nI_clamp (by omega), nI_clamp (by omega), hkp, hkd]
        refine ⟨pk_in (2 * p) 162 (by omega), pk_in (2 * p + 1) 162 (by omega), pk_in p 81 hp, ?_⟩
        obtain ⟨m2, hm2⟩ : ∃ m2, m2 = va_up mi' 21 (va_up (va_up (mi' 21) (2 * p) (-2)) (2 * p + 1) (-2)) := ⟨_, rfl⟩
        rw [← hm2]
        have h21 : ∀ z, z ≠ 2 * p → z ≠ 2 * p + 1 → m2 21 z = mi' 21 z := fun z h1 h2 => by
          rw [hm2]; show va_up (va_up (mi' 21) (2 * p) (-2)) (2 * p + 1) (-2) z = _
          rw [gm_upN h2, gm_upN h1]
        have h21a : m2 21 (2 * p) = -2 := by
          rw [hm2]; show va_up (va_up (mi' 21) (2 * p) (-2)) (2 * p + 1) (-2) (2 * p) = _
          rw [gm_upN (by omega), gm_upS]
        have h21b : m2 21 (2 * p + 1) = -2 := by
          rw [hm2]; show va_up (va_up (mi' 21) (2 * p) (-2)) (2 * p + 1) (-2) (2 * p + 1) = _
          rw [gm_upS]
        have hot : ∀ z, z ≠ 21 → m2 z = mi' z := fun z hz => by rw [hm2]; exact gm_upN hz
        have q1 : gq [21, 22] mi m2 := g1.tr ⟨fun z hz _ => hot z (fun e => hz (by rw [e]; decide)), fun k _ => by rw [hot 18 (by decide)]⟩
        have wk : ∀ w, w < 2 * (β 0 * β 1) → pl (β 1) (w / 2) = p → w / 2 = k := fun w hw e => pl_inj hβ (by omega) k1 (by rw [k2]; exact e)
        have c1 : ∀ w, w < 2 * (β 0 * β 1) → pl (β 1) (w / 2) < p + 1 → m2 21 (nd (β 1) w) = ec (β 1) (cf w) := by
          intro w hw hlt
          by_cases he : pl (β 1) (w / 2) = p
          · rw [g5 w hw (by omega)]
            unfold nd
            rw [he]
            have hm : w % 2 = 0 ∨ w % 2 = 1 := by omega
            rcases hm with hm | hm <;> rw [hm]
            · exact h21a
            · exact h21b
          · have hn : nd (β 1) w / 2 = pl (β 1) (w / 2) := nd_half _ _
            rw [h21 _ (by omega) (by omega)]
            exact g4 w hw (by omega)
        have c2 : ∀ z, z < p + 1 → isp (β 0) (β 1) z = false → m2 21 (2 * z) ≠ -2 := by
          intro z hz hiz
          have hne : z ≠ p := fun e => by rw [e, hi] at hiz; cases hiz
          rw [h21 _ (by omega) (by omega)]
          exact g6 z (by omega) hiz
        refine ⟨fun hb => ?_, fun hb => ?_⟩
        · have hb' := d1.mp hb
          refine ih m2 ⟨cf, q, c, q1, g2, by rw [hot 18 (by decide)]; exact g3, c1, fun w hw hge => g5 w hw (by omega), c2, fun i hi => by rw [hot 22 (by decide)]; exact g7 i hi, fun l hl hlt hbl => ?_⟩
          by_cases hlk : pl (β 1) l = p
          · have : l = k := pl_inj hβ hl k1 (by rw [k2]; exact hlk)
            subst this; rw [hb'] at hbl; cases hbl
          · exact g8 l hl (by omega) hbl
        · have hbt : bt β k = true := by
            cases hbk : bt β k with
            | true => rfl
            | false => exact absurd (d1.mpr hbk) hb
          have hcf0 : cf (2 * k) = 0 := g5 (2 * k) (by omega) (by rw [show 2 * k / 2 = k by omega, k2]; exact Nat.le_refl _)
          refine c20m (z := 2 * p) rfl (by omega) (by rw [hot 18 (by decide)]; exact g3) (by omega) (fun q => absurd h21a q) (fun _ => ?_)
          have hw : 2 * k < 2 * (β 0 * β 1) := by omega
          have hnd2 : nd (β 1) (2 * k) = 2 * p := by rw [nd_e, k2]
          refine ih _ ⟨va_up cf (2 * k) 1, va_up q c (2 * k), c + 1, q1.tr ⟨fun x hx hx18 => ?_, fun k hk => ?_⟩, g2.st hw hcf0 (by decide) (Or.inl ⟨rfl, k, k1, rfl, hbt⟩), ?_, fun w hw' hlt => ?_, fun w hw' hge => ?_, fun z hz hiz => ?_, fun i hi => ?_, fun l hl hlt hbl => ?_⟩
          · simp only [List.mem_cons, not_or, List.not_mem_nil, not_false_eq_true, and_true] at hx
            rw [gm_upN hx18, gm_upN hx.2, gm_upN hx.1]
          · rw [gm_upS]; exact gm_upN hk
          · rw [gm_upS, gm_upS]
          · show va_up (m2 21) (2 * p) (-1) (nd (β 1) w) = _
            by_cases hwk : w = 2 * k
            · subst hwk; rw [hnd2, gm_upS, gm_upS]; rfl
            · rw [gm_upN (fun e => hwk (nd_inj hβ hw' hw (by rw [hnd2]; exact e))), gm_upN hwk]
              exact c1 w hw' hlt
          · have hwk : w ≠ 2 * k := fun e => by
              subst e
              rw [show 2 * k / 2 = k by omega, k2] at hge; omega
            rw [gm_upN hwk]
            exact g5 w hw' (by omega)
          · show va_up (m2 21) (2 * p) (-1) (2 * z) ≠ _
            have hne : z ≠ p := fun e => by rw [e, hi] at hiz; cases hiz
            rw [gm_upN (by omega)]
            exact c2 z hz hiz
          · show va_up (m2 22) c (nI (2 * p)) i = _
            by_cases hic : i = c
            · subst hic; rw [gm_upS, gm_upS, hnd2]
            · rw [gm_upN hic, gm_upN hic, hot 22 (by decide)]; exact g7 i (by omega)
          · by_cases hlk : l = k
            · subst hlk; rw [gm_upS]; decide
            · rw [gm_upN (by omega)]
              refine g8 l hl ?_ hbl
              have : pl (β 1) l ≠ p := fun e => hlk (pl_inj hβ hl k1 (by rw [k2]; exact e))
              omega
      · have hkd : kd β p = 0 := by unfold kd; rw [if_neg hi]
        rw [hkd]
        refine ⟨fun q => absurd rfl q, fun _ => rg17_36 ?_⟩
        rw [e2, nI_1, nI_1, nI_clamp (by omega), nI_clamp (by omega), nI_clamp (by omega), hkp, hkd]
        refine ⟨pk_in (2 * p) 162 (by omega), pk_in (2 * p + 1) 162 (by omega), pk_in p 81 hp, fun _ => ?_, fun q => absurd (by decide) q⟩
        have hnp : ∀ k, k < β 0 * β 1 → pl (β 1) k ≠ p := fun k hk e => hi (by rw [← e]; exact (pl_ok hβ hk).2.2.1)
        refine ih _ ⟨cf, q, c, g1.tr (gq.fr (S := [21, 22]) (fr.rf.up (by decide)) (by decide)), g2, g3, fun w hw hlt => ?_, fun w hw hge => g5 w hw (by omega), fun z hz hiz => ?_, g7, fun l hl hlt hbl => g8 l hl (by have := hnp l hl; omega) hbl⟩
        · show va_up (va_up (mi' 21) (2 * p) (-4)) (2 * p + 1) (-2) (nd (β 1) w) = _
          have hn : nd (β 1) w / 2 = pl (β 1) (w / 2) := nd_half _ _
          have := hnp (w / 2) (by omega)
          rw [gm_upN (by omega), gm_upN (by omega)]
          exact g4 w hw (by omega)
        · show va_up (va_up (mi' 21) (2 * p) (-4)) (2 * p + 1) (-2) (2 * z) ≠ _
          rw [gm_upN (by omega)]
          by_cases hzp : z = p
          · subst hzp; rw [gm_upS]; decide
          · rw [gm_upN (by omega)]; exact g6 z (by omega) hiz
  refine ini 0 _ (by omega) ⟨fun _ => 0, fun _ => 0, 0, ⟨fun c hc h18 => gm_upN h18, fun k hk => by rw [gm_upS]; exact gm_upN hk⟩, Bfs.ini, by rw [gm_upS, gm_upS]; rfl, fun w _ hlt => by omega, fun w _ _ => rfl, fun z hz => by omega, fun i hi => by omega, fun k _ hlt => by omega⟩
end C47
