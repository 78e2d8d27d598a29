/-! the placer: moves and layings -/
theorem isY23 : isY 23 := ⟨rfl, rfl, rfl⟩
/-- where the tasks of each row count as being, by a laying of the class -/
def SY (r : Nat) (mi : Mi) (n : Nat) (g : Nat → Nat) : Prop := (∀ y, y < 7 → g y < 128) ∧ ((mi r 0 = 1 ∧ ∀ y, y < 7 → mi (r + 1) y = nI (g y)) ∨ (mi r 0 = 0 ∧ ∀ y, y < 7 → g y = 2 ^ n - 1))
theorem SY.m {r n : Nat} {mi mi' : Mi} {g : Nat → Nat} (h : SY r mi n g) (e0 : mi' r = mi r) (e1 : mi' (r + 1) = mi (r + 1)) : SY r mi' n g := by
  unfold SY at h ⊢
  rw [e0, e1]; exact h
section C59
variable {β : Bd} {g : Nat → Nat}
/-- seatOrFirst -/
theorem c28 {mi : Mi} {ml : Ml} {F : Int32 → Mi → Ml → Prop} {r y n : Nat} {x z : Int32} (hr : isY r) (hx : x = nI y) (hz : z = nI n) (hy : y < 7) (hn : n ≤ 7) (hS : SY r mi n g) (h : F (nI (g y)) mi ml) : Sg 28 0 [some (.ref r), some (.int x), some (.int z)] [] mi ml (qi F) := by
  subst hx hz
  refine rg28_0 hr ⟨fun q => ?_, fun q => ⟨pk_in y 7 hy, ?_⟩⟩
  · rw [shl_m1 n (by omega)]
    rcases hS.2 with ⟨q1, _⟩ | ⟨_, q2⟩
    · rw [q1] at q; exact absurd q (by decide)
    · rw [← q2 y hy]; exact h
  · rcases hS.2 with ⟨_, q2⟩ | ⟨q1, _⟩
    · rw [nI_clamp (by omega), q2 y hy]; exact h
    · exact absurd q1 q
/-- movesTo -/
theorem c51 {mi : Mi} {ml : Ml} {F : Int32 → Mi → Ml → Prop} {x : Int32} {i a : Nat} (hx : x = nI i) (hw : β 1 ≤ 7) (hn : β 2 < 8) (hT : CTb 4 β mi ml) (hi : i < tN (β 1) (β 2) (β 3)) (h2 : mi 1 2 = nI (β 2)) (h17 : ∀ j, j < β 2 → mi 17 j = cj a j) (h : F (nI (mvN a (so (β 1) (β 2) (β 3) i) (β 2))) mi ml) : Sg 51 0 [some (.ref 3), some (.int x), none, none] [] mi ml (qi F) := by
  subst hx
  obtain ⟨b, hb⟩ : ∃ b, b = so (β 1) (β 2) (β 3) i := ⟨_, rfl⟩
  rw [← hb] at h
  have hpb : pcn b = β 2 := by rw [hb]; exact sp_iff.mp (tp_sp (so_ok hi).2.1).1
  refine rg51_0 ?_
  refine upP (β 2) (fun j => Sg 51 4 [some (.ref 3), some (.int (nI i)), some (.int (nI (mvN a b j))), some (.int (nI j))] [] mi ml (qi F)) ?_ ?_ 0 (Nat.zero_le _)
  · exact rg51_4 (pk_le (β 2) (β 2) (fun _ => h) (fun q => by omega) h2 rfl)
  · intro j hj ih
    refine rg51_4 (pk_le (β 2) j (fun q => by omega) (fun _ => ?_) h2 rfl)
    refine c60 isT4 rfl rfl hw hn hT hi hj ⟨pk_in j 7 (by omega), ?_⟩
    rw [nI_clamp (by omega), h17 j hj, ← hb, ← cj_eq (by omega), cj_inj, nI_1, nI_1]
    have e : mvN a b (j + 1) = mvN a b j + (if decide (cn a j ≠ cn b j) then 1 else 0) := rfl
    rw [e] at ih
    refine ⟨fun q => ?_, fun q => ?_⟩
    · rw [if_neg (by simp [q])] at ih; exact ih
    · rw [if_pos (by simpa using fun w => q w.symm)] at ih; exact ih
/-- what is written of a row's moves -/
def MV (β : Bd) (g : Nat → Nat) (y : Nat) (mi : Mi) : Prop := ∀ i, i < tN (β 1) (β 2) (β 3) → fit β y (so (β 1) (β 2) (β 3) i) = true → mi 16 (y * 35 + i) = nI (kk β g (β 0 - 1 - y) (so (β 1) (β 2) (β 3) i))
theorem kk_b (hn : β 2 ≤ 7) {d b : Nat} (hd : d < 7) (hf : fit β (β 0 - 1 - d) b = true) : kk β g d b ≤ 2000 := by
  have := (kr_all (g := g) hn d hd b hf).2.2
  omega
/-- the least of the places is the least of the seats -/
theorem mn_so {p : Nat → Bool} {f : Nat → Nat} {i : Nat} (hp : ∀ b, p b = true → tp (β 2) (β 3) b = true) (hi : i < tN (β 1) (β 2) (β 3)) (hpi : p (so (β 1) (β 2) (β 3) i) = true) (hfi : f (so (β 1) (β 2) (β 3) i) < 1000000) (hm : ∀ j, j < tN (β 1) (β 2) (β 3) → p (so (β 1) (β 2) (β 3) j) = true → f (so (β 1) (β 2) (β 3) i) ≤ f (so (β 1) (β 2) (β 3) j)) : mn p f (2 ^ (β 1)) = f (so (β 1) (β 2) (β 3) i) := by
  have h1 : mn p f (2 ^ (β 1)) ≤ f (so (β 1) (β 2) (β 3) i) := mn_lb (so_ok hi).1 hpi
  obtain ⟨a, ha, hpa, hva⟩ := mn_at (p := p) (f := f) (n := 2 ^ (β 1)) (by omega)
  have ht := hp a hpa
  have := hm (tx (β 2) (β 3) a) (tx_lt ha ht)
  rw [so_tx ha ht] at this
  have := this hpa
  omega
/-- fewestBelow -/
theorem c52 {mi : Mi} {ml : Ml} {F : Int32 → Mi → Ml → Prop} {x z : Int32} {y i : Nat} (hx : x = nI y) (hz : z = nI i) (hβ : Wf β) (hC : Cd β mi) (hP : PcI β mi ml) (hy : y < β 0) (hi : i < tN (β 1) (β 2) (β 3)) (hM : y + 1 < β 0 → MV β g (y + 1) mi) (h : F (nI (kb β g (β 0 - 1 - y) (so (β 1) (β 2) (β 3) i))) mi ml) : Sg 52 0 [some (.ref 3), some (.int x), some (.int z), none] [] mi ml (qi F) := by
  subst hx hz
  have hH := hβ.1
  have hW := hβ.2.1
  have hn : β 2 < 8 := by have := hβ.2.2.1; omega
  have e1 : mi 1 0 - 1 = nI (β 0 - 1) := by rw [hC.1.1]; exact pk_sub (b := 1) hH.1
  refine rg52_0 ?_
  rw [e1]
  refine pk_ne y (β 0 - 1) (fun hne => ?_) (fun he => ?_)
  · have hy1 : y + 1 < β 0 := by omega
    rw [nI_1, nI_clamp (by omega), hP.2.2 (y + 1) hy1]
    refine ⟨pk_in (y + 1) 7 (by omega), c61 isT4 rfl hW.2 hn hP.2.1 hi ?_⟩
    have l1 := bmq_62 hn hW.2 (fit β (y + 1))
    have l2 := bm_62 (fun j => mt (β 3) (β 2) (so (β 1) (β 2) (β 3) i) (so (β 1) (β 2) (β 3) j)) (tN_35 (len := β 3) hn hW.2)
    rw [wb_and (by omega) (by omega)]
    unfold bmq
    rw [bm_and]
    obtain ⟨b, hb⟩ : ∃ b, b = so (β 1) (β 2) (β 3) i := ⟨_, rfl⟩
    obtain ⟨d, hd⟩ : ∃ d, d = β 0 - 1 - (y + 1) := ⟨_, rfl⟩
    have hd1 : β 0 - 1 - y = d + 1 := by omega
    have hyd : β 0 - 1 - d = y + 1 := by omega
    rw [← hb] at h ⊢
    rw [hd1] at h
    have hM' := hM hy1
    unfold MV at hM'
    rw [← hd] at hM'
    have ek : kb β g (d + 1) b = if anyB (fun a => fit β (y + 1) a && mt (β 3) (β 2) b a) (2 ^ (β 1)) then mn (fun a => fit β (y + 1) a && mt (β 3) (β 2) b a) (kk β g d) (2 ^ (β 1)) else 1000 := by rw [← hyd]; rfl
    rw [ek] at h
    have hpt : ∀ a, (fit β (y + 1) a && mt (β 3) (β 2) b a) = true → tp (β 2) (β 3) a = true := fun a ha => by rw [Bool.and_eq_true] at ha; exact fit_tp ha.1
    have hkb : ∀ j, (fit β (y + 1) (so (β 1) (β 2) (β 3) j) && mt (β 3) (β 2) b (so (β 1) (β 2) (β 3) j)) = true → kk β g d (so (β 1) (β 2) (β 3) j) ≤ 2000 := fun j hj => by
      rw [Bool.and_eq_true] at hj
      exact kk_b (by omega) (by omega) (by rw [hyd]; exact hj.1)
    refine c53 (y := y + 1) (p := fun j => fit β (y + 1) (so (β 1) (β 2) (β 3) j) && mt (β 3) (β 2) b (so (β 1) (β 2) (β 3) j)) (f := fun j => kk β g d (so (β 1) (β 2) (β 3) j)) rfl (by omega) rfl (tN_35 hn hW.2) hP.2.1.1.1.2.2.2 (fun j hj hpj => ?_) (fun j hj hpj => by have := hkb j hpj; omega) (fun hno => ?_) (fun j hj hpj hm hl => ?_)
    · simp only [Bool.and_eq_true] at hpj
      exact hM' j hj hpj.1
    · have : anyB (fun a => fit β (y + 1) a && mt (β 3) (β 2) b a) (2 ^ (β 1)) = false := by
        rw [← so_anyQ hpt]
        exact anyB_false.mpr hno
      rw [this] at h
      exact ⟨fun q => absurd rfl q, fun _ => h⟩
    · have hany : anyB (fun a => fit β (y + 1) a && mt (β 3) (β 2) b a) (2 ^ (β 1)) = true := anyB_iff.mpr ⟨_, (so_ok hj).1, hpj⟩
      rw [hany, if_pos rfl, mn_so (i := j) hpt hj hpj (by have := hkb j hpj; omega) hm] at h
      have hN := tN_35 (len := β 3) hn hW.2
      refine ⟨fun _ => ⟨pk_in ((y + 1) * 35 + j) 245 (by omega), ?_⟩, fun q => ?_⟩
      · rw [nI_clamp (by omega)]
        simp only [Bool.and_eq_true] at hpj
        rw [hM' j hj hpj.1]
        exact h
      · exfalso
        have h0 : ¬ nI ((y + 1) * 35 + j) < 0 := nI_pos (by omega)
        rw [Decidable.not_not.mp q] at h0
        exact h0 (by decide)
  · have hd : β 0 - 1 - y = 0 := by omega
    rw [hd] at h
    exact h
/-- what stays -/
theorem PcI.f {mi mi' : Mi} {ml : Ml} {S : List Nat} (h : PcI β mi ml) (f : fr S mi mi') (h3 : 3 ∉ S) (h4 : 4 ∉ S) (h5 : 5 ∉ S) (h6 : 6 ∉ S) : PcI β mi' ml := h.m (by rw [f 3 h3]) (f 4 h4) (f 5 h5) (f 6 h6) rfl rfl
theorem Cd.f {mi mi' : Mi} {S : List Nat} (h : Cd β mi) (f : fr S mi mi') (h1 : 1 ∉ S) (h2 : 2 ∉ S) : Cd β mi' := by
  unfold Cd
  rw [f 1 h1, f 2 h2]; exact h
set_option maxHeartbeats 1000000 in
/-- addMovesOfRow -/
theorem c50 {mi : Mi} {ml : Ml} {F : Mi → Ml → Prop} {x z : Int32} {y : Nat} (hx : x = nI y) (hz : z = nI (g y)) (hg : g y < 128) (hβ : Wf β) (hC : Cd β mi) (hP : PcI β mi ml) (hy : y < β 0) (hM : y + 1 < β 0 → MV β g (y + 1) mi) (h : ∀ mi', fr [16, 17] mi mi' → MV β g y mi' → (∀ k, (k < y * 35 ∨ y * 35 + 35 ≤ k) → mi' 16 k = mi 16 k) → F mi' ml) : Sg 50 0 [some (.ref 3), some (.int x), some (.int z), none] [] mi ml (qv F) := by
  subst hx hz
  have hH := hβ.1
  have hW := hβ.2.1
  have hn : β 2 < 8 := by have := hβ.2.2.1; omega
  have hN := tN_35 (len := β 3) hn hW.2
  refine rg50_0 ?_
  have snd : ∀ m1, fr [17] mi m1 → (∀ t, t < β 2 → m1 17 t = cj (g y) t) → Sg 50 32 [some (.ref 3), some (.int (nI y)), some (.int (nI (g y))), some (.int (nI 0))] [] m1 ml (qv F) := by
    intro m1 f1 f2
    have key := upI (tN (β 1) (β 2) (β 3)) (fun i (m2 : Mi) => fr [16] m1 m2 ∧ (∀ t, t < i → fit β y (so (β 1) (β 2) (β 3) t) = true → m2 16 (y * 35 + t) = nI (kk β g (β 0 - 1 - y) (so (β 1) (β 2) (β 3) t))) ∧ ∀ k, (k < y * 35 ∨ y * 35 + 35 ≤ k) → m2 16 k = m1 16 k) (fun i m2 => Sg 50 32 [some (.ref 3), some (.int (nI y)), some (.int (nI (g y))), some (.int (nI i))] [] m2 ml (qv F)) ?_ ?_
    · exact key 0 m1 (Nat.zero_le _) ⟨fr.rf, fun t ht => by omega, fun _ _ => rfl⟩
    · rintro m2 ⟨q1, q2, q3⟩
      have hP2 : PcI β m2 ml := (hP.f f1 (by decide) (by decide) (by decide) (by decide)).f q1 (by decide) (by decide) (by decide) (by decide)
      refine rg50_32 (pk_le (tN (β 1) (β 2) (β 3)) (tN (β 1) (β 2) (β 3)) (fun _ => ?_) (fun q => by omega) hP2.2.1.1.1.2.2.2 rfl)
      exact h m2 ((f1.mono (by decide)).tr (q1.mono (by decide))) q2 (fun k hk => by rw [q3 k hk, f1 16 (by decide)])
    · rintro i m2 hi ⟨q1, q2, q3⟩ ih
      have hP2 : PcI β m2 ml := (hP.f f1 (by decide) (by decide) (by decide) (by decide)).f q1 (by decide) (by decide) (by decide) (by decide)
      have hC2 : Cd β m2 := (hC.f f1 (by decide) (by decide)).f q1 (by decide) (by decide)
      have hM2 : y + 1 < β 0 → MV β g (y + 1) m2 := fun hy1 t ht hf => by rw [q3 _ (by omega), f1 16 (by decide)]; exact hM hy1 t ht hf
      refine rg50_32 (pk_le (tN (β 1) (β 2) (β 3)) i (fun q => by omega) (fun _ => ⟨pk_in y 7 (by omega), ?_⟩) hP2.2.1.1.1.2.2.2 rfl)
      have l1 := bmq_62 hn hW.2 (fit β y)
      rw [nI_clamp (by omega), hP2.2.2 y hy, lbit (by omega) (by omega), nI_1]
      have et : (bmq β (fit β y)).testBit i = fit β y (so (β 1) (β 2) (β 3) i) := by
        unfold bmq
        rw [bm_tb, show decide (i < tN (β 1) (β 2) (β 3)) = true by simpa using hi, Bool.true_and]
      rw [et]
      refine ⟨fun hf => ih m2 ⟨q1, fun t ht hft => ?_, q3⟩, fun hf => ?_⟩
      · rcases Nat.lt_succ_iff_lt_or_eq.mp ht with r | r
        · exact q2 t r hft
        · rw [r] at hft; exact absurd hft hf
      · refine c51 (a := g y) rfl hW.2 hn hP2.2.1 hi hC2.1.2.2.1 (fun j hj => by rw [q1 17 (by decide)]; exact f2 j hj) ?_
        refine c52 (g := g) rfl rfl hβ hC2 hP2 hy hi hM2 ?_
        have e35 : nI y * 35 = nI (y * 35) := pk_mul y 35
        rw [e35, nI_add, nI_clamp (by omega), nI_add]
        refine ⟨pk_in (y * 35 + i) 245 (by omega), ih _ ⟨q1.up (by decide), fun t ht hft => ?_, fun k hk => ?_⟩⟩
        · show va_up (m2 16) (y * 35 + i) _ (y * 35 + t) = _
          by_cases hti : t = i
          · subst hti
            rw [gm_upS, kk_kb, show β 0 - 1 - (β 0 - 1 - y) = y by omega]
          · rw [gm_upN (by omega)]; exact q2 t (by omega) hft
        · show va_up (m2 16) (y * 35 + i) _ k = _
          rw [gm_upN (by omega)]; exact q3 k hk
  have key := upI (β 2) (fun j (m1 : Mi) => fr [17] mi m1 ∧ ∀ t, t < j → m1 17 t = cj (g y) t) (fun j m1 => Sg 50 2 [some (.ref 3), some (.int (nI y)), some (.int (nI (g y))), some (.int (nI j))] [] m1 ml (qv F)) ?_ ?_
  · exact key 0 mi (Nat.zero_le _) ⟨fr.rf, fun t ht => by omega⟩
  · rintro m1 ⟨f1, f2⟩
    exact rg50_2 (pk_le (β 2) (β 2) (fun _ => snd m1 f1 f2) (fun q => by omega) (by rw [f1 1 (by decide)]; exact hC.1.2.2.1) rfl)
  · rintro j m1 hj ⟨f1, f2⟩ ih
    refine rg50_2 (pk_le (β 2) j (fun q => by omega) (fun _ => ?_) (by rw [f1 1 (by decide)]; exact hC.1.2.2.1) rfl)
    refine c110 rfl rfl (by omega) (by omega) ⟨pk_in j 7 (by omega), ?_⟩
    rw [nI_1, nI_clamp (by omega)]
    refine ih _ ⟨f1.up (by decide), fun t ht => ?_⟩
    show va_up (m1 17) j _ t = _
    by_cases htj : t = j
    · subst htj; exact gm_upS
    · rw [gm_upN htj]; exact f2 t (by omega)
/-- fewestMoves -/
theorem c49 {mi : Mi} {ml : Ml} {F : Int32 → Mi → Ml → Prop} (hβ : Wf β) (h3 : β 3 ≤ 7) (hC : Cd β mi) (hv : mi 3 12 = mi 1 5 → PcI β mi ml) (hT : TI 4 mi ml) (hS : SY 23 mi (β 2) g)
    (h : ∀ mi' ml', fr [3, 4, 5, 6, 16, 17] mi mi' → (∀ k, k ≠ 9 → k ≠ 12 → mi' 3 k = mi 3 k) → (∀ c, c ∉ [7, 8] → ml' c = ml c) → mi' 3 12 = mi 1 5 → PcI β mi' ml' → (whole β = true → ∀ y, y < β 0 → MV β g y mi') → F (if whole β then nI (few β g) else -1) mi' ml') : Sg 49 0 [some (.ref 3), some (.ref 23), none] [] mi ml (qi F) := by
  have hH := hβ.1
  have hW := hβ.2.1
  have hn : β 2 < 8 := by have := hβ.2.2.1; omega
  have hN := tN_35 (len := β 3) hn hW.2
  refine rg49_0 (c33 hβ h3 hC hv hT (fun m1 l1 a1 a2 a3 => ?_))
  have f1 : fr [3, 4, 5, 6] mi m1 := a1.1
  rw [a3.1]
  have e1 : m1 1 0 - 1 = nI (β 0) - 1 := by rw [f1 1 (by decide), hC.1.1]
  rw [e1]
  refine bqn (fun hw => ?_) (fun hw => ?_)
  · have hC1 : Cd β m1 := hC.f f1 (by decide) (by decide)
    have hS1 : SY 23 m1 (β 2) g := hS.m (f1 23 (by decide)) (f1 24 (by decide))
    have key : ∀ k m2, k ≤ β 0 → fr [16, 17] m1 m2 → (∀ y, k ≤ y → y < β 0 → MV β g y m2) → Sg 49 23 [some (.ref 3), some (.ref 23), some (.int (nI k - 1))] [] m2 l1 (qi F) := by
      intro k
      induction k with
      | zero =>
        intro m2 _ q1 q2
        refine rg49_23 ⟨fun _ => ?_, fun q => absurd (by decide) q⟩
        have hP2 : PcI β m2 l1 := a3.f q1 (by decide) (by decide) (by decide) (by decide)
        have e0 : (Int32.toNatClampNeg 0) = 0 := by decide
        rw [e0, hP2.2.2 0 (by omega)]
        have hf := (few_wh (g := g) hβ).mpr hw
        have hlt : few β g < 1000000 := hf
        have hMV := q2 0 (Nat.zero_le _) (by omega)
        have hkb : ∀ j, fit β 0 (so (β 1) (β 2) (β 3) j) = true → kk β g (β 0 - 1) (so (β 1) (β 2) (β 3) j) ≤ 2000 := fun j hj => kk_b (by omega) (by omega) (by rw [Nat.sub_self]; exact hj)
        refine c53 (y := 0) (p := fun j => fit β 0 (so (β 1) (β 2) (β 3) j)) (f := fun j => kk β g (β 0 - 1) (so (β 1) (β 2) (β 3) j)) rfl (by omega) rfl hN hP2.2.1.1.1.2.2.2 (fun j hj hpj => hMV j hj hpj) (fun j hj hpj => by have := hkb j hpj; omega) (fun hno => ?_) (fun j hj hpj hm hl => ?_)
        · exfalso
          have h1 : anyB (fbk β 0) (2 ^ (β 1)) = true := by rw [fbk_any hH.1 (β 0 - 1) 0 (by omega)]; exact hw
          rw [← so_anyQ (fun b hb => fbk_tp hb)] at h1
          obtain ⟨i, hi, h2⟩ := anyB_iff.mp h1
          unfold fbk at h2
          rw [Bool.and_eq_true] at h2
          have := hno i hi
          have h3 : fit β 0 (so (β 1) (β 2) (β 3) i) = true := h2.1
          rw [h3] at this; cases this
        · refine ⟨fun _ => ⟨pk_in (0 * 35 + j) 245 (by omega), ?_⟩, fun q => ?_⟩
          rotate_left
          · exfalso
            have h0 : ¬ nI (0 * 35 + j) < 0 := nI_pos (by omega)
            rw [Decidable.not_not.mp q] at h0
            exact h0 (by decide)
          rw [nI_clamp (by omega), hMV j hj hpj]
          have hmin : ∀ a, a < 2 ^ (β 1) → fit β 0 a = true → kk β g (β 0 - 1) (so (β 1) (β 2) (β 3) j) ≤ kk β g (β 0 - 1) a := fun a ha hfa => by
            have ht := fit_tp hfa
            have := hm (tx (β 2) (β 3) a) (tx_lt ha ht)
            simp only [so_tx ha ht] at this
            exact this hfa
          have := (mn_kk (g := g) (p := fit β 0) (q := sp (β 2)) (M := 2 ^ (β 1)) (d := β 0 - 1) (by omega) (by omega) (kr_all (by omega) _ (by omega)) (fun a => by rw [Nat.sub_self]; exact ⟨fun q => ⟨fit_sp q, q⟩, fun q => q.2⟩) hlt (so_ok hj).1 hpj hmin).1
          have e : kk β g (β 0 - 1 - 0) (so (β 1) (β 2) (β 3) j) = few β g := this
          rw [e]
          have fin := h m2 l1 ((f1.mono (by decide)).tr (q1.mono (by decide))) (fun k k9 k12 => by rw [q1 3 (by decide)]; exact a1.2.1 k k9 k12) a1.2.2 (by rw [q1 3 (by decide)]; exact a2) hP2 (fun _ y hy => q2 y (Nat.zero_le _) hy)
          rw [hw] at fin
          exact fin
      | succ k ih =>
        intro m2 hk q1 q2
        have hP2 : PcI β m2 l1 := a3.f q1 (by decide) (by decide) (by decide) (by decide)
        have hC2 : Cd β m2 := hC1.f q1 (by decide) (by decide)
        have hS2 : SY 23 m2 (β 2) g := hS1.m (q1 23 (by decide)) (q1 24 (by decide))
        rw [nI_pred]
        refine rg49_23 (pk_lt k 0 (fun q => by omega) (fun _ => ?_))
        refine c28 (g := g) (n := β 2) isY23 rfl hC2.1.2.2.1 (by omega) (by omega) hS2 ?_
        refine c50 (g := g) rfl rfl (hS2.1 k (by omega)) hβ hC2 hP2 (by omega) (fun hk1 => q2 (k + 1) (Nat.le_refl _) hk1) (fun m3 r1 r2 r3 => ?_)
        rw [i_m1]
        refine ih m3 (by omega) (q1.tr r1) (fun y hky hy => ?_)
        by_cases hyk : y = k
        · subst hyk; exact r2
        · intro i hi hf
          rw [r3 _ (by omega)]
          exact q2 y (by omega) hy i hi hf
    exact key (β 0) m1 (Nat.le_refl _) fr.rf (fun y h1 h2 => by omega)
  · have fin := h m1 l1 (f1.mono (by decide)) a1.2.1 a1.2.2 a2 a3 (fun q => by rw [hw] at q; cases q)
    rw [hw] at fin
    exact fin
end C59
