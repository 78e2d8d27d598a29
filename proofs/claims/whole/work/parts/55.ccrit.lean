/-! the placer: critical cells -/
/-- a seat of row β 0 - 1 - d goes on to the last row -/
def kc (β : Bd) : Nat → Nat → Bool
  | 0, b => fit β (β 0 - 1) b
  | d + 1, b => fit β (β 0 - 1 - (d + 1)) b && anyB (fun a => kc β d a && mt (β 3) (β 2) b a) (2 ^ (β 1))
theorem kc_fit {β : Bd} {d b : Nat} (h : kc β d b = true) : fit β (β 0 - 1 - d) b = true := by
  cases d with
  | zero => exact h
  | succ d => rw [kc, Bool.and_eq_true] at h; exact h.1
/-- a seat of row y is of a placing -/
def fbk (β : Bd) (y b : Nat) : Bool := rc β 0 y b && kc β (β 0 - 1 - y) b
theorem fbk_tp {β : Bd} {y b : Nat} (h : fbk β y b = true) : tp (β 2) (β 3) b = true := by unfold fbk at h; rw [Bool.and_eq_true] at h; exact rc_tp h.1
theorem fit_lt {β : Bd} {y b : Nat} (h : fit β y b = true) : sp (β 2) b = true := fit_sp h
theorem fbk_step {β : Bd} {y b : Nat} (hy : y + 1 < β 0) (hb : b < 2 ^ (β 1)) : (rc β 0 y b && anyB (fun a => fbk β (y + 1) a && mt (β 3) (β 2) a b) (2 ^ (β 1))) = fbk β y b := by
  obtain ⟨d, hd⟩ : ∃ d, d = β 0 - 1 - (y + 1) := ⟨_, rfl⟩
  have hd1 : β 0 - 1 - y = d + 1 := by omega
  have hy1 : β 0 - 1 - (d + 1) = y := by omega
  rw [Bool.eq_iff_iff, Bool.and_eq_true, anyB_iff]
  unfold fbk
  rw [hd1, ← hd, kc, hy1]
  constructor
  · rintro ⟨h1, a, ha, h2⟩
    simp only [Bool.and_eq_true] at h2
    have hf := rc_fit h1
    rw [Nat.zero_add] at hf
    rw [h1, hf, Bool.true_and, Bool.true_and]
    exact anyB_iff.mpr ⟨a, ha, by rw [h2.1.2, mt_sym, h2.2]; rfl⟩
  · intro h
    simp only [Bool.and_eq_true] at h
    obtain ⟨a, ha, h2⟩ := anyB_iff.mp h.2.2
    simp only [Bool.and_eq_true] at h2
    refine ⟨h.1, a, ha, ?_⟩
    have hka := kc_fit h2.1
    rw [hd, show β 0 - 1 - (β 0 - 1 - (y + 1)) = 0 + (y + 1) by omega] at hka
    have : rc β 0 (y + 1) a = true := by
      rw [rc, hka, Bool.true_and]
      exact anyB_iff.mpr ⟨b, hb, by rw [h.1, h2.2]; rfl⟩
    rw [this, h2.1, mt_sym, h2.2]; rfl
theorem fbk_last {β : Bd} (hH : 1 ≤ β 0) (b : Nat) : fbk β (β 0 - 1) b = rc β 0 (β 0 - 1) b := by
  unfold fbk
  rw [Nat.sub_self, kc]
  cases h : rc β 0 (β 0 - 1) b with
  | false => rfl
  | true =>
    have := rc_fit h
    rw [Nat.zero_add] at this
    rw [this]; rfl
theorem fbk_any {β : Bd} (hH : 1 ≤ β 0) : ∀ d y, y + d + 1 = β 0 → anyB (fbk β y) (2 ^ (β 1)) = whole β
  | 0, y, h => by
    have : y = β 0 - 1 := by omega
    subst this
    unfold whole wh
    rw [Nat.sub_zero]
    exact anyB_cong fun b _ => fbk_last hH b
  | d + 1, y, h => by
    rw [← fbk_any hH d (y + 1) (by omega), Bool.eq_iff_iff, anyB_iff, anyB_iff]
    constructor
    · rintro ⟨b, hb, h1⟩
      rw [← fbk_step (by omega) hb, Bool.and_eq_true, anyB_iff] at h1
      obtain ⟨a, ha, h2⟩ := h1.2
      rw [Bool.and_eq_true] at h2
      exact ⟨a, ha, h2.1⟩
    · rintro ⟨a, ha, h1⟩
      have h1' := h1
      unfold fbk at h1
      rw [Bool.and_eq_true, rc, Bool.and_eq_true, anyB_iff] at h1
      obtain ⟨b, hb, h2⟩ := h1.1.2
      rw [Bool.and_eq_true] at h2
      refine ⟨b, hb, ?_⟩
      rw [← fbk_step (by omega) hb, h2.1, Bool.true_and]
      exact anyB_iff.mpr ⟨a, ha, by rw [h1', mt_sym, h2.2]; rfl⟩
theorem or_and0 (v x b : Nat) : ((v ||| 2 ^ x) &&& b == 0) = ((v &&& b == 0) && !b.testBit x) := by
  rw [Bool.eq_iff_iff, Bool.and_eq_true, beq_iff_eq, beq_iff_eq, Bool.not_eq_true']
  constructor
  · intro h
    have tb : ∀ i, ((v ||| 2 ^ x) &&& b).testBit i = false := fun i => by rw [h]; simp
    refine ⟨Nat.eq_of_testBit_eq fun i => ?_, ?_⟩
    · have := tb i
      rw [Nat.testBit_and, Nat.testBit_or] at this
      rw [Nat.testBit_and, Nat.zero_testBit]
      cases hv : v.testBit i <;> cases hb : b.testBit i <;> simp [hv, hb] at this ⊢
    · have := tb x
      rw [Nat.testBit_and, Nat.testBit_or, Nat.testBit_two_pow_self, Bool.or_true, Bool.true_and] at this
      exact this
  · rintro ⟨h1, h2⟩
    apply Nat.eq_of_testBit_eq
    intro i
    rw [Nat.testBit_and, Nat.testBit_or, Nat.zero_testBit]
    have := congrArg (fun z => z.testBit i) h1
    simp only [Nat.testBit_and, Nat.zero_testBit] at this
    by_cases hi : i = x
    · subst hi; rw [h2, Bool.and_false]
    · have h3 : (2 ^ x).testBit i = false := by rw [Nat.testBit_two_pow]; simp; omega
      rw [h3, Bool.or_false]; exact this
theorem qe0 {a q : Nat} (h : 0 = a - 1 - q) (hq : q < a) : a - 1 = q := by omega
theorem qn0 {a q : Nat} (h : ¬ 0 = a - 1 - q) (hq : q < a) : ¬ a - 1 = q := by omega
theorem qe1 {a q d : Nat} (h : d + 1 = a - 1 - q) (hq : q < a) : a - 1 - (d + 1) = q := by omega
theorem qn1 {a q d : Nat} (h : ¬ d + 1 = a - 1 - q) (hd : d + 1 ≤ a - 1 - q) (hq : q < a) : ¬ a - 1 - (d + 1) = q := by omega
section Crit
variable {β : Bd} {k : Nat}
theorem fit_bs (hβ : Wf β) (hk : k < β 0 * β 1) (z b : Nat) : fit (bs β k true) z b = if z = k / β 1 then fit β z b && !b.testBit (k % β 1) else fit β z b := by
  unfold fit
  rw [bs_lo (by decide), bs_lo (by decide)]
  by_cases hz : z = k / β 1
  · rw [if_pos hz]
    have : bs β k true (8 + z) = β (8 + k / β 1) ||| 2 ^ (k % β 1) := by rw [hz]; unfold bs bu; rw [gm_upS]; rfl
    rw [this, or_and0, hz, Bool.and_assoc, Bool.and_assoc]
  · rw [if_neg hz]
    have : bs β k true (8 + z) = β (8 + z) := gm_upN (by omega)
    rw [this]
theorem rc_bs (hβ : Wf β) (hk : k < β 0 * β 1) : ∀ z b, z ≤ k / β 1 → rc (bs β k true) 0 z b = if z = k / β 1 then rc β 0 z b && !b.testBit (k % β 1) else rc β 0 z b
  | 0, b, _ => by
    rw [rc, rc, fit_bs hβ hk]
  | z + 1, b, hz => by
    have ih := fun a => rc_bs hβ hk z a (by omega)
    rw [rc, rc, fit_bs hβ hk, bs_lo (by decide), bs_lo (by decide), bs_lo (by decide), Nat.zero_add]
    have : anyB (fun a => rc (bs β k true) 0 z a && mt (β 3) (β 2) a b) (2 ^ β 1) = anyB (fun a => rc β 0 z a && mt (β 3) (β 2) a b) (2 ^ β 1) := anyB_cong fun a _ => by rw [ih a, if_neg (by omega)]
    rw [this]
    split
    · rw [Bool.and_assoc, Bool.and_comm (!b.testBit _), ← Bool.and_assoc]
    · rfl
theorem kc_bs (hβ : Wf β) (hk : k < β 0 * β 1) : ∀ d b, d ≤ β 0 - 1 - k / β 1 → kc (bs β k true) d b = if d = β 0 - 1 - k / β 1 then kc β d b && !b.testBit (k % β 1) else kc β d b
  | 0, b, hd => by
    have hH := kH hk
    rw [kc, kc, bs_lo (by decide), fit_bs hβ hk]
    by_cases h : 0 = β 0 - 1 - k / β 1
    · rw [if_pos h, if_pos (qe0 h hH)]
    · rw [if_neg h, if_neg (qn0 h hH)]
  | d + 1, b, hd => by
    have hH := kH hk
    have ih := fun a => kc_bs hβ hk d a (by omega)
    rw [kc, kc, bs_lo (by decide), fit_bs hβ hk, bs_lo (by decide), bs_lo (by decide), bs_lo (by decide)]
    have : anyB (fun a => kc (bs β k true) d a && mt (β 3) (β 2) b a) (2 ^ β 1) = anyB (fun a => kc β d a && mt (β 3) (β 2) b a) (2 ^ β 1) := anyB_cong fun a _ => by rw [ih a, if_neg (by omega)]
    rw [this]
    by_cases h : d + 1 = β 0 - 1 - k / β 1
    · rw [if_pos h, if_pos (qe1 h hH), Bool.and_assoc, Bool.and_comm (!b.testBit _), ← Bool.and_assoc]
    · rw [if_neg h, if_neg (qn1 h hd hH)]
theorem whole_bs (hβ : Wf β) (hk : k < β 0 * β 1) : whole (bs β k true) = anyB (fun b => fbk β (k / β 1) b && !b.testBit (k % β 1)) (2 ^ (β 1)) := by
  have hH := kH hk
  have h0 : bs β k true 0 = β 0 := bs_lo (by decide)
  have h1 : bs β k true 1 = β 1 := bs_lo (by decide)
  rw [← fbk_any (by rw [h0]; exact hβ.1.1) (β 0 - 1 - k / β 1) (k / β 1) (by rw [h0]; omega), h1]
  refine anyB_cong fun b _ => ?_
  unfold fbk
  rw [rc_bs hβ hk _ b (Nat.le_refl _), if_pos rfl, h0, kc_bs hβ hk _ b (Nat.le_refl _), if_pos rfl]
  cases rc β 0 (k / β 1) b <;> cases kc β (β 0 - 1 - k / β 1) b <;> cases b.testBit (k % β 1) <;> rfl
/-- critical columns of a row -/
def cri (β : Bd) (y : Nat) : Nat := ca (β 1) (so (β 1) (β 2) (β 3)) (fun i => fbk β y (so (β 1) (β 2) (β 3) i)) (tN (β 1) (β 2) (β 3))
theorem cri_tb {y x : Nat} : (cri β y).testBit x = true ↔ (x < β 1 ∧ ∀ b, b < 2 ^ (β 1) → fbk β y b = true → b.testBit x = true) := by
  unfold cri
  rw [ca_tb]
  constructor
  · rintro ⟨h1, h2⟩
    refine ⟨h1, fun b hb hf => ?_⟩
    have ht := fbk_tp hf
    have := h2 (tx (β 2) (β 3) b) (tx_lt hb ht)
    rw [so_tx hb ht] at this
    exact this hf
  · rintro ⟨h1, h2⟩
    exact ⟨h1, fun i hi hf => h2 _ (so_ok hi).1 hf⟩
theorem cri_bit (hβ : Wf β) (hwh : whole β = true) (hk : k < β 0 * β 1) : (cri β (k / β 1)).testBit (k % β 1) = crb β k := by
  have hH := kH hk
  have hx := kW (k := k) hβ.2.1.1
  have hne : anyB (fbk β (k / β 1)) (2 ^ (β 1)) = true := by rw [fbk_any hβ.1.1 (β 0 - 1 - k / β 1) (k / β 1) (by omega)]; exact hwh
  unfold crb
  rw [whole_bs hβ hk]
  cases hb : bt β k with
  | true =>
    obtain ⟨b, hb2, hf⟩ := anyB_iff.mp hne
    have hfit : fit β (k / β 1) b = true := by
      unfold fbk at hf
      rw [Bool.and_eq_true] at hf
      have := rc_fit hf.1
      rw [Nat.zero_add] at this; exact this
    have hnb : b.testBit (k % β 1) = false := by
      unfold fit at hfit
      simp only [Bool.and_eq_true, beq_iff_eq] at hfit
      have := congrArg (fun z => z.testBit (k % β 1)) hfit.2.2
      simp only [Nat.testBit_and, Nat.zero_testBit] at this
      have hb' : (β (8 + k / β 1)).testBit (k % β 1) = true := hb
      rw [hb', Bool.true_and] at this
      exact this
    show _ = (!true && _)
    rw [Bool.not_true, Bool.false_and]
    cases hc : (cri β (k / β 1)).testBit (k % β 1) with
    | false => rfl
    | true =>
      have := (cri_tb.mp hc).2 b hb2 hf
      rw [hnb] at this; cases this
  | false =>
    rw [Bool.not_false, Bool.true_and, Bool.eq_iff_iff, cri_tb, Bool.not_eq_true', anyB_false]
    constructor
    · rintro ⟨_, h2⟩ b hb2
      cases hf : fbk β (k / β 1) b with
      | false => rfl
      | true => rw [h2 b hb2 hf]; rfl
    · intro h2
      refine ⟨hx, fun b hb2 hf => ?_⟩
      have := h2 b hb2
      rw [hf, Bool.true_and] at this
      simpa using this
theorem cri_128 (hw : β 1 ≤ 7) (y : Nat) : cri β y < 128 := Nat.lt_of_lt_of_le (ca_lt _) (pw7 hw)
end Crit
