/-! chains: flows of cells, what is reached -/
/-- counting through an injection -/
theorem ct_inj {p : Nat → Bool} {f : Nat → Nat} {K : Nat} : ∀ (n : Nat) (q : Nat → Bool), (∀ k, k < n → p k = true → f k < K ∧ q (f k) = true) → (∀ k l, k < n → l < n → p k = true → p l = true → f k = f l → k = l) → fb_ct p n ≤ fb_ct q K
  | 0, _, _, _ => Nat.zero_le _
  | n + 1, q, h1, h2 => by
    rw [fb_ct_succ]
    cases hp : p n with
    | false =>
      have := ct_inj n q (fun k hk => h1 k (by omega)) (fun k l hk hl => h2 k l (by omega) (by omega))
      simpa using this
    | true =>
      obtain ⟨h3, h4⟩ := h1 n (by omega) hp
      have := ct_inj n (fun c => if c = f n then false else q c) (fun k hk hpk => by
        obtain ⟨h5, h6⟩ := h1 k (by omega) hpk
        refine ⟨h5, ?_⟩
        have hne : f k ≠ f n := fun e => by have := h2 k n (by omega) (by omega) hpk hp e; omega
        show (if f k = f n then false else q (f k)) = true
        rw [if_neg hne]; exact h6) (fun k l hk hl => h2 k l (by omega) (by omega))
      have hu := fb_ct_upd q false h3
      rw [h4, if_pos rfl, if_neg (by decide)] at hu
      rw [if_pos rfl]
      omega
theorem ct_sub_eq {p q : Nat → Bool} {n : Nat} (h : ∀ k, k < n → p k = true → q k = true) (e : fb_ct q n ≤ fb_ct p n) : ∀ k, k < n → q k = true → p k = true := by
  intro k hk hq
  cases hp : p k with
  | true => rfl
  | false =>
    have h1 : fb_ct p n ≤ fb_ct (fun c => if c = k then false else q c) n := fb_ct_sub fun c hc hpc => by
      by_cases hck : c = k
      · subst hck; rw [hp] at hpc; cases hpc
      · show (if c = k then false else q c) = true
        rw [if_neg hck]; exact h c hc hpc
    have h2 := fb_ct_upd q false hk
    rw [hq, if_pos rfl, if_neg (by decide)] at h2
    omega
theorem ct_two (p r : Nat → Bool) (n : Nat) : fb_ct p n = fb_ct (fun k => p k && r k) n + fb_ct (fun k => p k && !r k) n := by
  rw [← fb_ct_or]
  · refine fb_ct_cong fun k _ => ?_
    cases p k <;> cases r k <;> rfl
  · rintro k _ ⟨h1, h2⟩
    cases hr : r k <;> simp [hr] at h1 h2
section Flow
/-- a flow: P k is 0 (no chain), 1 (one begins), 2 + b (it comes from b) -/
def Flw (K : Nat) (bad out : Nat → Bool) (adj : Nat → Nat → Bool) (P : Nat → Nat) : Prop :=
  (∀ k, k < K → P k = 1 → bad k = true) ∧
  (∀ k b, k < K → P k = 2 + b → b < K ∧ adj b k = true ∧ P b ≠ 0 ∧ bad k = false) ∧
  (∀ k l b, k < K → l < K → P k = 2 + b → P l = 2 + b → k = l) ∧
  (∀ b, b < K → P b ≠ 0 → (∀ k, k < K → P k ≠ 2 + b) → out b = true)
/-- a step that is left -/
def Rs (K : Nat) (bad : Nat → Bool) (adj : Nat → Nat → Bool) (P : Nat → Nat) (v w : Nat) : Prop :=
  (∃ k, k < K ∧ v = 2 * k ∧ w = 2 * k + 1 ∧ P k = 0) ∨
  (∃ k b, k < K ∧ b < K ∧ v = 2 * k ∧ w = 2 * b + 1 ∧ P k = 2 + b) ∨
  (∃ k, k < K ∧ v = 2 * k + 1 ∧ w = 2 * k ∧ P k ≠ 0 ∧ bad k = false) ∨
  (∃ k b, k < K ∧ b < K ∧ v = 2 * k + 1 ∧ w = 2 * b ∧ adj k b = true ∧ bad b = false)
def Cld (K : Nat) (bad : Nat → Bool) (adj : Nat → Nat → Bool) (P : Nat → Nat) (R : Nat → Bool) : Prop :=
  (∀ k, k < K → bad k = true → R (2 * k) = true) ∧ ∀ v w, R v = true → Rs K bad adj P v w → R w = true
def Crt (K : Nat) (bad out : Nat → Bool) (adj : Nat → Nat → Bool) (P : Nat → Nat) (R : Nat → Bool) : Prop :=
  Flw K bad out adj P ∧ Cld K bad adj P R ∧ (∀ k, k < K → out k = true → R (2 * k + 1) = false) ∧ ∀ R', Cld K bad adj P R' → ∀ v, R v = true → R' v = true
def val (K : Nat) (P : Nat → Nat) : Nat := fb_ct (fun k => P k == 1) K
def ctu (K : Nat) (R : Nat → Bool) : Nat := fb_ct (fun k => R (2 * k) && !R (2 * k + 1)) K
variable {K : Nat} {bad out : Nat → Bool} {adj : Nat → Nat → Bool}
set_option maxHeartbeats 1000000 in
theorem cutN {P : Nat → Nat} {R : Nat → Bool} (hF : Flw K bad out adj P) (hs : ∀ k, k < K → bad k = true → R (2 * k) = true) (hd : ∀ k b, k < K → b < K → R (2 * k + 1) = true → adj k b = true → bad b = false → R (2 * b) = true) (ht : ∀ k, k < K → out k = true → R (2 * k + 1) = false) :
    val K P + fb_ct (fun k => decide (2 ≤ P k) && (R (2 * k) && !R (2 * (P k - 2) + 1))) K + fb_ct (fun k => decide (P k ≠ 0) && (R (2 * k + 1) && !R (2 * k))) K = fb_ct (fun k => decide (P k ≠ 0) && (R (2 * k) && !R (2 * k + 1))) K := by
  obtain ⟨f1, f2, f3, f4⟩ := hF
  -- those that are entered
  have eA : fb_ct (fun k => decide (P k ≠ 0) && R (2 * k)) K = val K P + fb_ct (fun k => decide (2 ≤ P k) && R (2 * k)) K := by
    unfold val
    rw [← fb_ct_or]
    · refine fb_ct_cong fun k hk => ?_
      by_cases h0 : P k = 0
      · simp [h0]
      · by_cases h1 : P k = 1
        · simp [h1, hs k hk (f1 k hk h1)]
        · have : 2 ≤ P k := by omega
          simp [h0, h1, this]
    · rintro k _ ⟨h1, h2⟩
      simp at h1 h2
      omega
  have eB : fb_ct (fun k => decide (2 ≤ P k) && R (2 * k)) K = fb_ct (fun k => decide (2 ≤ P k) && R (2 * (P k - 2) + 1)) K + fb_ct (fun k => decide (2 ≤ P k) && (R (2 * k) && !R (2 * (P k - 2) + 1))) K := by
    rw [← fb_ct_or]
    · refine fb_ct_cong fun k hk => ?_
      by_cases h2 : 2 ≤ P k
      · obtain ⟨g1, g2, g3, g4⟩ := f2 k (P k - 2) hk (by omega)
        cases hx : R (2 * (P k - 2) + 1) with
        | false => simp [h2]
        | true => simp [h2, hd _ k g1 hk hx g2 g4]
      · simp [h2]
    · rintro k _ ⟨h1, h2⟩
      simp only [Bool.and_eq_true] at h1 h2
      rw [h1.2] at h2
      simp at h2
  have eC : fb_ct (fun k => decide (2 ≤ P k) && R (2 * (P k - 2) + 1)) K = fb_ct (fun k => decide (P k ≠ 0) && R (2 * k + 1)) K := by
    refine Nat.le_antisymm ?_ ?_
    · refine ct_inj (f := fun k => P k - 2) K _ (fun k hk hp => ?_) (fun k l hk hl hp hq e => ?_)
      · simp only [Bool.and_eq_true, decide_eq_true_eq] at hp
        obtain ⟨g1, g2, g3, g4⟩ := f2 k (P k - 2) hk (by omega)
        refine ⟨g1, ?_⟩
        simp only [Bool.and_eq_true, decide_eq_true_eq]
        exact ⟨g3, hp.2⟩
      · simp only [Bool.and_eq_true, decide_eq_true_eq] at hp hq
        have e' : P k - 2 = P l - 2 := e
        exact f3 k l (P k - 2) hk hl (by omega) (by omega)
    · have ex : ∀ b, b < K → (decide (P b ≠ 0) && R (2 * b + 1)) = true → fsN (fun k => P k == 2 + b) K < K ∧ P (fsN (fun k => P k == 2 + b) K) = 2 + b := by
        intro b hb hp
        simp only [Bool.and_eq_true, decide_eq_true_eq] at hp
        rcases Nat.lt_or_ge (fsN (fun k => P k == 2 + b) K) K with q | q
        · have := (fsN_lt q).1
          exact ⟨q, by simpa using this⟩
        · have hno : ∀ k, k < K → P k ≠ 2 + b := by
            intro k hk he
            obtain ⟨j, ⟨hj, hpj⟩, hm⟩ := pk_least (fun k => k < K ∧ P k = 2 + b) ⟨k, hk, he⟩
            have := fsN_eq (p := fun k => P k == 2 + b) hj (by simpa using hpj) (fun i hi => by
              cases hq : (P i == 2 + b) with
              | false => rfl
              | true => exact absurd ⟨by omega, by simpa using hq⟩ (hm i hi))
            omega
          have := ht b hb (f4 b hb hp.1 hno)
          rw [this] at hp
          exact absurd hp.2 (by decide)
      refine ct_inj (f := fun b => fsN (fun k => P k == 2 + b) K) K _ (fun b hb hp => ?_) (fun b c hb hc hp hq e => ?_)
      · obtain ⟨g1, g2⟩ := ex b hb hp
        refine ⟨g1, ?_⟩
        simp only [Bool.and_eq_true, decide_eq_true_eq] at hp ⊢
        show 2 ≤ P (fsN (fun k => P k == 2 + b) K) ∧ R (2 * (P (fsN (fun k => P k == 2 + b) K) - 2) + 1) = true
        rw [g2]
        exact ⟨by omega, by rw [show 2 + b - 2 = b by omega]; exact hp.2⟩
      · obtain ⟨g1, g2⟩ := ex b hb hp
        obtain ⟨g3, g4⟩ := ex c hc hq
        have e' : fsN (fun k => P k == 2 + b) K = fsN (fun k => P k == 2 + c) K := e
        rw [e'] at g2
        omega
  have t1 := ct_two (fun k => decide (P k ≠ 0) && R (2 * k)) (fun k => R (2 * k + 1)) K
  have t2 := ct_two (fun k => decide (P k ≠ 0) && R (2 * k + 1)) (fun k => R (2 * k)) K
  have c1 : fb_ct (fun k => decide (P k ≠ 0) && R (2 * k) && R (2 * k + 1)) K = fb_ct (fun k => decide (P k ≠ 0) && R (2 * k + 1) && R (2 * k)) K := fb_ct_cong fun k _ => by
    rw [Bool.and_assoc, Bool.and_assoc, Bool.and_comm (R (2 * k))]
  have c2 : fb_ct (fun k => decide (P k ≠ 0) && R (2 * k) && !R (2 * k + 1)) K = fb_ct (fun k => decide (P k ≠ 0) && (R (2 * k) && !R (2 * k + 1))) K := fb_ct_cong fun k _ => by rw [Bool.and_assoc]
  have c3 : fb_ct (fun k => decide (P k ≠ 0) && R (2 * k + 1) && !R (2 * k)) K = fb_ct (fun k => decide (P k ≠ 0) && (R (2 * k + 1) && !R (2 * k))) K := fb_ct_cong fun k _ => by rw [Bool.and_assoc]
  omega
theorem Crt.d {P : Nat → Nat} {R : Nat → Bool} (h : Cld K bad adj P R) : ∀ k b, k < K → b < K → R (2 * k + 1) = true → adj k b = true → bad b = false → R (2 * b) = true :=
  fun k b hk hb hr ha hn => h.2 _ _ hr (Or.inr (Or.inr (Or.inr ⟨k, b, hk, hb, rfl, rfl, ha, hn⟩)))
/-- of a certificate, the flow is as great as the cut -/
theorem crt_val {P : Nat → Nat} {R : Nat → Bool} (h : Crt K bad out adj P R) : val K P = ctu K R := by
  obtain ⟨h1, h2, h3, h4⟩ := h
  have hc := cutN h1 h2.1 (Crt.d h2) h3
  have z1 : fb_ct (fun k => decide (2 ≤ P k) && (R (2 * k) && !R (2 * (P k - 2) + 1))) K = 0 := fb_ct_zero.mpr fun k hk => by
    by_cases hp : 2 ≤ P k
    · cases hr : R (2 * k) with
      | false => simp
      | true =>
        obtain ⟨g1, g2, g3, g4⟩ := h1.2.1 k (P k - 2) hk (by omega)
        have := h2.2 _ (2 * (P k - 2) + 1) hr (Or.inr (Or.inl ⟨k, P k - 2, hk, g1, rfl, rfl, by omega⟩))
        rw [this]; simp
    · simp [hp]
  have z2 : fb_ct (fun k => decide (P k ≠ 0) && (R (2 * k + 1) && !R (2 * k))) K = 0 := fb_ct_zero.mpr fun k hk => by
    by_cases hp : P k = 0
    · simp [hp]
    · cases hr : R (2 * k + 1) with
      | false => simp
      | true =>
        have : R (2 * k) = true := by
          cases hb : bad k with
          | true => exact h2.1 k hk hb
          | false => exact h2.2 _ _ hr (Or.inr (Or.inr (Or.inl ⟨k, hk, rfl, rfl, hp, hb⟩)))
        rw [this]; simp
  have z3 : fb_ct (fun k => decide (P k ≠ 0) && (R (2 * k) && !R (2 * k + 1))) K = ctu K R := by
    refine fb_ct_cong fun k hk => ?_
    by_cases hp : P k = 0
    · cases hr : R (2 * k) with
      | false => simp
      | true =>
        have := h2.2 _ _ hr (Or.inl ⟨k, hk, rfl, rfl, hp⟩)
        rw [this]; simp
    · simp [hp]
  omega
theorem crt_le {P P' : Nat → Nat} {R : Nat → Bool} (h : Crt K bad out adj P R) (hF : Flw K bad out adj P') : val K P' ≤ val K P := by
  have hc := cutN hF h.2.1.1 (Crt.d h.2.1) h.2.2.1
  have : fb_ct (fun k => decide (P' k ≠ 0) && (R (2 * k) && !R (2 * k + 1))) K ≤ ctu K R := fb_ct_sub fun k _ hk => by
    rw [Bool.and_eq_true] at hk; exact hk.2
  rw [crt_val h]
  omega
theorem crt_sub {P P' : Nat → Nat} {R R' : Nat → Bool} (h : Crt K bad out adj P R) (h' : Crt K bad out adj P' R') (e : val K P' = val K P) : ∀ v, R' v = true → R v = true := by
  refine h'.2.2.2 R ⟨h.2.1.1, ?_⟩
  have hc := cutN h'.1 h.2.1.1 (Crt.d h.2.1) h.2.2.1
  have hsub : ∀ k, k < K → (decide (P' k ≠ 0) && (R (2 * k) && !R (2 * k + 1))) = true → (R (2 * k) && !R (2 * k + 1)) = true := fun k _ hk => by
    rw [Bool.and_eq_true] at hk; exact hk.2
  have hle : fb_ct (fun k => decide (P' k ≠ 0) && (R (2 * k) && !R (2 * k + 1))) K ≤ ctu K R := fb_ct_sub hsub
  have hv := crt_val h
  have hall := ct_sub_eq (p := fun k => decide (P' k ≠ 0) && (R (2 * k) && !R (2 * k + 1))) (q := fun k => R (2 * k) && !R (2 * k + 1)) hsub (by show ctu K R ≤ _; omega)
  have z1 := (fb_ct_zero (p := fun k => decide (2 ≤ P' k) && (R (2 * k) && !R (2 * (P' k - 2) + 1))) (n := K)).mp (by omega)
  have z2 := (fb_ct_zero (p := fun k => decide (P' k ≠ 0) && (R (2 * k + 1) && !R (2 * k))) (n := K)).mp (by omega)
  rintro v w hv (⟨k, hk, rfl, rfl, hp⟩ | ⟨k, b, hk, hb, rfl, rfl, hp⟩ | ⟨k, hk, rfl, rfl, hp, hb⟩ | ⟨k, b, hk, hb, rfl, rfl, ha, hn⟩)
  · cases hr : R (2 * k + 1) with
    | true => rfl
    | false =>
      have := hall k hk (by rw [hv, hr]; rfl)
      rw [hp] at this
      simp at this
  · cases hr : R (2 * b + 1) with
    | true => rfl
    | false =>
      have := z1 k hk
      rw [hp, show 2 + b - 2 = b by omega, hv, hr] at this
      simp at this
  · cases hr : R (2 * k) with
    | true => rfl
    | false =>
      have := z2 k hk
      rw [hv, hr] at this
      simp [hp] at this
  · exact Crt.d h.2.1 k b hk hb hv ha hn
/-- two certificates say the same -/
theorem crt_uniq {P P' : Nat → Nat} {R R' : Nat → Bool} (h : Crt K bad out adj P R) (h' : Crt K bad out adj P' R') : val K P = val K P' ∧ R = R' := by
  have e : val K P = val K P' := Nat.le_antisymm (crt_le h' h.1) (crt_le h h'.1)
  refine ⟨e, funext fun v => ?_⟩
  rw [Bool.eq_iff_iff]
  exact ⟨crt_sub h' h e v, crt_sub h h' e.symm v⟩
end Flow
