/-! the words of this claim: columns, seats, boards -/
def bI (b : Bool) : Int32 := if b then 1 else 0
theorem bI_0 {b : Bool} : bI b = 0 ↔ b = false := by cases b <;> simp [bI]
theorem bI_1 {b : Bool} : bI b = 1 ↔ b = true := by cases b <;> simp [bI]
theorem bI_01 (b : Bool) : bI b = 0 ∨ bI b = 1 := by cases b <;> simp [bI]
theorem bI_t : bI true = 1 := rfl
theorem bI_f : bI false = 0 := rfl
/-- branches on a truth -/
theorem bq {b : Bool} {A B : Prop} (f : b = false → A) (g : b = true → B) : (bI b = 0 → A) ∧ (¬ bI b = 0 → B) := ⟨fun h => f (bI_0.mp h), fun h => g (by cases b; exact absurd rfl h; rfl)⟩
theorem bqn {b : Bool} {A B : Prop} (f : b = true → A) (g : b = false → B) : (¬ bI b = 0 → A) ∧ (¬ ¬ bI b = 0 → B) := ⟨fun h => f (by cases b; exact absurd rfl h; rfl), fun h => g (by cases b; rfl; exact absurd (by simp [bI]) h)⟩
theorem pk_ne {x y : Int32} {A B : Prop} (a b : Nat) (f : a ≠ b → A) (g : a = b → B) (hx : x = nI a := by rfl) (hy : y = nI b := by rfl) (ha : a < 2 ^ 31 := by omega) (hb : b < 2 ^ 31 := by omega) : (¬ x = y → A) ∧ (¬ ¬ x = y → B) := by
  subst hx hy
  rw [nI_eq ha hb]
  exact ⟨f, fun z => g (Decidable.not_not.mp z)⟩
/-- an int is a number up to n, or isn't -/
theorem rgI (x : Int32) (n : Nat) (hn : n < 2 ^ 31) : (∃ s : Nat, s ≤ n ∧ x = nI s) ∨ (x < 0 ∨ nI n < x) := by
  by_cases h : x < 0
  · exact Or.inr (Or.inl h)
  · obtain ⟨j, hj, rfl⟩ := nI_of h
    by_cases h2 : j ≤ n
    · exact Or.inl ⟨j, h2, rfl⟩
    · exact Or.inr (Or.inr ((nI_ltI hn hj).mpr (by omega)))
theorem nI_lt_iff {a b : Nat} (ha : a < 2 ^ 31) (hb : b < 2 ^ 31) : nI a < nI b ↔ a < b := nI_ltI ha hb
/-- up from i to e -/
theorem upI {σ : Type} (e : Nat) (I G : Nat → σ → Prop) (hend : ∀ s, I e s → G e s) (hstep : ∀ i s, i < e → I i s → (∀ s', I (i + 1) s' → G (i + 1) s') → G i s) : ∀ i s, i ≤ e → I i s → G i s := by
  intro i s hi h
  obtain ⟨d, hd⟩ : ∃ d, d = e - i := ⟨_, rfl⟩
  induction d generalizing i s with
  | zero =>
    have : i = e := by omega
    subst this
    exact hend s h
  | succ d ih =>
    exact hstep i s (by omega) h (fun s' h' => ih (i + 1) s' (by omega) h' (by omega))
/-- bits below 2^7 -/
abbrev ct (b n : Nat) : Nat := fb_ct (fun x => b.testBit x) n
theorem ct_succ (b n : Nat) : ct b (n + 1) = ct b n + (if b.testBit n then 1 else 0) := rfl
def pcn (b : Nat) : Nat := ct b 7
/-- the column of a task; 7: none -/
def cn (b j : Nat) : Nat := ((List.range 7).find? (fun x => b.testBit x && (ct b x == j))).getD 7
def cj (b j : Nat) : Int32 := if cn b j = 7 then -1 else nI (cn b j)
theorem cn_le (b j : Nat) : cn b j ≤ 7 := by
  unfold cn
  cases h : (List.range 7).find? (fun x => b.testBit x && (ct b x == j)) with
  | none => simp
  | some x =>
    have := List.mem_of_find?_eq_some h
    simp at this
    simp; omega
theorem cn_yes {b j : Nat} (h : cn b j < 7) : b.testBit (cn b j) = true ∧ ct b (cn b j) = j := by
  unfold cn at h ⊢
  cases hf : (List.range 7).find? (fun x => b.testBit x && (ct b x == j)) with
  | none => rw [hf] at h; simp at h
  | some x =>
    have := List.find?_some hf
    simp at this
    simpa using this
theorem cn_eq {b j x : Nat} (hx : x < 7) (h1 : b.testBit x = true) (h2 : ct b x = j) : cn b j = x := by
  have hne : cn b j < 7 := by
    unfold cn
    cases hf : (List.range 7).find? (fun x => b.testBit x && (ct b x == j)) with
    | none =>
      rw [List.find?_eq_none] at hf
      have := hf x (by simpa using hx)
      simp [h1, h2] at this
    | some y =>
      have := List.mem_of_find?_eq_some hf
      simp at this
      simpa using this
  have h := cn_yes hne
  exact fb_ct_kth_one h.1 h1 (h.2.trans h2.symm)
theorem cn_lt {b j : Nat} (h : j < pcn b) : cn b j < 7 := by
  obtain ⟨i, hi, h1, h2⟩ := fb_ct_kth h
  rw [cn_eq hi h1 h2]
  exact hi
theorem cn_no {b j : Nat} (h : pcn b ≤ j) : cn b j = 7 := by
  have h1 := cn_le b j
  by_cases h2 : cn b j < 7
  · have h3 := cn_yes h2
    have h4 : ct b (cn b j + 1) ≤ pcn b := fb_ct_mono _ (by omega)
    have h5 : ct b (cn b j + 1) = ct b (cn b j) + 1 := by rw [ct_succ, h3.1]; rfl
    omega
  · omega
theorem cj_eq {b j : Nat} (h : j < pcn b) : cj b j = nI (cn b j) := by
  unfold cj
  rw [if_neg (by have := cn_lt h; omega)]
theorem tb_lt {b n x : Nat} (h : b < 2 ^ n) (hx : n ≤ x) : b.testBit x = false := Nat.testBit_lt_two_pow (Nat.lt_of_lt_of_le h (Nat.pow_le_pow_right (by decide) hx))
