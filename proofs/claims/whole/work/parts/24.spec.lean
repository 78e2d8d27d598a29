/-! seats, what fits, what is whole -/
def allB (p : Nat → Bool) : Nat → Bool
  | 0 => true
  | n + 1 => allB p n && p n
def anyB (p : Nat → Bool) : Nat → Bool
  | 0 => false
  | n + 1 => anyB p n || p n
theorem allB_iff {p : Nat → Bool} {n : Nat} : allB p n = true ↔ ∀ k, k < n → p k = true := by
  induction n with
  | zero => simp [allB]
  | succ n ih =>
    rw [allB, Bool.and_eq_true, ih]
    constructor
    · rintro ⟨h1, h2⟩ k hk
      rcases Nat.lt_succ_iff_lt_or_eq.mp hk with h | rfl
      · exact h1 k h
      · exact h2
    · intro h
      exact ⟨fun k hk => h k (by omega), h n (by omega)⟩
theorem anyB_iff {p : Nat → Bool} {n : Nat} : anyB p n = true ↔ ∃ k, k < n ∧ p k = true := by
  induction n with
  | zero => simp [anyB]
  | succ n ih =>
    rw [anyB, Bool.or_eq_true, ih]
    constructor
    · rintro (⟨k, h1, h2⟩ | h)
      · exact ⟨k, by omega, h2⟩
      · exact ⟨n, by omega, h⟩
    · rintro ⟨k, h1, h2⟩
      rcases Nat.lt_succ_iff_lt_or_eq.mp h1 with h | rfl
      · exact Or.inl ⟨k, h, h2⟩
      · exact Or.inr h2
theorem anyB_cong {p q : Nat → Bool} {n : Nat} (h : ∀ k, k < n → p k = q k) : anyB p n = anyB q n := by
  rw [Bool.eq_iff_iff, anyB_iff, anyB_iff]
  constructor <;> rintro ⟨k, h1, h2⟩ <;> exact ⟨k, h1, by first | rw [← h k h1]; exact h2 | rw [h k h1]; exact h2⟩
theorem anyB_false {p : Nat → Bool} {n : Nat} : anyB p n = false ↔ ∀ k, k < n → p k = false := by
  rw [← Bool.not_eq_true, anyB_iff]
  constructor
  · intro h k hk
    cases hp : p k with
    | false => rfl
    | true => exact absurd ⟨k, hk, hp⟩ h
  · rintro h ⟨k, hk, hp⟩
    rw [h k hk] at hp
    cases hp
/-- from places to what stands there -/
theorem cmp_ct {p f Q : Nat → Bool} : ∀ {M : Nat}, (∀ b, b < M → p b = true → f (fb_ct p b) = Q b) → fb_ct f (fb_ct p M) = fb_ct (fun b => p b && Q b) M
  | 0, _ => rfl
  | M + 1, h => by
    have ih := cmp_ct (M := M) (fun b hb => h b (by omega))
    rw [fb_ct_succ p M, fb_ct_succ (fun b => p b && Q b) M]
    cases hp : p M with
    | false => simp [hp]; exact ih
    | true =>
      have := h M (by omega) hp
      simp only [if_true, fb_ct_succ, ih, this, hp, Bool.true_and]
theorem cmp_any {p f Q : Nat → Bool} {M : Nat} (h : ∀ b, b < M → p b = true → f (fb_ct p b) = Q b) : anyB f (fb_ct p M) = anyB (fun b => p b && Q b) M := by
  rw [Bool.eq_iff_iff, anyB_iff, anyB_iff]
  constructor
  · rintro ⟨k, hk, hf⟩
    obtain ⟨i, hi, h1, h2⟩ := fb_ct_kth hk
    subst h2
    exact ⟨i, hi, by rw [h1, ← h i hi h1, hf]; rfl⟩
  · rintro ⟨b, hb, hq⟩
    rw [Bool.and_eq_true] at hq
    refine ⟨fb_ct p b, ?_, by rw [h b hb hq.1, hq.2]⟩
    have h1 : fb_ct p (b + 1) ≤ fb_ct p M := fb_ct_mono p hb
    rw [fb_ct_succ, hq.1] at h1
    simp at h1
    omega
/-- seats of n tasks; a seat's place among them -/
def sp (n b : Nat) : Bool := pcn b == n
def sx (n b : Nat) : Nat := fb_ct (sp n) b
theorem sp_iff {n b : Nat} : sp n b = true ↔ pcn b = n := by simp [sp]
theorem pcn_le (b : Nat) : pcn b ≤ 7 := fb_ct_le _ 7
theorem sx_35 : ∀ n, n < 8 → sx n 128 ≤ 35 := by decide +kernel
theorem pw7 {w : Nat} (h : w ≤ 7) : 2 ^ w ≤ 128 := Nat.pow_le_pow_right (by decide) h
theorem sx_w {n w : Nat} (hn : n < 8) (hw : w ≤ 7) : sx n (2 ^ w) ≤ 35 := Nat.le_trans (fb_ct_mono _ (pw7 hw)) (sx_35 n hn)
theorem sx_succ {n b : Nat} : sx n (b + 1) = sx n b + (if sp n b then 1 else 0) := rfl
theorem sx_lt {n b M : Nat} (hb : b < M) (h : sp n b = true) : sx n b < sx n M := by
  have h1 : sx n (b + 1) ≤ sx n M := fb_ct_mono _ hb
  rw [sx_succ, h, if_pos rfl] at h1
  omega
theorem sx_inj {n a b : Nat} (ha : sp n a = true) (hb : sp n b = true) (h : sx n a = sx n b) : a = b := fb_ct_kth_one ha hb h
theorem sx_lt34 {n b : Nat} (hb : b < 128) (h : sp n b = true) : sx n b < 35 := by
  have hn : n < 8 := by rw [sp_iff] at h; have := pcn_le b; omega
  exact Nat.lt_of_lt_of_le (sx_lt hb h) (sx_35 n hn)
theorem cn_mono {b i j : Nat} (hij : i < j) (hj : j < pcn b) : cn b i < cn b j := by
  have h1 := cn_yes (cn_lt (show i < pcn b by omega))
  have h2 := cn_yes (cn_lt hj)
  rcases Nat.lt_or_ge (cn b i) (cn b j) with h | h
  · exact h
  · have := fb_ct_mono (fun x => b.testBit x) h
    have e1 : ct b (cn b j) ≤ ct b (cn b i) := this
    omega
/-- no more than len columns between -/
def nrj (len b j : Nat) : Bool := (j == 0) || decide (cn b j - cn b (j - 1) - 1 ≤ len)
def nr (len b : Nat) : Bool := allB (nrj len b) (pcn b)
/-- seats that go one below the other -/
def mtj (len a b j : Nat) : Bool := decide (cn a j ≤ cn b j + len) && decide (cn b j ≤ cn a j + len)
def mt (len n a b : Nat) : Bool := allB (mtj len a b) n
theorem mtj_sym (len a b j : Nat) : mtj len a b j = mtj len b a j := by unfold mtj; rw [Bool.and_comm]
theorem mt_sym (len n a b : Nat) : mt len n a b = mt len n b a := by
  unfold mt
  congr 1
  funext j
  exact mtj_sym len a b j
/-- the board: 0 rows, 1 columns, 2 tasks, 3 length, 4 sides, 8 + y the faulty ones of row y -/
abbrev Bd : Type := Nat → Nat
def Wf (β : Bd) : Prop := (1 ≤ β 0 ∧ β 0 ≤ 7) ∧ (1 ≤ β 1 ∧ β 1 ≤ 7) ∧ (1 ≤ β 2 ∧ β 2 ≤ β 1) ∧ β 4 ≤ 15 ∧ ∀ y, y < 7 → β (8 + y) < 2 ^ (β 1)
def fit (β : Bd) (y b : Nat) : Bool := sp (β 2) b && (nr (β 3) b && ((β (8 + y)) &&& b == 0))
/-- reached from row f on, d rows further -/
def rc (β : Bd) (f : Nat) : Nat → Nat → Bool
  | 0, b => fit β f b
  | d + 1, b => fit β (f + (d + 1)) b && anyB (fun a => rc β f d a && mt (β 3) (β 2) a b) (2 ^ (β 1))
def wh (β : Bd) (f t : Nat) : Bool := anyB (rc β f (t - f)) (2 ^ (β 1))
def whole (β : Bd) : Bool := wh β 0 (β 0 - 1)
theorem rc_fit {β : Bd} {f d b : Nat} (h : rc β f d b = true) : fit β (f + d) b = true := by
  cases d with
  | zero => exact h
  | succ d => rw [rc, Bool.and_eq_true] at h; exact h.1
theorem fit_sp {β : Bd} {y b : Nat} (h : fit β y b = true) : sp (β 2) b = true := by rw [fit, Bool.and_eq_true] at h; exact h.1
/-- what isn't in S stays -/
def fr (S : List Nat) (mi mi' : Mi) : Prop := ∀ c, c ∉ S → mi' c = mi c
theorem fr.rf {S : List Nat} {mi : Mi} : fr S mi mi := fun _ _ => rfl
theorem fr.up {S : List Nat} {mi mi' : Mi} {c : Nat} {f : Nat → Int32} (h : fr S mi mi') (hc : c ∈ S) : fr S mi (va_up mi' c f) := fun x hx => by
  have hne : x ≠ c := fun e => hx (by rw [e]; exact hc)
  rw [gm_upN hne]
  exact h x hx
theorem fr.tr {S : List Nat} {m1 m2 m3 : Mi} (h1 : fr S m1 m2) (h2 : fr S m2 m3) : fr S m1 m3 := fun c hc => (h2 c hc).trans (h1 c hc)
theorem fr.mono {S S' : List Nat} {m1 m2 : Mi} (h1 : fr S m1 m2) (h : ∀ c ∈ S, c ∈ S') : fr S' m1 m2 := fun c hc => h1 c (fun q => hc (h c q))
