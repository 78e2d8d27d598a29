/-! contracts: the small ones -/
theorem lgL (x y : Int64) : lg_cmp x y < 0 ↔ x < y := by
  unfold lg_cmp
  by_cases h : x > y
  · rw [if_pos h]
    exact ⟨fun h1 => absurd h1 (by decide), fun h1 => absurd (Int64.lt_iff_toInt_lt.mp h1) (by have := Int64.lt_iff_toInt_lt.mp h; omega)⟩
  · rw [if_neg h]
    by_cases h2 : x = y
    · rw [if_pos h2]; subst h2
      exact ⟨fun h1 => absurd h1 (by decide), fun h1 => absurd h1 h⟩
    · rw [if_neg h2]
      refine ⟨fun _ => ?_, fun _ => by decide⟩
      rw [Int64.lt_iff_toInt_lt]
      have h3 : ¬ y.toInt < x.toInt := fun q => h (Int64.lt_iff_toInt_lt.mpr q)
      have h4 : ¬ x.toInt = y.toInt := fun q => h2 (Int64.toInt_inj.mp q)
      omega
theorem lgG (x y : Int64) : 0 < lg_cmp x y ↔ y < x := by
  unfold lg_cmp
  by_cases h : x > y
  · rw [if_pos h]; exact ⟨fun _ => h, fun _ => by decide⟩
  · rw [if_neg h]
    refine ⟨fun h1 => ?_, fun h1 => absurd h1 h⟩
    split at h1 <;> exact absurd h1 (by decide)
theorem lgE (x y : Int64) : lg_cmp x y = 0 ↔ x = y := by
  unfold lg_cmp
  by_cases h : x > y
  · rw [if_pos h]
    exact ⟨fun h1 => absurd h1 (by decide), fun h1 => absurd (Int64.lt_iff_toInt_lt.mp h) (by rw [h1]; omega)⟩
  · rw [if_neg h]
    by_cases h2 : x = y
    · rw [if_pos h2]; exact ⟨fun _ => h2, fun _ => rfl⟩
    · rw [if_neg h2]; exact ⟨fun h1 => absurd h1 (by decide), fun h1 => absurd h1 h2⟩
section C22
variable {mi : Mi} {ml : Ml} {F : Int32 → Mi → Ml → Prop}
theorem c114 {a b c : Int64} (h : F (bI (decide (b ≤ a) && decide (a ≤ c))) mi ml) : Sg 114 0 [some (.long a), none, some (.long b), none, some (.long c), none] [] mi ml (qi F) := by
  refine rg114_0 ⟨fun h1 => ?_, fun h1 => ⟨fun h2 => ?_, fun h2 => ?_⟩⟩
  · rw [lgL] at h1
    have : ¬ b ≤ a := fun q => by rw [Int64.lt_iff_toInt_lt] at h1; rw [Int64.le_iff_toInt_le] at q; omega
    simpa [this, bI] using h
  · rw [lgG] at h2
    have : ¬ a ≤ c := fun q => by rw [Int64.lt_iff_toInt_lt] at h2; rw [Int64.le_iff_toInt_le] at q; omega
    simpa [this, bI] using h
  · rw [lgL] at h1
    rw [lgG] at h2
    have e1 : b ≤ a := by rw [Int64.le_iff_toInt_le]; rw [Int64.lt_iff_toInt_lt] at h1; omega
    have e2 : a ≤ c := by rw [Int64.le_iff_toInt_le]; rw [Int64.lt_iff_toInt_lt] at h2; omega
    simpa [e1, e2, bI] using h
theorem c114i {x lo hi : Int32} {b c : Int64} (hb : b = lo.toInt64) (hc : c = hi.toInt64) (h : F (bI (decide (lo ≤ x) && decide (x ≤ hi))) mi ml) : Sg 114 0 [some (.long (Int32.toInt64 x)), none, some (.long b), none, some (.long c), none] [] mi ml (qi F) := by
  subst hb hc
  refine c114 ?_
  simp only [fa_wide_le]
  exact h
theorem isN_iff {x : Int32} {l u : Nat} (hl : l < 2 ^ 31) (hu : u < 2 ^ 31) : (nI l ≤ x ∧ x ≤ nI u) ↔ ∃ s, l ≤ s ∧ s ≤ u ∧ x = nI s := by
  constructor
  · rintro ⟨h1, h2⟩
    have h0 : ¬ x < 0 := by
      intro q
      rw [fa_lt] at q
      rw [fa_le, nI_toInt hl] at h1
      have : (0 : Int32).toInt = 0 := by decide
      omega
    obtain ⟨j, hj, rfl⟩ := nI_of h0
    rw [nI_leI hl hj] at h1
    rw [nI_leI hj hu] at h2
    exact ⟨j, h1, h2, rfl⟩
  · rintro ⟨s, h1, h2, rfl⟩
    exact ⟨(nI_leI hl (by omega)).mpr h1, (nI_leI (by omega) hu).mpr h2⟩
/-- 'in' for numbers: two cases -/
theorem c114c {x : Int32} {b c : Int64} (l u : Nat) (hy : ∀ s, l ≤ s → s ≤ u → x = nI s → F 1 mi ml) (hn : (∀ s, l ≤ s → s ≤ u → x ≠ nI s) → F 0 mi ml) (hb : b = (nI l).toInt64 := by rfl) (hc : c = (nI u).toInt64 := by rfl) (hl : l < 2 ^ 31 := by omega) (hu : u < 2 ^ 31 := by omega) : Sg 114 0 [some (.long (Int32.toInt64 x)), none, some (.long b), none, some (.long c), none] [] mi ml (qi F) := by
  refine c114i hb hc ?_
  by_cases h : nI l ≤ x ∧ x ≤ nI u
  · obtain ⟨s, h1, h2, h3⟩ := (isN_iff hl hu).mp h
    simp only [h.1, h.2, decide_true, Bool.and_self]
    exact hy s h1 h2 h3
  · have e : (decide (nI l ≤ x) && decide (x ≤ nI u)) = false := by
      rw [Bool.and_eq_false_iff, decide_eq_false_iff_not, decide_eq_false_iff_not]
      by_cases h1 : nI l ≤ x
      · exact Or.inr fun h2 => h ⟨h1, h2⟩
      · exact Or.inl h1
    rw [e]
    exact hn fun s h1 h2 h3 => h ((isN_iff hl hu).mpr ⟨s, h1, h2, h3⟩)
theorem c115 {x : Int32} (hy : ∀ s, s ≤ 1 → x = nI s → F 1 mi ml) (hn : (∀ s, s ≤ 1 → x ≠ nI s) → F 0 mi ml) : Sg 115 0 [some (.int x)] [] mi ml (qi F) :=
  rg115_0 (c114c 0 1 (fun s _ h2 h3 => ⟨Or.inr rfl, hy s h2 h3⟩) (fun h => ⟨Or.inl rfl, hn fun s h2 h3 => h s (Nat.zero_le s) h2 h3⟩))
theorem c121 {x : Int32} (hy : ∀ s, s ≤ 3 → x = nI s → F 1 mi ml) (hn : (∀ s, s ≤ 3 → x ≠ nI s) → F 0 mi ml) : Sg 121 0 [some (.int x)] [] mi ml (qi F) :=
  rg121_0 (c114c 0 3 (fun s _ h2 h3 => ⟨Or.inr rfl, hy s h2 h3⟩) (fun h => ⟨Or.inl rfl, hn fun s h2 h3 => h s (Nat.zero_le s) h2 h3⟩))
theorem c183 {x : Int32} (hy : ∀ s, s ≤ 5 → x = nI s → F 1 mi ml) (hn : (∀ s, s ≤ 5 → x ≠ nI s) → F 0 mi ml) : Sg 183 0 [some (.int x)] [] mi ml (qi F) :=
  rg183_0 (c114c 0 5 (fun s _ h2 h3 => ⟨Or.inr rfl, hy s h2 h3⟩) (fun h => ⟨Or.inl rfl, hn fun s h2 h3 => h s (Nat.zero_le s) h2 h3⟩))
theorem lshr_N {n k : Nat} (hn : n < 2 ^ 62) (hk : k < 64) : lshr (lN n) (nI k) = lN (n / 2 ^ k) := by
  unfold lshr
  refine pf_shr ?_ hn
  rw [wb_c k hk]
  show ((BitVec.ofNat 64 k).smod 64).toNat = k
  rw [wb_sm k hk]
  exact Nat.mod_eq_of_lt (by omega)
theorem lushr_N {n k : Nat} (hn : n < 2 ^ 64) (hk : k < 64) : lushr (lN n) (nI k) = lN (n / 2 ^ k) := wb_shr hn hk
theorem lshl_N (n : Nat) {k : Nat} (hk : k < 64) : lshl (lN n) (nI k) = lN (n * 2 ^ k) := wb_shl n hk
theorem tb_div (n k : Nat) : n.testBit k = decide (n / 2 ^ k % 2 = 1) := Nat.testBit_eq_decide_div_mod_eq
/-- isIn -/
theorem c116 {n k : Nat} {a : Int64} {x : Int32} (ha : a = lN n) (hx : x = nI k) (hn : n < 2 ^ 62) (hk : k < 64) (h : F (bI (n.testBit k)) mi ml) : Sg 116 0 [some (.long a), none, some (.int x)] [] mi ml (qi F) := by
  subst ha hx
  have e : ((lshr (lN n) (nI k)) &&& 1) = lN (n / 2 ^ k % 2) := by
    rw [lshr_N hn hk]
    exact wb_a1 (Nat.lt_of_le_of_lt (Nat.div_le_self _ _) (by omega))
  have e1 : lg_cmp ((lshr (lN n) (nI k)) &&& 1) 1 = 0 ↔ n.testBit k = true := by
    rw [lgE, e, tb_div, decide_eq_true_iff]
    exact fb_lN_inj (a := n / 2 ^ k % 2) (b := 1) (by omega) (by omega)
  refine rg116_0 ⟨fun h1 => ?_, fun h1 => ?_⟩
  · rw [e1] at h1
    rw [show n.testBit k = false by simpa using h1] at h
    exact h
  · rw [e1, Decidable.not_not] at h1
    rw [h1] at h
    exact h
theorem c117 {x y : Int32} (h : F (if x < y then x else y) mi ml) : Sg 117 0 [some (.int x), some (.int y)] [] mi ml (qi F) := by
  refine rg117_0 ⟨fun h1 => ?_, fun h1 => ?_⟩
  · rw [if_neg (fun q => by rw [fa_lt] at q; rw [fa_le] at h1; omega)] at h; exact h
  · rw [if_pos (by rw [fa_lt]; rw [fa_le] at h1; omega)] at h; exact h
theorem c117n {x y : Int32} {a b : Nat} (hx : x = nI a) (hy : y = nI b) (ha : a < 2 ^ 31) (hb : b < 2 ^ 31) (h : F (nI (min a b)) mi ml) : Sg 117 0 [some (.int x), some (.int y)] [] mi ml (qi F) := by
  subst hx hy
  refine c117 ?_
  by_cases hab : a < b
  · rw [if_pos ((nI_ltI ha hb).mpr hab)]; rw [Nat.min_eq_left (by omega)] at h; exact h
  · rw [if_neg (fun q => hab ((nI_ltI ha hb).mp q))]; rw [Nat.min_eq_right (by omega)] at h; exact h
theorem c118 {x : Int32} (h : F (if 0 ≤ x then x else 0 - x) mi ml) : Sg 118 0 [some (.int x)] [] mi ml (qi F) := by
  refine rg118_0 ⟨fun h1 => ?_, fun h1 => ?_⟩
  · rw [if_pos h1] at h; exact h
  · rw [if_neg h1] at h; exact h
/-- size -/
theorem c119 {n : Nat} {a : Int64} (ha : a = lN n) (hn : n < 2 ^ 62) (h : F (nI (ct n 49)) mi ml) : Sg 119 0 [some (.long a), none, none, none] [] mi ml (qi F) := by
  subst ha
  refine rg119_0 ?_
  have key : ∀ i (_ : Unit), i ≤ 49 → True → Sg 119 4 [some (.long (lN n)), none, some (.int (nI (ct n i))), some (.int (nI i))] [] mi ml (qi F) := by
    refine upI 49 (fun _ _ => True) (fun i _ => Sg 119 4 [some (.long (lN n)), none, some (.int (nI (ct n i))), some (.int (nI i))] [] mi ml (qi F)) ?_ ?_
    · intro _ _
      exact rg119_4 (pk_le 49 49 (fun _ => h) (fun h1 => by omega))
    · intro i _ hi _ ih
      refine rg119_4 (pk_le 49 i (fun h1 => by omega) (fun h1 => ?_))
      refine c116 rfl rfl hn (by omega) ?_
      have hs := ih () trivial
      have e1 : nI i + 1 = nI (i + 1) := nI_1 i
      refine bq (fun hb => ?_) (fun hb => ?_)
      · have e2 : nI (ct n i) + 0 = nI (ct n (i + 1)) := by rw [ct_succ, hb]; exact nI_add _ 0
        rw [e1, e2]; exact hs
      · have e2 : nI (ct n i) + 1 = nI (ct n (i + 1)) := by rw [ct_succ, hb]; exact nI_1 _
        rw [e1, e2]; exact hs
  exact key 0 () (by omega) trivial
theorem c120 {x : Int32} (h : F ((-10) - x) (va_up mi 47 (va_up (mi 47) 4 x)) ml) : Sg 120 0 [some (.ref 47), some (.int x)] [] mi ml (qi F) := rg120_0 h
theorem nI_i2l {n : Nat} (h : n < 2 ^ 31) : Int32.toInt64 (nI n) = lN n := nI_l h
end C22
