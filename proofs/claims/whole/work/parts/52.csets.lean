/-! sets of seats -/
theorem bm_or (p q : Nat → Bool) : ∀ n, bm p n ||| bm q n = bm (fun i => p i || q i) n := by
  intro n
  apply Nat.eq_of_testBit_eq
  intro i
  rw [Nat.testBit_or, bm_tb, bm_tb, bm_tb]
  cases decide (i < n) <;> rfl
theorem bm_and (p q : Nat → Bool) : ∀ n, bm p n &&& bm q n = bm (fun i => p i && q i) n := by
  intro n
  apply Nat.eq_of_testBit_eq
  intro i
  rw [Nat.testBit_and, bm_tb, bm_tb, bm_tb]
  cases decide (i < n) <;> rfl
theorem bm_0 (p : Nat → Bool) (n : Nat) : bm p n = 0 ↔ anyB p n = false := by
  constructor
  · intro h
    refine anyB_false.mpr fun k hk => ?_
    have := bm_tb p n k
    rw [h, decide_eq_true hk, Bool.true_and] at this
    simpa using this.symm
  · intro h
    apply Nat.eq_of_testBit_eq
    intro i
    rw [bm_tb]
    by_cases hi : i < n
    · rw [anyB_false.mp h i hi]; simp
    · rw [decide_eq_false hi]; simp
theorem bm_F (n : Nat) : bm (fun _ => false) n = 0 := (bm_0 _ n).mpr (anyB_false.mpr fun _ _ => rfl)
theorem lbit {n k : Nat} (hn : n < 2 ^ 62) (hk : k < 64) : lg_cmp ((lushr (lN n) (nI k)) &&& 1) 1 = 0 ↔ n.testBit k = true := by
  have e : ((lushr (lN n) (nI k)) &&& 1) = lN (n / 2 ^ k % 2) := by
    rw [lushr_N (by omega) hk]
    exact wb_a1 (Nat.lt_of_le_of_lt (Nat.div_le_self _ _) (by omega))
  rw [lgE, e, tb_div, decide_eq_true_iff]
  exact fb_lN_inj (a := n / 2 ^ k % 2) (b := 1) (by omega) (by omega)
theorem lz {n : Nat} (hn : n < 2 ^ 62) : lg_cmp (lN n) 0 = 0 ↔ n = 0 := by
  rw [lgE]
  exact fb_lN_inj (a := n) (b := 0) (by omega) (by omega)
theorem bm_62 (p : Nat → Bool) {k : Nat} (hk : k ≤ 35) : bm p k < 2 ^ 62 := by have := bm_36 p hk; omega
/-- columns that all of some seats have -/
def ca (w : Nat) (s : Nat → Nat) (p : Nat → Bool) : Nat → Nat
  | 0 => 2 ^ w - 1
  | k + 1 => if p k then ca w s p k &&& s k else ca w s p k
theorem ca_lt {w : Nat} {s : Nat → Nat} {p : Nat → Bool} : ∀ k, ca w s p k < 2 ^ w
  | 0 => by have := Nat.two_pow_pos w; show 2 ^ w - 1 < 2 ^ w; omega
  | k + 1 => by
    have := ca_lt (w := w) (s := s) (p := p) k
    rw [ca]; split
    · exact Nat.lt_of_le_of_lt Nat.and_le_left this
    · exact this
theorem ca_tb {w : Nat} {s : Nat → Nat} {p : Nat → Bool} (x : Nat) : ∀ k, (ca w s p k).testBit x = true ↔ (x < w ∧ ∀ i, i < k → p i = true → (s i).testBit x = true)
  | 0 => by
    show (2 ^ w - 1).testBit x = true ↔ _
    rw [Nat.testBit_two_pow_sub_one]
    simp
  | k + 1 => by
    have ih := ca_tb (w := w) (s := s) (p := p) x k
    rw [ca]
    constructor
    · intro h
      by_cases hp : p k = true
      · rw [if_pos hp, Nat.testBit_and, Bool.and_eq_true, ih] at h
        refine ⟨h.1.1, fun i hi hpi => ?_⟩
        rcases Nat.lt_succ_iff_lt_or_eq.mp hi with q | q
        · exact h.1.2 i q hpi
        · subst q; exact h.2
      · rw [if_neg hp, ih] at h
        refine ⟨h.1, fun i hi hpi => ?_⟩
        rcases Nat.lt_succ_iff_lt_or_eq.mp hi with q | q
        · exact h.2 i q hpi
        · subst q; exact absurd hpi hp
    · intro h
      have h0 : (ca w s p k).testBit x = true := ih.mpr ⟨h.1, fun i hi hpi => h.2 i (by omega) hpi⟩
      by_cases hp : p k = true
      · rw [if_pos hp, Nat.testBit_and, h0, h.2 k (by omega) hp]; rfl
      · rw [if_neg hp]; exact h0
section C52
variable {r w n len : Nat} {mi : Mi} {ml : Ml}
theorem CT.seat (hT : CT r w n len mi ml) {i : Nat} (hi : i < tN w n len) : mi (r + 1) i = nI (so w n len i) ∧ (∀ j, j < n → mi (r + 2) (7 * i + j) = nI (cn (so w n len i) j)) := by
  obtain ⟨h1, h2, h3⟩ := so_ok hi
  have := hT.1.2 _ h1 h2
  rw [h3] at this
  exact this
/-- columnAt -/
theorem c60 {F : Int32 → Mi → Ml → Prop} {x y : Int32} {i j : Nat} (hr : isT r) (hx : x = nI i) (hy : y = nI j) (hw : w ≤ 7) (hn : n < 8) (hT : CT r w n len mi ml) (hi : i < tN w n len) (hj : j < n) (h : F (nI (cn (so w n len i) j)) mi ml) : Sg 60 0 [some (.ref r), some (.int x), some (.int y)] [] mi ml (qi F) := by
  subst hx hy
  have hN := tN_35 (len := len) hn hw
  refine rg60_0 hr ?_
  have e : nI i * 7 + nI j = nI (7 * i + j) := by show nI i * nI 7 + nI j = _; rw [pk_mul, nI_add, Nat.mul_comm]
  rw [e, nI_clamp (by omega), (hT.seat hi).2 j hj]
  exact ⟨pk_in (7 * i + j) 245 (by omega), h⟩
/-- seatsFitting -/
theorem c61 {F : Int64 → Mi → Ml → Prop} {x : Int32} {i : Nat} (hr : isT r) (hx : x = nI i) (hw : w ≤ 7) (hn : n < 8) (hT : CT r w n len mi ml) (hi : i < tN w n len) (h : F (lN (bm (fun j => mt len n (so w n len i) (so w n len j)) (tN w n len))) mi ml) : Sg 61 0 [some (.ref r), some (.int x)] [] mi ml (ql F) := by
  subst hx
  have hN := tN_35 (len := len) hn hw
  refine rg61_0 hr ?_
  rw [nI_clamp (by omega), hT.2 i hi]
  exact ⟨pk_in i 35 (by omega), h⟩
/-- seatsWithout -/
theorem c62 {F : Int64 → Mi → Ml → Prop} {x : Int32} {v : Nat} (hr : isT r) (hx : x = nI v) (hw : w ≤ 7) (hn : n < 8) (hT : CT r w n len mi ml) (h : F (lN (bm (fun i => v &&& so w n len i == 0) (tN w n len))) mi ml) : Sg 62 0 [some (.ref r), some (.int x), none, none, none] [] mi ml (ql F) := by
  subst hx
  obtain ⟨N, hNe⟩ : ∃ N, N = tN w n len := ⟨_, rfl⟩
  have hN : N ≤ 35 := by rw [hNe]; exact tN_35 hn hw
  have h0 : mi r 0 = nI N := by rw [hNe]; exact hT.1.1.2.2.2
  obtain ⟨p, hp⟩ : ∃ p : Nat → Bool, p = fun i => v &&& so w n len i == 0 := ⟨_, rfl⟩
  have hpk : ∀ i, p i = (v &&& so w n len i == 0) := fun i => by rw [hp]
  rw [← hp, ← hNe] at h
  refine rg62_0 hr ?_
  refine upP N (fun k => Sg 62 5 [some (.ref r), some (.int (nI v)), some (.long (lN (bm p k))), none, some (.int (nI k))] [] mi ml (ql F)) ?_ ?_ 0 (Nat.zero_le _)
  · exact rg62_5 hr (pk_le N N (fun _ => h) (fun h1 => by omega) h0 rfl)
  · intro k hk ih
    have hs := so_ok (w := w) (n := n) (len := len) (i := k) (by omega)
    have hs7 := Nat.lt_of_lt_of_le hs.1 (pw7 hw)
    refine rg62_5 hr (pk_le N k (fun h1 => by omega) (fun _ => ⟨pk_in k 35 (by omega), ?_⟩) h0 rfl)
    rw [nI_clamp (by omega), (hT.seat (by omega)).1, and0 (by omega), Nat.and_comm, nI_1]
    refine ⟨fun h1 => ?_, fun h1 => ?_⟩
    · have e : bm p (k + 1) = bm p k := by rw [bm_s, hpk, Bool.eq_false_iff.mpr h1]; simp
      rw [e] at ih; exact ih
    · rw [bm_l (p := p) (n := k) (by omega) (by rw [hpk, Decidable.not_not.mp h1]; rfl)]; exact ih
/-- seatsFittingAny -/
theorem c63 {F : Int64 → Mi → Ml → Prop} {x : Int64} {p : Nat → Bool} (hr : isT r) (hx : x = lN (bm p (tN w n len))) (hw : w ≤ 7) (hn : n < 8) (hT : CT r w n len mi ml) (h : F (lN (bm (fun j => anyB (fun i => p i && mt len n (so w n len i) (so w n len j)) (tN w n len)) (tN w n len))) mi ml) : Sg 63 0 [some (.ref r), some (.long x), none, none, none, none] [] mi ml (ql F) := by
  subst hx
  obtain ⟨N, hNe⟩ : ∃ N, N = tN w n len := ⟨_, rfl⟩
  have hN : N ≤ 35 := by rw [hNe]; exact tN_35 hn hw
  have h0 : mi r 0 = nI N := by rw [hNe]; exact hT.1.1.2.2.2
  rw [← hNe] at h ⊢
  refine rg63_0 hr ?_
  have := upP N (fun k => Sg 63 5 [some (.ref r), some (.long (lN (bm p N))), none, some (.long (lN (bm (fun j => anyB (fun i => p i && mt len n (so w n len i) (so w n len j)) k) N))), none, some (.int (nI k))] [] mi ml (ql F)) ?_ ?_ 0 (Nat.zero_le _)
  · have e : bm (fun j => anyB (fun i => p i && mt len n (so w n len i) (so w n len j)) 0) N = 0 := bm_F N
    rw [e] at this; exact this
  · exact rg63_5 hr (pk_le N N (fun _ => h) (fun h1 => by omega) h0 rfl)
  · intro k hk ih
    refine rg63_5 hr (pk_le N k (fun h1 => by omega) (fun _ => ?_) h0 rfl)
    rw [lbit (bm_62 p hN) (by omega), bm_tb, decide_eq_true hk, Bool.true_and, nI_1, nI_clamp (by omega)]
    refine ⟨fun h1 => ?_, fun h1 => ⟨pk_in k 35 (by omega), ?_⟩⟩
    · have e : bm (fun j => anyB (fun i => p i && mt len n (so w n len i) (so w n len j)) (k + 1)) N = bm (fun j => anyB (fun i => p i && mt len n (so w n len i) (so w n len j)) k) N := bm_cong fun j _ => by
        rw [anyB, Bool.eq_false_iff.mpr h1]; simp
      rw [e] at ih; exact ih
    · have h1 := Decidable.not_not.mp h1
      have l1 := bm_62 (fun j => anyB (fun i => p i && mt len n (so w n len i) (so w n len j)) k) hN
      have l2 := bm_62 (fun j => mt len n (so w n len k) (so w n len j)) hN
      have hk' := hT.2 k (by omega)
      rw [← hNe] at hk'
      rw [hk', wb_or (by omega) (by omega), bm_or]
      have e : bm (fun j => anyB (fun i => p i && mt len n (so w n len i) (so w n len j)) (k + 1)) N = bm (fun i => anyB (fun i_1 => p i_1 && mt len n (so w n len i_1) (so w n len i)) k || mt len n (so w n len k) (so w n len i)) N := bm_cong fun j _ => by
        rw [anyB, h1, Bool.true_and]
      rw [e] at ih; exact ih
/-- columnsOfAll -/
theorem c64 {F : Int32 → Mi → Ml → Prop} {x : Int64} {p : Nat → Bool} (hr : isT r) (hx : x = lN (bm p (tN w n len))) (hw : w ≤ 7) (hn : n < 8) (hT : CT r w n len mi ml) (h : F (nI (ca w (so w n len) p (tN w n len))) mi ml) : Sg 64 0 [some (.ref r), some (.long x), none, none, none] [] mi ml (qi F) := by
  subst hx
  obtain ⟨N, hNe⟩ : ∃ N, N = tN w n len := ⟨_, rfl⟩
  have hN : N ≤ 35 := by rw [hNe]; exact tN_35 hn hw
  have h0 : mi r 0 = nI N := by rw [hNe]; exact hT.1.1.2.2.2
  rw [← hNe] at h ⊢
  refine rg64_0 hr ?_
  rw [hT.1.1.1, shl_m1 w (by omega)]
  refine upP N (fun k => Sg 64 12 [some (.ref r), some (.long (lN (bm p N))), none, some (.int (nI (ca w (so w n len) p k))), some (.int (nI k))] [] mi ml (qi F)) ?_ ?_ 0 (Nat.zero_le _)
  · exact rg64_12 hr (pk_le N N (fun _ => h) (fun h1 => by omega) h0 rfl)
  · intro k hk ih
    refine rg64_12 hr (pk_le N k (fun h1 => by omega) (fun _ => ?_) h0 rfl)
    rw [lbit (bm_62 p hN) (by omega), bm_tb, decide_eq_true hk, Bool.true_and, nI_1, nI_clamp (by omega)]
    rw [ca] at ih
    refine ⟨fun h1 => ?_, fun h1 => ⟨pk_in k 35 (by omega), ?_⟩⟩
    · rw [if_neg h1] at ih; exact ih
    · rw [if_pos (Decidable.not_not.mp h1)] at ih
      rw [(hT.seat (by omega)).1, nx_and]; exact ih
end C52
