/-! the model: whether rows are whole -/
def Mb (β : Bd) (mi : Mi) : Prop := ∀ y, y < 7 → mi 52 y = nI (β (8 + y))
def Md (β : Bd) (mi : Mi) : Prop := (mi 47 5 = nI (β 0) ∧ mi 47 6 = nI (β 1) ∧ mi 47 7 = nI (β 2) ∧ mi 47 8 = nI (β 3) ∧ mi 47 9 = nI (β 4)) ∧ Mb β mi
theorem Mb.mk {β : Bd} {mi mi' : Mi} (h : Mb β mi) (k : mk mi mi') : Mb β mi' := fun y hy => by rw [k.1 52 (by decide) (by decide)]; exact h y hy
theorem Md.mk {β : Bd} {mi mi' : Mi} (h : Md β mi) (k : mk mi mi') : Md β mi' := by
  obtain ⟨⟨h1, h2, h3, h4, h5⟩, h6⟩ := h
  exact ⟨⟨by rw [k.2 5 (by decide) (by decide)]; exact h1, by rw [k.2 6 (by decide) (by decide)]; exact h2, by rw [k.2 7 (by decide) (by decide)]; exact h3, by rw [k.2 8 (by decide) (by decide)]; exact h4, by rw [k.2 9 (by decide) (by decide)]; exact h5⟩, h6.mk k⟩
/-- the table of seats for a board -/
def MT (β : Bd) (mi : Mi) : Prop := MS mi (β 1) (β 2) (β 3)
theorem MS.at {mi mi' : Mi} {w n len : Nat} (h : MS mi w n len) (e : mi' 47 18 = mi 47 18) (e1 : mi' 54 = mi 54) (e2 : mi' 55 = mi 55) (e3 : mi' 56 = mi 56) (e4 : mi' 57 = mi 57) : MS mi' w n len := by
  obtain ⟨h1, h2, h3⟩ := h
  refine ⟨by rw [e]; exact h1, fun b hb hp => ?_, fun a b ha hb hpa hpb => by rw [e4]; exact h3 a b ha hb hpa hpb⟩
  obtain ⟨g1, g2, g3⟩ := h2 b hb hp
  exact ⟨by rw [e1]; exact g1, by rw [e3]; exact g2, fun j hj => by rw [e2]; exact g3 j hj⟩
theorem MS.fr {mi mi' : Mi} {w n len : Nat} {S : List Nat} (h : MS mi w n len) (hf : fr S mi mi') (h47 : 47 ∉ S) (h54 : 54 ∉ S) (h55 : 55 ∉ S) (h56 : 56 ∉ S) (h57 : 57 ∉ S) : MS mi' w n len :=
  h.at (by rw [hf 47 h47]) (hf 54 h54) (hf 55 h55) (hf 56 h56) (hf 57 h57)
theorem fr.mk {S : List Nat} {mi mi' : Mi} (h : fr S mi mi') (hS : ∀ c ∈ S, c ∈ mS) : mk mi mi' :=
  ⟨fun c hc _ => h c (fun q => hc (hS c q)), fun k _ _ => by rw [h 47 (fun q => absurd (hS 47 q) (by decide))]⟩
section C27
variable {ml : Ml}
theorem c142 {mi : Mi} {β : Bd} {F : Mi → Ml → Prop} (hM : Md β mi) (hβ : Wf β) (h3 : β 3 ≤ 7) (h : ∀ mi', mk mi mi' → MT β mi' → F mi' ml) : Sg 142 0 [some (.ref 47)] [] mi ml (qv F) :=
  rg142_0 (c141 (w := β 1) hM.1.2.2.1 hM.1.2.2.2.1 hM.1.2.1 hβ.2.1 (by have := hβ.2.2.1; have := hβ.2.1; omega) h3 h)
theorem and0 {a b : Nat} (ha : a < 2 ^ 31) : nI a &&& nI b = 0 ↔ (a &&& b == 0) = true := by
  rw [nx_and]
  have : a &&& b < 2 ^ 31 := and_lt ha
  rw [show (0 : Int32) = nI 0 from rfl, nI_eq this (by decide)]
  simp
theorem c143 {mi : Mi} {F : Int32 → Mi → Ml → Prop} {x y : Int32} {n len b yy k w : Nat} {β : Bd} (hx : x = nI yy) (hy : y = nI k) (hyy : yy < 7) (hb : b < 2 ^ w) (hw : w ≤ 7) (hp : sp n b = true) (hk : k = sx n b) (hT : MS mi w n len) (hB : Mb β mi) (hβ : β (8 + yy) < 128) (h : F (bI (nr len b && (β (8 + yy) &&& b == 0))) mi ml) : Sg 143 0 [some (.ref 47), some (.int x), some (.int y)] [] mi ml (qi F) := by
  subst hx hy
  have hb7 : b < 128 := Nat.lt_of_lt_of_le hb (pw7 hw)
  have hs := sx_lt34 hb7 hp
  rw [← hk] at hs
  obtain ⟨g1, g2, -⟩ := hT.2.1 b hb hp
  rw [← hk] at g1 g2
  refine rg143_0 ?_
  rw [nI_clamp (by omega), nI_clamp (by omega), g1, g2, hB yy hyy]
  refine ⟨pk_in k 40 (by omega), bq (fun hq => ?_) (fun hq => ⟨pk_in yy 7 hyy, fun h1 => ?_, fun h1 => ?_⟩)⟩
  · rw [hq] at h; exact h
  · rw [and0 (by omega), Bool.not_eq_true] at h1
    rw [hq, h1] at h; exact h
  · rw [Decidable.not_not, and0 (by omega)] at h1
    rw [hq, h1] at h; exact h
/-- any of the seats below place k -/
def aK (n M k : Nat) (p : Nat → Bool) : Bool := anyB (fun b => sp n b && (decide (sx n b < k) && p b)) M
theorem aK_0 (n M : Nat) (p : Nat → Bool) : aK n M 0 p = false := anyB_false.mpr fun b _ => by simp
theorem aK_s {n M k b : Nat} {p : Nat → Bool} (hb : b < M) (hp : sp n b = true) (hk : k = sx n b) : aK n M (k + 1) p = (aK n M k p || p b) := by
  rw [Bool.eq_iff_iff, Bool.or_eq_true]
  unfold aK
  rw [anyB_iff, anyB_iff]
  constructor
  · rintro ⟨c, hc, h⟩
    simp only [Bool.and_eq_true, decide_eq_true_eq] at h
    rcases Nat.lt_succ_iff_lt_or_eq.mp h.2.1 with q | q
    · exact Or.inl ⟨c, hc, by simp [h.1, q, h.2.2]⟩
    · have : c = b := sx_inj h.1 hp (q.trans hk)
      subst this; exact Or.inr h.2.2
  · rintro (⟨c, hc, h⟩ | h)
    · simp only [Bool.and_eq_true, decide_eq_true_eq] at h
      exact ⟨c, hc, by simp [h.1, h.2.2]; omega⟩
    · exact ⟨b, hb, by simp [hp, h]; omega⟩
theorem aK_N {n M : Nat} {p : Nat → Bool} (h : ∀ b, p b = true → sp n b = true) : aK n M (sx n M) p = anyB p M := by
  refine anyB_cong fun b hb => ?_
  cases hp : p b with
  | false => simp
  | true =>
    have hs := h b hp
    simp [hs, sx_lt hb hs]
theorem aK_true {n M k k' : Nat} {p : Nat → Bool} (hk : k ≤ k') (h : aK n M k p = true) : aK n M k' p = true := by
  unfold aK at h ⊢
  rw [anyB_iff] at h ⊢
  obtain ⟨b, hb, h⟩ := h
  simp only [Bool.and_eq_true, decide_eq_true_eq] at h
  exact ⟨b, hb, by simp [h.1, h.2.2]; omega⟩
set_option maxHeartbeats 2000000 in
/-- isWhole -/
theorem c144 {mi : Mi} {F : Int32 → Mi → Ml → Prop} {x y : Int32} {f t : Nat} {β : Bd} (hx : x = nI f) (hy : y = nI t) (hft : f ≤ t) (ht : t < 7) (hw : β 1 ≤ 7) (hn : β 2 ≤ 7) (hT : MT β mi) (hB : Mb β mi) (hb7 : ∀ z, z < 7 → β (8 + z) < 128)
    (h : ∀ mi', fr [58, 59] mi mi' → F (bI (wh β f t)) mi' ml) : Sg 144 0 [some (.ref 47), some (.int x), some (.int y), none, none, none, none, none] [] mi ml (qi F) := by
  subst hx hy
  obtain ⟨w, hwe⟩ : ∃ w, w = β 1 := ⟨_, rfl⟩
  obtain ⟨n, hne⟩ : ∃ n, n = β 2 := ⟨_, rfl⟩
  obtain ⟨len, hle⟩ : ∃ len, len = β 3 := ⟨_, rfl⟩
  obtain ⟨M, hM⟩ : ∃ M, M = 2 ^ w := ⟨_, rfl⟩
  obtain ⟨N, hN⟩ : ∃ N, N = sx n M := ⟨_, rfl⟩
  have hM7 : M ≤ 128 := by rw [hM]; exact pw7 (by omega)
  have hN35 : N ≤ 35 := by rw [hN, hM]; exact sx_w (by omega) (by omega)
  have hT' : MS mi w n len := by rw [hwe, hne, hle]; exact hT
  have rcsp : ∀ d b, rc β f d b = true → sp n b = true := fun d b q => by rw [hne]; exact fit_sp (rc_fit q)
  have h18 : ∀ mi', fr [58, 59] mi mi' → mi' 47 18 = nI N := fun mi' q => by rw [q 47 (by decide), hT'.1, hN, hM]
  refine rg144_0 ?_
  -- a row
  have row : ∀ d (x3 : Int32) mi1, f + d ≤ t → fr [58, 59] mi mi1 → (0 < d → ∀ b, b < M → sp n b = true → mi1 58 (sx n b) = bI (rc β f (d - 1) b)) →
      (∀ mi2, fr [58, 59] mi mi2 → (∀ b, b < M → sp n b = true → mi2 58 (sx n b) = bI (rc β f d b)) → Sg 144 5 [some (.ref 47), some (.int (nI f)), some (.int (nI t)), some (.int (bI (anyB (rc β f d) M))), some (.int (nI (f + d + 1))), none, none, none] [] mi2 ml (qi F)) →
      Sg 144 5 [some (.ref 47), some (.int (nI f)), some (.int (nI t)), some (.int x3), some (.int (nI (f + d))), none, none, none] [] mi1 ml (qi F) := by
    intro d x3 mi1 hd k1 k2 hnext
    refine rg144_5 (pk_lt t (f + d) (fun h1 => by omega) (fun _ => ?_))
    -- the copy
    have copy : ∀ k mi2, k ≤ N → (fr [58, 59] mi mi2 ∧ (∀ b, b < M → sp n b = true → mi2 59 (sx n b) = bI (rc β f d b)) ∧ ∀ b, b < M → sp n b = true → sx n b < k → mi2 58 (sx n b) = bI (rc β f d b)) → Sg 144 151 [some (.ref 47), some (.int (nI f)), some (.int (nI t)), some (.int (bI (anyB (rc β f d) M))), some (.int (nI (f + d))), some (.int (nI k)), none, none] [] mi2 ml (qi F) := by
      refine upI N (fun k mi2 => fr [58, 59] mi mi2 ∧ (∀ b, b < M → sp n b = true → mi2 59 (sx n b) = bI (rc β f d b)) ∧ ∀ b, b < M → sp n b = true → sx n b < k → mi2 58 (sx n b) = bI (rc β f d b)) (fun k mi2 => Sg 144 151 [some (.ref 47), some (.int (nI f)), some (.int (nI t)), some (.int (bI (anyB (rc β f d) M))), some (.int (nI (f + d))), some (.int (nI k)), none, none] [] mi2 ml (qi F)) ?_ ?_
      · rintro mi2 ⟨g1, g2, g3⟩
        refine rg144_151 (pk_le N N (fun _ => ?_) (fun h1 => by omega) (h18 mi2 g1) rfl)
        rw [nI_1]
        exact hnext mi2 g1 (fun b hb hp => g3 b hb hp (by rw [hN]; exact sx_lt hb hp))
      · rintro k mi2 hk ⟨g1, g2, g3⟩ ih
        refine rg144_151 (pk_le N k (fun h1 => by omega) (fun _ => ?_) (h18 mi2 g1) rfl)
        obtain ⟨b, hb, hp, hkb⟩ := fb_ct_kth (p := sp n) (k := k) (n := M) (by rw [hN] at hk; exact hk)
        have hkb' : sx n b = k := hkb
        rw [nI_clamp (by omega), nI_1]
        have g2b := g2 b hb hp
        rw [hkb'] at g2b
        refine ⟨pk_in k 40 (by omega), by rw [g2b]; exact bI_01 _, ?_⟩
        refine ih _ ⟨g1.up (by decide), g2, fun c hc hpc hlt => ?_⟩
        show va_up (mi2 58) k _ (sx n c) = _
        by_cases hck : sx n c = k
        · have : c = b := sx_inj hpc hp (hck.trans hkb'.symm)
          subst this
          rw [hck, gm_upS]; exact g2b
        · rw [gm_upN hck]; exact g3 c hc hpc (by omega)
    -- the seats
    have seats : ∀ k mi2, k ≤ N → (fr [58, 59] mi mi2 ∧ (0 < d → ∀ b, b < M → sp n b = true → mi2 58 (sx n b) = bI (rc β f (d - 1) b)) ∧ ∀ b, b < M → sp n b = true → sx n b < k → mi2 59 (sx n b) = bI (rc β f d b)) → Sg 144 16 [some (.ref 47), some (.int (nI f)), some (.int (nI t)), some (.int (bI (aK n M k (rc β f d)))), some (.int (nI (f + d))), some (.int (nI k)), none, none] [] mi2 ml (qi F) := by
      refine upI N (fun k mi2 => fr [58, 59] mi mi2 ∧ (0 < d → ∀ b, b < M → sp n b = true → mi2 58 (sx n b) = bI (rc β f (d - 1) b)) ∧ ∀ b, b < M → sp n b = true → sx n b < k → mi2 59 (sx n b) = bI (rc β f d b)) (fun k mi2 => Sg 144 16 [some (.ref 47), some (.int (nI f)), some (.int (nI t)), some (.int (bI (aK n M k (rc β f d)))), some (.int (nI (f + d))), some (.int (nI k)), none, none] [] mi2 ml (qi F)) ?_ ?_
      · rintro mi2 ⟨g1, g2, g3⟩
        refine rg144_16 (pk_le N N (fun _ => ?_) (fun h1 => by omega) (h18 mi2 g1) rfl)
        rw [hN, aK_N (rcsp d)]
        exact copy 0 mi2 (Nat.zero_le N) ⟨g1, fun b hb hp => g3 b hb hp (by rw [hN]; exact sx_lt hb hp), fun b _ _ q => by omega⟩
      · rintro k mi2 hk ⟨g1, g2, g3⟩ ih
        obtain ⟨b, hb, hp, hkb⟩ := fb_ct_kth (p := sp n) (k := k) (n := M) (by rw [hN] at hk; exact hk)
        have hkb' : sx n b = k := hkb
        have hT2 : MS mi2 w n len := hT'.fr g1 (by decide) (by decide) (by decide) (by decide) (by decide)
        have hB2 : Mb β mi2 := fun z hz => by rw [g1 52 (by decide)]; exact hB z hz
        -- behind the store
        have store : ∀ (x6 x7 : Int32), Sg 144 121 [some (.ref 47), some (.int (nI f)), some (.int (nI t)), some (.int (bI (aK n M k (rc β f d)))), some (.int (nI (f + d))), some (.int (nI k)), some (.int x6), some (.int x7)] [.int (bI (rc β f d b)), .int (nI k), .ref 59] mi2 ml (qi F) := by
          intro x6 x7
          refine rg144_121 ?_
          rw [nI_clamp (by omega), nI_1, gm_upS]
          have hs := ih (va_up mi2 59 (va_up (mi2 59) k (bI (rc β f d b)))) ⟨g1.up (by decide), g2, fun c hc hpc hlt => by
            show va_up (mi2 59) k _ (sx n c) = _
            by_cases hck : sx n c = k
            · have : c = b := sx_inj hpc hp (hck.trans hkb'.symm)
              subst this
              rw [hck, gm_upS]
            · rw [gm_upN hck]; exact g3 c hc hpc (by omega)⟩
          rw [aK_s hb hp hkb'.symm] at hs
          refine ⟨pk_in k 40 (by omega), bI_01 _, bqn (fun hq => ?_) (fun hq => ⟨pk_in k 40 (by omega), bq (fun hr => ?_) (fun hr => ?_)⟩)⟩
          · rw [hq] at hs; exact hs
          · rw [hq, hr] at hs; rw [hr]; exact hs
          · rw [hq, hr] at hs; rw [hr]; exact hs
        -- whether it is fit, when it is reached
        have fin : ∀ (q : Bool) (x7 : Int32), rc β f d b = (q && fit β (f + d) b) → Sg 144 94 [some (.ref 47), some (.int (nI f)), some (.int (nI t)), some (.int (bI (aK n M k (rc β f d)))), some (.int (nI (f + d))), some (.int (nI k)), some (.int (bI q)), some (.int x7)] [] mi2 ml (qi F) := by
          intro q x7 hqd
          refine rg144_94 (bq (fun hq => ?_) (fun hq => ?_))
          · have hs := store (bI q) x7
            rw [hqd, hq] at hs
            rw [hq]; exact hs
          · refine c143 (n := n) (len := len) (b := b) (w := w) (β := β) rfl rfl (by omega) (by rw [← hM]; exact hb) (by omega) hp hkb'.symm hT2 hB2 (hb7 _ (by omega)) ?_
            have hs := store (bI q) x7
            have ef : fit β (f + d) b = (nr len b && (β (8 + (f + d)) &&& b == 0)) := by unfold fit; rw [← hne, ← hle, hp, Bool.true_and]
            rw [hqd, hq, Bool.true_and, ef] at hs
            rw [hq]
            refine bq (fun h1 => ?_) (fun h1 => ?_)
            · rw [h1] at hs; exact hs
            · rw [h1] at hs; exact hs
        refine rg144_16 (pk_le N k (fun h1 => by omega) (fun _ => ?_) (h18 mi2 g1) rfl)
        refine pk_ne (f + d) f (fun hd0 => ?_) (fun hd0 => ?_)
        · -- from the row above
          have hd1 : 0 < d := by omega
          have g2' := g2 hd1
          have key : ∀ l (_ : Unit), l ≤ N → True → Sg 144 41 [some (.ref 47), some (.int (nI f)), some (.int (nI t)), some (.int (bI (aK n M k (rc β f d)))), some (.int (nI (f + d))), some (.int (nI k)), some (.int (bI (aK n M l (fun a => rc β f (d - 1) a && mt len n a b)))), some (.int (nI l))] [] mi2 ml (qi F) := by
            have spq : ∀ a, (rc β f (d - 1) a && mt len n a b) = true → sp n a = true := fun a q => by rw [Bool.and_eq_true] at q; exact rcsp _ _ q.1
            have full : rc β f d b = (aK n M N (fun a => rc β f (d - 1) a && mt len n a b) && fit β (f + d) b) := by
              rw [hN, aK_N spq]
              obtain ⟨e, rfl⟩ : ∃ e, d = e + 1 := ⟨d - 1, by omega⟩
              rw [rc, Bool.and_comm, hM, hwe, hne, hle]
              rfl
            refine upI N (fun _ _ => True) (fun l _ => Sg 144 41 [some (.ref 47), some (.int (nI f)), some (.int (nI t)), some (.int (bI (aK n M k (rc β f d)))), some (.int (nI (f + d))), some (.int (nI k)), some (.int (bI (aK n M l (fun a => rc β f (d - 1) a && mt len n a b)))), some (.int (nI l))] [] mi2 ml (qi F)) ?_ ?_
            · intro _ _
              exact rg144_41 (pk_le N N (fun _ => fin _ _ full) (fun h1 => by omega) (h18 mi2 g1) rfl)
            · intro l _ hl _ ihl
              refine rg144_41 (pk_le N l (fun h1 => by omega) (fun _ => bqn (fun hq => ?_) (fun hq => ?_)) (h18 mi2 g1) rfl)
              · have e : aK n M N (fun a => rc β f (d - 1) a && mt len n a b) = true := aK_true (k := l) (by omega) hq
                rw [e] at full
                have := fin true (nI l) full
                rw [hq]; exact this
              · obtain ⟨a, ha, hpa, hla⟩ := fb_ct_kth (p := sp n) (k := l) (n := M) (by rw [hN] at hl; exact hl)
                have hla' : sx n a = l := hla
                have hs := ihl () trivial
                rw [aK_s ha hpa hla'.symm, hq, Bool.false_or] at hs
                have v1 := g2' a ha hpa
                rw [hla'] at v1
                have v2 := hT2.2.2 a b (by rw [← hM]; exact ha) (by rw [← hM]; exact hb) hpa hp
                rw [hla', hkb'] at v2
                have e1 : 40 * nI l + nI k = nI (40 * l + k) := by show nI 40 * nI l + nI k = _; rw [pk_mul, nI_add]
                rw [nI_clamp (by omega), v1, e1, nI_clamp (by omega), v2, nI_1]
                refine ⟨pk_in l 40 (by omega), bq (fun h1 => ?_) (fun h1 => ⟨pk_in (40 * l + k) 1600 (by omega), bq (fun h2 => ?_) (fun h2 => ?_)⟩)⟩
                · rw [h1, Bool.false_and] at hs; exact hs
                · rw [h1, h2] at hs; exact hs
                · rw [h1, h2] at hs; exact hs
          have := key 0 () (Nat.zero_le N) trivial
          rw [aK_0] at this
          exact this
        · -- the first row
          have hd1 : d = 0 := by omega
          subst hd1
          have full : rc β f 0 b = (true && fit β (f + 0) b) := rfl
          have hs := fin true (nI 0) full
          refine rg144_41 ?_
          by_cases hN0 : N ≤ 0
          · exact pk_le N 0 (fun _ => hs) (fun h1 => by omega) (h18 mi2 g1) rfl
          · exact pk_le N 0 (fun h1 => by omega) (fun _ => ⟨fun _ => hs, fun q => absurd (by decide) q⟩) (h18 mi2 g1) rfl
    have := seats 0 mi1 (Nat.zero_le N) ⟨k1, k2, fun b _ _ q => by omega⟩
    rw [aK_0] at this
    exact this
  -- all rows
  have all : ∀ d mi1, f + d ≤ t → (fr [58, 59] mi mi1 ∧ ∀ b, b < M → sp n b = true → mi1 58 (sx n b) = bI (rc β f d b)) → Sg 144 5 [some (.ref 47), some (.int (nI f)), some (.int (nI t)), some (.int (bI (anyB (rc β f d) M))), some (.int (nI (f + d + 1))), none, none, none] [] mi1 ml (qi F) := by
    intro d mi1 hd
    obtain ⟨g, hg⟩ : ∃ g, g = t - (f + d) := ⟨_, rfl⟩
    induction g generalizing d mi1 with
    | zero =>
      rintro ⟨k1, k2⟩
      have e : f + d = t := by omega
      refine rg144_5 (pk_lt t (f + d + 1) (fun _ => ⟨bI_01 _, ?_⟩) (fun h1 => by omega))
      have := h mi1 k1
      rw [wh, ← hwe, ← hM, show t - f = d by omega] at this
      exact this
    | succ g ih =>
      rintro ⟨k1, k2⟩
      refine row (d + 1) _ mi1 (by omega) k1 (fun _ => k2) (fun mi2 q1 q2 => ih (d + 1) mi2 (by omega) (by omega) ⟨q1, q2⟩)
  exact row 0 0 mi (by omega) fr.rf (fun q => by omega) (fun mi2 q1 q2 => all 0 mi2 (by omega) ⟨q1, q2⟩)
theorem c145 {mi : Mi} {F : Int32 → Mi → Ml → Prop} {β : Bd} {H : Nat} (h5 : mi 47 5 = nI H) (hH : 1 ≤ H ∧ H ≤ 7) (hH0 : H = β 0) (hw : β 1 ≤ 7) (hn : β 2 ≤ 7) (hT : MT β mi) (hB : Mb β mi) (hb7 : ∀ z, z < 7 → β (8 + z) < 128)
    (h : ∀ mi', fr [58, 59] mi mi' → F (bI (whole β)) mi' ml) : Sg 145 0 [some (.ref 47)] [] mi ml (qi F) := by
  refine rg145_0 ?_
  rw [h5]
  refine c144 (f := 0) (t := H - 1) rfl ?_ (Nat.zero_le _) (by omega) hw hn hT hB hb7 (fun mi' hf => ⟨bI_01 _, ?_⟩)
  · have := nI_pred (H - 1)
    rw [← this]; congr 2; omega
  · have := h mi' hf
    unfold whole at this
    rw [← hH0] at this
    exact this
end C27
