/-! the model: fewest moves, and the choice -/
def mn (p : Nat → Bool) (f : Nat → Nat) : Nat → Nat
  | 0 => 1000000
  | n + 1 => if p n then min (mn p f n) (f n) else mn p f n
theorem mn_le {p : Nat → Bool} {f : Nat → Nat} {v : Nat} : ∀ {n : Nat}, mn p f n ≤ v ↔ 1000000 ≤ v ∨ ∃ b, b < n ∧ p b = true ∧ f b ≤ v
  | 0 => ⟨fun h => Or.inl h, fun h => by
      rcases h with h | ⟨b, hb, _⟩
      · exact h
      · exact absurd hb (Nat.not_lt_zero b)⟩
  | n + 1 => by
    have ih := mn_le (p := p) (f := f) (v := v) (n := n)
    rw [mn]
    constructor
    · intro h
      by_cases hp : p n = true
      · rw [if_pos hp] at h
        by_cases h2 : mn p f n ≤ v
        · rcases ih.mp h2 with q | ⟨b, h3, h4⟩
          · exact Or.inl q
          · exact Or.inr ⟨b, by omega, h4⟩
        · exact Or.inr ⟨n, by omega, hp, by omega⟩
      · rw [if_neg hp] at h
        rcases ih.mp h with q | ⟨b, h3, h4⟩
        · exact Or.inl q
        · exact Or.inr ⟨b, by omega, h4⟩
    · intro h
      by_cases hp : p n = true
      · rw [if_pos hp]
        rcases h with q | ⟨b, h3, h4, h5⟩
        · have := ih.mpr (Or.inl q); omega
        · rcases Nat.lt_succ_iff_lt_or_eq.mp h3 with r | r
          · have := ih.mpr (Or.inr ⟨b, r, h4, h5⟩); omega
          · subst r; omega
      · rw [if_neg hp]
        rcases h with q | ⟨b, h3, h4, h5⟩
        · exact ih.mpr (Or.inl q)
        · rcases Nat.lt_succ_iff_lt_or_eq.mp h3 with r | r
          · exact ih.mpr (Or.inr ⟨b, r, h4, h5⟩)
          · subst r; exact absurd h4 hp
theorem mn_MU (p : Nat → Bool) (f : Nat → Nat) (n : Nat) : mn p f n ≤ 1000000 := mn_le.mpr (Or.inl (Nat.le_refl _))
theorem eq_le {a b : Nat} (h : ∀ v, a ≤ v ↔ b ≤ v) : a = b := Nat.le_antisymm ((h b).mpr (Nat.le_refl b)) ((h a).mp (Nat.le_refl a))
theorem mn_cong {p q : Nat → Bool} {f g : Nat → Nat} {n : Nat} (h : ∀ b, b < n → p b = q b) (h2 : ∀ b, b < n → p b = true → f b = g b) : mn p f n = mn q g n := by
  refine eq_le fun v => ?_
  rw [mn_le, mn_le]
  constructor
  · rintro (r | ⟨b, h3, h4, h5⟩)
    · exact Or.inl r
    · exact Or.inr ⟨b, h3, by rw [← h b h3]; exact h4, by rw [← h2 b h3 h4]; exact h5⟩
  · rintro (r | ⟨b, h3, h4, h5⟩)
    · exact Or.inl r
    · have h4' : p b = true := by rw [h b h3]; exact h4
      exact Or.inr ⟨b, h3, h4', by rw [h2 b h3 h4']; exact h5⟩
/-- it is had by some -/
theorem mn_at {p : Nat → Bool} {f : Nat → Nat} {n : Nat} (h : mn p f n < 1000000) : ∃ b, b < n ∧ p b = true ∧ f b = mn p f n := by
  have := (mn_le (p := p) (f := f) (n := n) (v := mn p f n)).mp (Nat.le_refl _)
  rcases this with q | ⟨b, h1, h2, h3⟩
  · omega
  · refine ⟨b, h1, h2, Nat.le_antisymm h3 ?_⟩
    exact mn_le.mpr (Or.inr ⟨b, h1, h2, Nat.le_refl _⟩)
theorem mn_lb {p : Nat → Bool} {f : Nat → Nat} {n b : Nat} (hb : b < n) (hp : p b = true) : mn p f n ≤ f b := mn_le.mpr (Or.inr ⟨b, hb, hp, Nat.le_refl _⟩)
def mK (n M k : Nat) (p : Nat → Bool) (f : Nat → Nat) : Nat := mn (fun b => sp n b && (decide (sx n b < k) && p b)) f M
theorem mK_le (n M k : Nat) (p : Nat → Bool) (f : Nat → Nat) : mK n M k p f ≤ 1000000 := mn_MU _ _ _
theorem mK_0 (n M : Nat) (p : Nat → Bool) (f : Nat → Nat) : mK n M 0 p f = 1000000 := by
  refine Nat.le_antisymm (mn_MU _ _ _) ?_
  rcases Nat.lt_or_ge (mK n M 0 p f) 1000000 with h | h
  · obtain ⟨b, _, h2, _⟩ := mn_at h
    simp at h2
  · exact h
theorem mK_s {n M k b : Nat} {p : Nat → Bool} {f : Nat → Nat} (hb : b < M) (hp : sp n b = true) (hk : k = sx n b) : mK n M (k + 1) p f = if p b then min (mK n M k p f) (f b) else mK n M k p f := by
  refine eq_le fun v => ?_
  have e1 : mK n M (k + 1) p f ≤ v ↔ (mK n M k p f ≤ v ∨ (p b = true ∧ f b ≤ v)) := by
    unfold mK
    rw [mn_le, mn_le]
    constructor
    · rintro (r | ⟨c, h1, h2, h3⟩)
      · exact Or.inl (Or.inl r)
      · simp only [Bool.and_eq_true, decide_eq_true_eq] at h2
        rcases Nat.lt_succ_iff_lt_or_eq.mp h2.2.1 with q | q
        · exact Or.inl (Or.inr ⟨c, h1, by simp [h2.1, h2.2.2, q], h3⟩)
        · have : c = b := sx_inj h2.1 hp (q.trans hk)
          subst this
          exact Or.inr ⟨h2.2.2, h3⟩
    · rintro ((r | ⟨c, h1, h2, h3⟩) | ⟨h1, h2⟩)
      · exact Or.inl r
      · simp only [Bool.and_eq_true, decide_eq_true_eq] at h2
        exact Or.inr ⟨c, h1, by simp [h2.1, h2.2.2]; omega, h3⟩
      · exact Or.inr ⟨b, hb, by simp [hp, h1]; omega, h2⟩
  rw [e1]
  by_cases hpb : p b = true
  · rw [if_pos hpb]
    constructor
    · rintro (q | ⟨_, q⟩) <;> omega
    · intro q
      by_cases h1 : mK n M k p f ≤ v
      · exact Or.inl h1
      · exact Or.inr ⟨hpb, by omega⟩
  · rw [if_neg hpb]
    constructor
    · rintro (q | ⟨q, _⟩)
      · exact q
      · exact absurd q hpb
    · exact fun q => Or.inl q
theorem mK_N {n M : Nat} {p : Nat → Bool} {f : Nat → Nat} : mK n M (sx n M) p f = mn (fun b => sp n b && p b) f M := by
  refine mn_cong (fun b hb => ?_) (fun _ _ _ => rfl)
  cases hs : sp n b with
  | false => simp
  | true => simp [sx_lt hb hs]
/-- moves from row β 0 - 1 - d on, by seat b -/
def csv (β : Bd) (g : Nat → Nat) (d m b : Nat) : Nat := if fit β (β 0 - 1 - d) b && decide (m < 1000000) then m + mvN (g (β 0 - 1 - d)) b (β 2) else 1000000
def cs (β : Bd) (g : Nat → Nat) : Nat → Nat → Nat
  | 0, b => csv β g 0 0 b
  | d + 1, b => csv β g (d + 1) (mn (fun a => sp (β 2) a && mt (β 3) (β 2) b a) (cs β g d) (2 ^ (β 1))) b
def csb (β : Bd) (g : Nat → Nat) : Nat → Nat → Nat
  | 0, _ => 0
  | d + 1, b => mn (fun a => sp (β 2) a && mt (β 3) (β 2) b a) (cs β g d) (2 ^ (β 1))
theorem cs_csb (β : Bd) (g : Nat → Nat) (d b : Nat) : cs β g d b = csv β g d (csb β g d b) b := by cases d <;> rfl
def few (β : Bd) (g : Nat → Nat) : Nat := mn (sp (β 2)) (cs β g (β 0 - 1)) (2 ^ (β 1))
theorem mv_le (a b n : Nat) : mvN a b n ≤ n := fb_ct_le _ n
theorem cs_le {β : Bd} {g : Nat → Nat} (hn : β 2 ≤ 7) (d b : Nat) : cs β g d b ≤ 1000000 + 7 := by
  rw [cs_csb]
  unfold csv
  have := mv_le (g (β 0 - 1 - d)) b (β 2)
  split
  · rename_i h
    simp only [Bool.and_eq_true, decide_eq_true_eq] at h
    omega
  · omega
theorem i_m1 (x : Int32) : x + (-1) = x - 1 := by rw [Int32.sub_eq_add_neg]
section C31
variable {ml : Ml}
set_option maxHeartbeats 2000000 in
/-- fewest -/
theorem c149 {mi : Mi} {F : Int32 → Mi → Ml → Prop} {β : Bd} {g : Nat → Nat} (hM : Md β mi) (hβ : Wf β) (hT : MT β mi) (hS : SN mi (β 2) g)
    (h : ∀ mi', fr [60] mi mi' → (∀ y b, y < β 0 → b < 2 ^ (β 1) → sp (β 2) b = true → mi' 60 (40 * y + sx (β 2) b) = nI (cs β g (β 0 - 1 - y) b)) → F (nI (few β g)) mi' ml) : Sg 149 0 [some (.ref 47), none, none, none, none, none] [] mi ml (qi F) := by
  have hH := hβ.1
  have hW := hβ.2.1
  have hn : β 2 ≤ 7 := by have := hβ.2.2.1; omega
  obtain ⟨w, hwe⟩ : ∃ w, w = β 1 := ⟨_, rfl⟩
  obtain ⟨n, hne⟩ : ∃ n, n = β 2 := ⟨_, rfl⟩
  obtain ⟨len, hle⟩ : ∃ len, len = β 3 := ⟨_, rfl⟩
  obtain ⟨M, hMM⟩ : ∃ M, M = 2 ^ w := ⟨_, rfl⟩
  obtain ⟨N, hN⟩ : ∃ N, N = sx n M := ⟨_, rfl⟩
  have hM7 : M ≤ 128 := by rw [hMM]; exact pw7 (by omega)
  have hN35 : N ≤ 35 := by rw [hN, hMM]; exact sx_w (by omega) (by omega)
  have hT' : MS mi w n len := by rw [hwe, hne, hle]; exact hT
  rw [← hwe, ← hMM, ← hne] at h
  rw [← hne] at hn
  have hfew : few β g = mn (sp n) (cs β g (β 0 - 1)) M := by unfold few; rw [hMM, hwe, hne]
  have hcs : ∀ d b, cs β g d b ≤ 1000000 + 7 := fun d b => cs_le (by rw [← hne]; exact hn) d b
  refine rg149_0 ?_
  have h18 : ∀ mi', fr [60] mi mi' → mi' 47 18 = nI N := fun mi' q => by rw [q 47 (by decide), hT'.1, hN, hMM]
  have h5 : ∀ mi', fr [60] mi mi' → mi' 47 5 - 1 = nI (β 0 - 1) := fun mi' q => by rw [q 47 (by decide), hM.1.1]; exact pk_sub (b := 1) hH.1
  -- what stands in costs
  obtain ⟨Cs, hCs⟩ : ∃ Cs : Mi → Nat → Prop, Cs = fun mi' d => ∀ e b, e < d → b < M → sp n b = true → mi' 60 (40 * (β 0 - 1 - e) + sx n b) = nI (cs β g e b) := ⟨_, rfl⟩
  have rows : ∀ d mi', d ≤ β 0 → (fr [60] mi mi' ∧ Cs mi' d) → Sg 149 10 [some (.ref 47), some (.int (nI (if d = 0 then 1000000 else mn (sp n) (cs β g (d - 1)) M))), some (.int (nI (β 0 - d) - 1)), none, none, none] [] mi' ml (qi F) := by
    refine upI (β 0) (fun d mi' => fr [60] mi mi' ∧ Cs mi' d) (fun d mi' => Sg 149 10 [some (.ref 47), some (.int (nI (if d = 0 then 1000000 else mn (sp n) (cs β g (d - 1)) M))), some (.int (nI (β 0 - d) - 1)), none, none, none] [] mi' ml (qi F)) ?_ ?_
    · rintro mi' ⟨g1, g2⟩
      refine rg149_10 ⟨fun _ => ?_, fun q => absurd (by rw [Nat.sub_self]; decide) q⟩
      rw [if_neg (by omega), ← hfew]
      rw [hCs] at g2
      refine h mi' g1 (fun y b hy hb hp => ?_)
      have := g2 (β 0 - 1 - y) b (by omega) hb hp
      rw [show β 0 - 1 - (β 0 - 1 - y) = y by omega] at this
      exact this
    · rintro d mi' hd ⟨g1, g2⟩ ihd
      obtain ⟨y, hy⟩ : ∃ y, y = β 0 - 1 - d := ⟨_, rfl⟩
      have ez : nI (β 0 - d) - 1 = nI y := by rw [hy]; rw [show β 0 - 1 - d = β 0 - d - 1 by omega]; exact pk_sub (b := 1) (by omega)
      have ez2 : nI y + (-1) = nI (β 0 - (d + 1)) - 1 := by rw [i_m1, hy, show β 0 - 1 - d = β 0 - (d + 1) by omega]
      rw [ez]
      refine rg149_10 (pk_lt y 0 (fun h1 => by omega) (fun _ => ?_))
      -- the seats
      have seats : ∀ k mi', k ≤ N → (fr [60] mi mi' ∧ Cs mi' d ∧ ∀ b, b < M → sp n b = true → sx n b < k → mi' 60 (40 * y + sx n b) = nI (cs β g d b)) → Sg 149 19 [some (.ref 47), some (.int (nI (mK n M k (fun _ => true) (cs β g d)))), some (.int (nI y)), some (.int (nI k)), none, none] [] mi' ml (qi F) := by
        refine upI N (fun k mi' => fr [60] mi mi' ∧ Cs mi' d ∧ ∀ b, b < M → sp n b = true → sx n b < k → mi' 60 (40 * y + sx n b) = nI (cs β g d b)) (fun k mi' => Sg 149 19 [some (.ref 47), some (.int (nI (mK n M k (fun _ => true) (cs β g d)))), some (.int (nI y)), some (.int (nI k)), none, none] [] mi' ml (qi F)) ?_ ?_
        · rintro m1 ⟨f1, f2, f3⟩
          refine rg149_19 (pk_le N N (fun _ => ?_) (fun h1 => by omega) (h18 m1 f1) rfl)
          rw [ez2]
          have em : mK n M N (fun _ => true) (cs β g d) = mn (sp n) (cs β g d) M := by
            rw [hN, mK_N]; exact mn_cong (fun b _ => by simp) (fun _ _ _ => rfl)
          have := ihd m1 ⟨f1, by
            rw [hCs] at f2 ⊢
            intro e b he hb hp
            rcases Nat.lt_succ_iff_lt_or_eq.mp he with q | q
            · exact f2 e b q hb hp
            · subst q
              rw [← hy]
              exact f3 b hb hp (by rw [hN]; exact sx_lt hb hp)⟩
          rw [if_neg (by omega), show d + 1 - 1 = d from rfl] at this
          rw [em]; exact this
        · rintro k m1 hk ⟨f1, f2, f3⟩ ihk
          obtain ⟨b, hb, hp, hkb⟩ := fb_ct_kth (p := sp n) (k := k) (n := M) (by rw [hN] at hk; exact hk)
          have hkb' : sx n b = k := hkb
          have hT2 : MS m1 w n len := hT'.fr f1 (by decide) (by decide) (by decide) (by decide) (by decide)
          have hB2 : Mb β m1 := fun z hz => by rw [f1 52 (by decide)]; exact hM.2 z hz
          have hS2 : SN m1 n g := by rw [hne]; exact hS.mk (f1.mk (by decide))
          have hb128 : b < 128 := by omega
          -- the store
          have store : ∀ (x4 x5 : Int32) v, v = nI (cs β g d b) → Sg 149 160 [some (.ref 47), some (.int (nI (mK n M k (fun _ => true) (cs β g d)))), some (.int (nI y)), some (.int (nI k)), some (.int x4), some (.int x5)] [.int v, .int (40 * nI y + nI k), .ref 60] m1 ml (qi F) := by
            intro x4 x5 v hv
            have e1 : 40 * nI y + nI k = nI (40 * y + k) := by show nI 40 * nI y + nI k = _; rw [pk_mul, nI_add]
            refine rg149_160 ?_
            rw [e1, nI_clamp (by omega), gm_upS, hv, nI_1]
            refine ⟨pk_in (40 * y + k) 280 (by omega), pk_in (40 * y + k) 280 (by omega), ?_⟩
            have hmk := mK_le n M k (fun _ => true) (cs β g d)
            refine c117n (a := mK n M k (fun _ => true) (cs β g d)) (b := cs β g d b) rfl rfl (by omega) (by have := hcs d b; omega) ?_
            have hs := mK_s (p := fun _ => true) (f := cs β g d) hb hp hkb'.symm
            rw [if_pos rfl] at hs
            rw [← hs]
            refine ihk _ ⟨f1.up (by decide), ?_, fun c hc hpc hlt => ?_⟩
            · rw [hCs] at f2 ⊢
              intro e c he hc hpc
              show va_up (m1 60) (40 * y + k) _ (40 * (β 0 - 1 - e) + sx n c) = _
              have := sx_lt34 (n := n) (b := c) (by omega) hpc
              rw [gm_upN (by omega)]
              exact f2 e c he hc hpc
            · show va_up (m1 60) (40 * y + k) _ (40 * y + sx n c) = _
              by_cases hck : sx n c = k
              · have : c = b := sx_inj hpc hp (hck.trans hkb'.symm)
                subst this
                rw [hck, gm_upS]
              · rw [gm_upN (by omega)]; exact f3 c hc hpc (by omega)
          -- behind the look below
          have fin : ∀ (x5 : Int32) m, m ≤ 1000000 → m = csb β g d b → Sg 149 115 [some (.ref 47), some (.int (nI (mK n M k (fun _ => true) (cs β g d)))), some (.int (nI y)), some (.int (nI k)), some (.int (nI m)), some (.int x5)] [] m1 ml (qi F) := by
            intro x5 m hm hmc
            have ef : fit β y b = (nr len b && (β (8 + y) &&& b == 0)) := by unfold fit; rw [← hne, ← hle, hp, Bool.true_and]
            have ec : cs β g d b = if fit β y b && decide (m < 1000000) then m + mvN (g y) b n else 1000000 := by
              rw [cs_csb, ← hmc, hy, hne]; rfl
            refine rg149_115 (c143 (n := n) (len := len) (b := b) (w := w) (β := β) rfl rfl (by omega) (by rw [← hMM]; exact hb) (by omega) hp hkb'.symm hT2 hB2 (hβ.bd (by omega)) ?_)
            rw [← ef]
            refine bq (fun hq => store _ _ _ ?_) (fun hq => pk_le 1000000 m (fun h1 => store _ _ _ ?_) (fun h1 => ⟨pk_in k 40 (by omega), ?_⟩))
            · rw [ec, hq, Bool.false_and, if_neg (by decide)]
              rfl
            · rw [ec, hq, decide_eq_false (by omega), if_neg (by decide)]
              rfl
            · have gb := (hT2.2.1 b (by rw [← hMM]; exact hb) hp).1
              rw [hkb'] at gb
              rw [nI_clamp (by omega), gb]
              refine c148 (n := n) (g := g) rfl rfl (by omega) hb128 hn ?_ hS2 ?_
              · rw [f1 47 (by decide), hne]; exact hM.1.2.2.1
              · refine store _ _ _ ?_
                rw [ec, hq, decide_eq_true h1, Bool.true_and, if_pos rfl, nI_add]
          refine rg149_19 (pk_le N k (fun h1 => by omega) (fun _ => ?_) (h18 m1 f1) rfl)
          rw [h5 m1 f1]
          refine pk_ne y (β 0 - 1) (fun h1 => ?_) (fun h1 => ?_)
          · -- there is a row below
            obtain ⟨e, rfl⟩ : ∃ e, d = e + 1 := ⟨d - 1, by omega⟩
            obtain ⟨f, hf⟩ : ∃ f : Nat → Nat, f = cs β g e := ⟨_, rfl⟩
            have key : ∀ l, l ≤ N → Sg 149 48 [some (.ref 47), some (.int (nI (mK n M k (fun _ => true) (cs β g (e + 1))))), some (.int (nI y)), some (.int (nI k)), some (.int (nI (mK n M l (fun a => mt len n b a) f))), some (.int (nI l))] [] m1 ml (qi F) := by
              refine upP N (fun l => Sg 149 48 [some (.ref 47), some (.int (nI (mK n M k (fun _ => true) (cs β g (e + 1))))), some (.int (nI y)), some (.int (nI k)), some (.int (nI (mK n M l (fun a => mt len n b a) f))), some (.int (nI l))] [] m1 ml (qi F)) ?_ ?_
              · refine rg149_48 (pk_le N N (fun _ => fin _ _ (mn_MU _ _ _) ?_) (fun h2 => by omega) (h18 m1 f1) rfl)
                rw [hN, mK_N, hf, csb, hMM, hwe, hne, hle]
              · intro l hl ihl
                refine rg149_48 (pk_le N l (fun h2 => by omega) (fun _ => ?_) (h18 m1 f1) rfl)
                rw [h5 m1 f1]
                refine pk_le (β 0 - 1) y (fun h2 => by omega) (fun _ => ?_)
                obtain ⟨a, ha, hpa, hla⟩ := fb_ct_kth (p := sp n) (k := l) (n := M) (by rw [hN] at hl; exact hl)
                have hla' : sx n a = l := hla
                have v2 := hT2.2.2 b a (by rw [← hMM]; exact hb) (by rw [← hMM]; exact ha) hp hpa
                rw [hla', hkb'] at v2
                have e1 : 40 * nI k + nI l = nI (40 * k + l) := by show nI 40 * nI k + nI l = _; rw [pk_mul, nI_add]
                have e2 : 40 * nI y + 40 + nI l = nI (40 * (y + 1) + l) := by
                  show nI 40 * nI y + nI 40 + nI l = _
                  rw [pk_mul, nI_add, nI_add, Nat.mul_succ]
                rw [hCs] at f2
                have v3 := f2 e a (by omega) ha hpa
                rw [show β 0 - 1 - e = y + 1 by omega, hla', ← hf] at v3
                rw [mK_s ha hpa hla'.symm] at ihl
                rw [e1, e2, nI_clamp (by omega), nI_clamp (by omega), v2, v3, nI_1]
                refine ⟨pk_in (40 * k + l) 1600 (by omega), bq (fun hq => ?_) (fun hq => ⟨pk_in (40 * (y + 1) + l) 280 (by omega), ?_⟩)⟩
                · rw [if_neg (by rw [hq]; decide)] at ihl; exact ihl
                · rw [if_pos hq] at ihl
                  refine c117n (b := f a) rfl rfl (by have := mK_le n M l (fun a => mt len n b a) f; omega) (by have := hcs e a; rw [hf]; omega) ?_
                  exact ihl
            have := key 0 (Nat.zero_le N)
            rw [mK_0] at this
            exact this
          · have hd0 : d = 0 := by omega
            subst hd0
            refine rg149_48 (pk_le N 0 (fun h2 => by omega) (fun _ => ?_) (h18 m1 f1) rfl)
            rw [h5 m1 f1]
            exact pk_le (β 0 - 1) y (fun _ => fin _ 0 (by decide) rfl) (fun h2 => by omega)
      have := seats 0 mi' (Nat.zero_le N) ⟨g1, g2, fun b _ _ q => by omega⟩
      rw [mK_0] at this
      exact this
  have := rows 0 mi (Nat.zero_le _) ⟨fr.rf, by rw [hCs]; intro e b he; omega⟩
  rw [if_pos rfl] at this
  rw [hM.1.1]
  exact this
end C31
