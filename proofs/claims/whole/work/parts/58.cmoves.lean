/-! the placer: fewest moves -/
/-- moves from row β 0 - 1 - d on, by seat b, as the class counts them -/
def kk (β : Bd) (g : Nat → Nat) : Nat → Nat → Nat
  | 0, b => mvN (g (β 0 - 1 - 0)) b (β 2)
  | d + 1, b => mvN (g (β 0 - 1 - (d + 1))) b (β 2) + (if anyB (fun a => fit β (β 0 - 1 - d) a && mt (β 3) (β 2) b a) (2 ^ (β 1)) then mn (fun a => fit β (β 0 - 1 - d) a && mt (β 3) (β 2) b a) (kk β g d) (2 ^ (β 1)) else 1000)
def kb (β : Bd) (g : Nat → Nat) : Nat → Nat → Nat
  | 0, _ => 0
  | d + 1, b => if anyB (fun a => fit β (β 0 - 1 - d) a && mt (β 3) (β 2) b a) (2 ^ (β 1)) then mn (fun a => fit β (β 0 - 1 - d) a && mt (β 3) (β 2) b a) (kk β g d) (2 ^ (β 1)) else 1000
theorem kk_kb (β : Bd) (g : Nat → Nat) (d b : Nat) : kk β g d b = mvN (g (β 0 - 1 - d)) b (β 2) + kb β g d b := by cases d <;> rfl
section C58
variable {β : Bd} {g : Nat → Nat}
theorem cs_fit {d b : Nat} (h : cs β g d b < 1000000) : fit β (β 0 - 1 - d) b = true ∧ csb β g d b < 1000000 ∧ cs β g d b = csb β g d b + mvN (g (β 0 - 1 - d)) b (β 2) := by
  rw [cs_csb] at h ⊢
  unfold csv at h ⊢
  split at h
  · rename_i h1
    rw [if_pos h1]
    simp only [Bool.and_eq_true, decide_eq_true_eq] at h1
    exact ⟨h1.1, h1.2, rfl⟩
  · omega
theorem cs_bd (hn : β 2 ≤ 7) : ∀ d b, cs β g d b < 1000000 → cs β g d b ≤ 7 * (d + 1)
  | 0, b, h => by
    have := cs_fit h
    have hm := mv_le (g (β 0 - 1 - 0)) b (β 2)
    have e : csb β g 0 b = 0 := rfl
    omega
  | d + 1, b, h => by
    have h1 := cs_fit h
    have hm := mv_le (g (β 0 - 1 - (d + 1))) b (β 2)
    have h2 : mn (fun a => sp (β 2) a && mt (β 3) (β 2) b a) (cs β g d) (2 ^ (β 1)) < 1000000 := h1.2.1
    have e : csb β g (d + 1) b = mn (fun a => sp (β 2) a && mt (β 3) (β 2) b a) (cs β g d) (2 ^ (β 1)) := rfl
    obtain ⟨a, ha, hp, hv⟩ := mn_at h2
    have := cs_bd hn d a (by omega)
    omega
/-- what the class counts -/
def KR (β : Bd) (g : Nat → Nat) (d : Nat) : Prop := ∀ b, fit β (β 0 - 1 - d) b = true → (cs β g d b < 1000000 → kk β g d b = cs β g d b) ∧ (1000000 ≤ cs β g d b → 1000 ≤ kk β g d b) ∧ kk β g d b ≤ 1000 + 7 * (d + 1)
/-- the least are the least -/
theorem mn_kk {p q : Nat → Bool} {M d : Nat} (hn : β 2 ≤ 7) (hd : d < 7) (hK : KR β g d) (hp : ∀ a, p a = true ↔ (q a = true ∧ fit β (β 0 - 1 - d) a = true)) (hm : mn q (cs β g d) M < 1000000) {i : Nat} (hi : i < M) (hpi : p i = true) (hmin : ∀ j, j < M → p j = true → kk β g d i ≤ kk β g d j) : kk β g d i = mn q (cs β g d) M ∧ cs β g d i = mn q (cs β g d) M := by
  obtain ⟨a, ha, hqa, hva⟩ := mn_at hm
  have hfa := cs_fit (β := β) (g := g) (d := d) (b := a) (by omega)
  have hpa : p a = true := (hp a).mpr ⟨hqa, hfa.1⟩
  have hka := (hK a hfa.1).1 (by omega)
  have hba := cs_bd (g := g) hn d a (by omega)
  have h1 := hmin a ha hpa
  have hfi := (hp i).mp hpi
  have hKi := hK i hfi.2
  have hci : cs β g d i < 1000000 := by
    rcases Nat.lt_or_ge (cs β g d i) 1000000 with r | r
    · exact r
    · have := hKi.2.1 r; omega
  have hki := hKi.1 hci
  have h2 : mn q (cs β g d) M ≤ cs β g d i := mn_lb hi hfi.1
  omega
theorem kr_all (hn : β 2 ≤ 7) : ∀ d, d < 7 → KR β g d
  | 0, _ => fun b hb => by
    have hm := mv_le (g (β 0 - 1 - 0)) b (β 2)
    have e : kk β g 0 b = mvN (g (β 0 - 1 - 0)) b (β 2) := rfl
    have e2 : cs β g 0 b = mvN (g (β 0 - 1 - 0)) b (β 2) := by
      show csv β g 0 0 b = _
      unfold csv
      rw [hb, if_pos (by decide), Nat.zero_add]
    exact ⟨fun _ => by omega, fun _ => by omega, by omega⟩
  | d + 1, hd => fun b hb => by
    have ih := kr_all hn d (by omega)
    have hm := mv_le (g (β 0 - 1 - (d + 1))) b (β 2)
    obtain ⟨p, hp⟩ : ∃ p : Nat → Bool, p = fun a => fit β (β 0 - 1 - d) a && mt (β 3) (β 2) b a := ⟨_, rfl⟩
    obtain ⟨q, hq⟩ : ∃ q : Nat → Bool, q = fun a => sp (β 2) a && mt (β 3) (β 2) b a := ⟨_, rfl⟩
    have hpq : ∀ a, p a = true ↔ (q a = true ∧ fit β (β 0 - 1 - d) a = true) := fun a => by
      rw [hp, hq]
      simp only [Bool.and_eq_true]
      exact ⟨fun h => ⟨⟨fit_sp h.1, h.2⟩, h.1⟩, fun h => ⟨h.2, h.1.2⟩⟩
    have ek : kk β g (d + 1) b = mvN (g (β 0 - 1 - (d + 1))) b (β 2) + (if anyB p (2 ^ (β 1)) then mn p (kk β g d) (2 ^ (β 1)) else 1000) := by rw [hp]; rfl
    have ec : cs β g (d + 1) b = if mn q (cs β g d) (2 ^ (β 1)) < 1000000 then mn q (cs β g d) (2 ^ (β 1)) + mvN (g (β 0 - 1 - (d + 1))) b (β 2) else 1000000 := by
      show csv β g (d + 1) (mn (fun a => sp (β 2) a && mt (β 3) (β 2) b a) (cs β g d) (2 ^ (β 1))) b = _
      rw [← hq]
      unfold csv
      rw [hb, Bool.true_and]
      by_cases hc : mn q (cs β g d) (2 ^ (β 1)) < 1000000
      · rw [if_pos hc, if_pos (by simpa using hc)]
      · rw [if_neg hc, if_neg (by simpa using hc)]
    have up : ∀ a, a < 2 ^ (β 1) → p a = true → mn p (kk β g d) (2 ^ (β 1)) ≤ 1000 + 7 * (d + 1) := fun a ha hpa => by
      have := (ih a ((hpq a).mp hpa).2).2.2
      have := mn_lb (f := kk β g d) ha hpa
      omega
    have hup : (if anyB p (2 ^ (β 1)) then mn p (kk β g d) (2 ^ (β 1)) else 1000) ≤ 1000 + 7 * (d + 1) := by
      split
      · rename_i hany
        obtain ⟨a, ha, hpa⟩ := anyB_iff.mp hany
        exact up a ha hpa
      · omega
    by_cases hc : mn q (cs β g d) (2 ^ (β 1)) < 1000000
    · rw [if_pos hc] at ec
      obtain ⟨a, ha, hqa, hva⟩ := mn_at hc
      have hfa := cs_fit (β := β) (g := g) (d := d) (b := a) (by omega)
      have hpa : p a = true := (hpq a).mpr ⟨hqa, hfa.1⟩
      have hlt : mn p (kk β g d) (2 ^ (β 1)) < 1000000 := by have := up a ha hpa; omega
      obtain ⟨i, hi, hpi, hvi⟩ := mn_at hlt
      have := mn_kk hn (by omega) ih hpq hc hi hpi (fun j hj hpj => by rw [hvi]; exact mn_lb hj hpj)
      rw [if_pos (anyB_iff.mpr ⟨a, ha, hpa⟩)] at ek
      have hb2 := cs_bd (g := g) hn d a (by omega)
      exact ⟨fun _ => by omega, fun _ => by omega, by omega⟩
    · rw [if_neg hc] at ec
      refine ⟨fun _ => by omega, fun _ => ?_, by omega⟩
      have : 1000 ≤ (if anyB p (2 ^ (β 1)) then mn p (kk β g d) (2 ^ (β 1)) else 1000) := by
        split
        · rcases Nat.lt_or_ge (mn p (kk β g d) (2 ^ (β 1))) 1000 with r | r
          · rcases (mn_le (v := 999)).mp (Nat.le_of_lt_succ r) with r2 | ⟨a, ha, hpa, hva⟩
            · omega
            · have hKa := ih a ((hpq a).mp hpa).2
              have hca : cs β g d a < 1000000 := by
                rcases Nat.lt_or_ge (cs β g d a) 1000000 with r3 | r3
                · exact r3
                · have := hKa.2.1 r3; omega
              have : mn q (cs β g d) (2 ^ (β 1)) ≤ cs β g d a := mn_lb ha ((hpq a).mp hpa).1
              omega
          · exact r
        · exact Nat.le_refl _
      omega
theorem cs_kc (hn : β 2 ≤ 7) : ∀ d b, d < 7 → (cs β g d b < 1000000 ↔ kc β d b = true)
  | 0, b, _ => by
    have hm := mv_le (g (β 0 - 1 - 0)) b (β 2)
    show csv β g 0 0 b < 1000000 ↔ fit β (β 0 - 1) b = true
    unfold csv
    rw [Nat.sub_zero]
    cases hf : fit β (β 0 - 1) b with
    | false => simp
    | true =>
      have hm' := mv_le (g (β 0 - 1)) b (β 2)
      rw [if_pos (by decide)]; simp; omega
  | d + 1, b, hd => by
    have ih := fun a => cs_kc hn d a (by omega)
    have hm := mv_le (g (β 0 - 1 - (d + 1))) b (β 2)
    rw [kc, Bool.and_eq_true, anyB_iff]
    constructor
    · intro h
      have h1 := cs_fit h
      refine ⟨h1.1, ?_⟩
      have h2 : mn (fun a => sp (β 2) a && mt (β 3) (β 2) b a) (cs β g d) (2 ^ (β 1)) < 1000000 := h1.2.1
      obtain ⟨a, ha, hp, hv⟩ := mn_at h2
      rw [Bool.and_eq_true] at hp
      exact ⟨a, ha, by rw [(ih a).mp (by omega), hp.2]; rfl⟩
    · rintro ⟨h1, a, ha, h2⟩
      rw [Bool.and_eq_true] at h2
      have hca := (ih a).mpr h2.1
      have hba := cs_bd (g := g) hn d a hca
      have hsa := fit_sp (cs_fit hca).1
      have hle : mn (fun a => sp (β 2) a && mt (β 3) (β 2) b a) (cs β g d) (2 ^ (β 1)) ≤ cs β g d a := mn_lb ha (by rw [hsa, h2.2]; rfl)
      rw [cs_csb]
      have e : csb β g (d + 1) b = mn (fun a => sp (β 2) a && mt (β 3) (β 2) b a) (cs β g d) (2 ^ (β 1)) := rfl
      unfold csv
      rw [h1, e, if_pos (by simp; omega)]
      omega
theorem few_wh (hβ : Wf β) : few β g < 1000000 ↔ whole β = true := by
  have hH := hβ.1
  have hn : β 2 ≤ 7 := by have := hβ.2.2.1; have := hβ.2.1; omega
  rw [← fbk_any hH.1 (β 0 - 1) 0 (by omega), anyB_iff]
  constructor
  · intro h
    obtain ⟨b, hb, hp, hv⟩ := mn_at h
    have hc : cs β g (β 0 - 1) b < 1000000 := by rw [hv]; exact h
    refine ⟨b, hb, ?_⟩
    have hk := (cs_kc hn (β 0 - 1) b (by omega)).mp hc
    have hf := kc_fit hk
    rw [Nat.sub_self] at hf
    unfold fbk
    rw [Nat.sub_zero, hk, Bool.and_true]
    exact hf
  · rintro ⟨b, hb, h⟩
    unfold fbk at h
    rw [Bool.and_eq_true, Nat.sub_zero] at h
    have hc := (cs_kc (g := g) hn (β 0 - 1) b (by omega)).mpr h.2
    have : few β g ≤ cs β g (β 0 - 1) b := mn_lb hb (fit_sp h.1)
    omega
/-- cheapest -/
theorem c53 {mi : Mi} {ml : Ml} {F : Int32 → Mi → Ml → Prop} {x : Int32} {s : Int64} {y N : Nat} {p : Nat → Bool} {f : Nat → Nat} (hx : x = nI y) (hy : y < 7) (hs : s = lN (bm p N)) (hN : N ≤ 35) (h4 : mi 4 0 = nI N) (hf : ∀ i, i < N → p i = true → mi 16 (y * 35 + i) = nI (f i)) (hfb : ∀ i, i < N → p i = true → f i < 2 ^ 31)
    (h1 : (∀ i, i < N → p i = false) → F (-1) mi ml) (h2 : ∀ i, i < N → p i = true → (∀ j, j < N → p j = true → f i ≤ f j) → (∀ j, j < i → p j = true → f i < f j) → F (nI (y * 35 + i)) mi ml) : Sg 53 0 [some (.ref 3), some (.int x), some (.long s), none, none, none, none] [] mi ml (qi F) := by
  subst hx hs
  refine rg53_0 ?_
  have hb := bm_62 p hN
  have e35 : nI y * 35 = nI (y * 35) := pk_mul y 35
  have key := upI N (fun k (x4 : Int32) => (x4 = -1 ∧ ∀ i, i < k → p i = false) ∨ ∃ i, i < k ∧ x4 = nI (y * 35 + i) ∧ p i = true ∧ (∀ j, j < k → p j = true → f i ≤ f j) ∧ ∀ j, j < i → p j = true → f i < f j) (fun k x4 => Sg 53 6 [some (.ref 3), some (.int (nI y)), some (.long (lN (bm p N))), none, some (.int x4), some (.int (nI k)), none] [] mi ml (qi F)) ?_ ?_
  · exact key 0 (-1) (Nat.zero_le _) (Or.inl ⟨rfl, fun i hi => by omega⟩)
  · rintro x4 hI
    refine rg53_6 (pk_le N N (fun _ => ?_) (fun q => by omega) h4 rfl)
    rcases hI with ⟨rfl, hno⟩ | ⟨i, hi, rfl, hp, hm, hl⟩
    · exact h1 hno
    · exact h2 i hi hp hm hl
  · rintro k x4 hk hI ih
    refine rg53_6 (pk_le N k (fun q => by omega) (fun _ => ?_) h4 rfl)
    rw [lbit (by omega) (by omega), bm_tb, e35, nI_add, nI_1, nI_clamp (by omega)]
    have hd : decide (k < N) = true := by simpa using hk
    rw [hd, Bool.true_and]
    refine ⟨fun hq => ?_, fun hq => ?_⟩
    · have hpk : p k = false := by simpa using hq
      refine ih x4 ?_
      rcases hI with ⟨rfl, hno⟩ | ⟨i, hi, rfl, hp, hm, hl⟩
      · refine Or.inl ⟨rfl, fun i hi => ?_⟩
        rcases Nat.lt_succ_iff_lt_or_eq.mp hi with r | r
        · exact hno i r
        · rw [r]; exact hpk
      · refine Or.inr ⟨i, by omega, rfl, hp, fun j hj hpj => ?_, hl⟩
        rcases Nat.lt_succ_iff_lt_or_eq.mp hj with r | r
        · exact hm j r hpj
        · rw [r, hpk] at hpj; cases hpj
    · have hpk : p k = true := by simpa using hq
      rcases hI with ⟨rfl, hno⟩ | ⟨i, hi, rfl, hp, hm, hl⟩
      · refine ⟨fun _ => ih _ (Or.inr ⟨k, by omega, rfl, hpk, fun j hj hpj => ?_, fun j hj hpj => ?_⟩), fun q => absurd rfl q⟩
        · rcases Nat.lt_succ_iff_lt_or_eq.mp hj with r | r
          · rw [hno j r] at hpj; cases hpj
          · rw [r]; exact Nat.le_refl _
        · rw [hno j hj] at hpj; cases hpj
      · refine ⟨fun q => ?_, fun _ => ⟨pk_in (y * 35 + k) 245 (by omega), pk_in (y * 35 + i) 245 (by omega), ?_⟩⟩
        · exfalso
          have h0 : ¬ nI (y * 35 + i) < 0 := nI_pos (by omega)
          rw [q] at h0
          exact h0 (by decide)
        · rw [nI_clamp (by omega), hf i (by omega) hp, hf k hk hpk]
          refine pk_le (f i) (f k) (fun q => ih _ (Or.inr ⟨i, by omega, rfl, hp, fun j hj hpj => ?_, hl⟩)) (fun q => ih _ (Or.inr ⟨k, by omega, rfl, hpk, fun j hj hpj => ?_, fun j hj hpj => ?_⟩)) rfl rfl (hfb i (by omega) hp) (hfb k hk hpk)
          · rcases Nat.lt_succ_iff_lt_or_eq.mp hj with r | r
            · exact hm j r hpj
            · rw [r]; exact q
          · rcases Nat.lt_succ_iff_lt_or_eq.mp hj with r | r
            · have := hm j r hpj; omega
            · rw [r]; exact Nat.le_refl _
          · have := hm j hj hpj; omega
end C58
