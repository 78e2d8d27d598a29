/-! the model: its table of seats -/
/-- what of the model's memory may change without changing what it knows -/
def mS : List Nat := [51, 54, 55, 56, 57, 58, 59, 60, 61, 62, 63, 64, 65]
def mk (mi mi' : Mi) : Prop := (∀ c, c ∉ mS → c ≠ 47 → mi' c = mi c) ∧ ∀ k, k ≠ 18 → k ≠ 27 → mi' 47 k = mi 47 k
theorem mk.rf {mi : Mi} : mk mi mi := ⟨fun _ _ _ => rfl, fun _ _ _ => rfl⟩
theorem mk.tr {m1 m2 m3 : Mi} (h1 : mk m1 m2) (h2 : mk m2 m3) : mk m1 m3 := ⟨fun c a b => (h2.1 c a b).trans (h1.1 c a b), fun k a b => (h2.2 k a b).trans (h1.2 k a b)⟩
theorem mk.up {mi mi' : Mi} {c : Nat} {f : Nat → Int32} (h : mk mi mi') (hc : c ∈ mS) : mk mi (va_up mi' c f) := by
  have h47 : (47 : Nat) ≠ c := fun e => by rw [← e] at hc; exact absurd hc (by decide)
  refine ⟨fun x hx hx2 => ?_, fun k h1 h2 => ?_⟩
  · have hne : x ≠ c := fun e => hx (by rw [e]; exact hc)
    rw [gm_upN hne]; exact h.1 x hx hx2
  · rw [gm_upN h47]; exact h.2 k h1 h2
theorem mk.u18 {mi mi' : Mi} {x : Int32} (h : mk mi mi') : mk mi (va_up mi' 47 (va_up (mi' 47) 18 x)) := by
  refine ⟨fun c hc hc2 => ?_, fun k h1 h2 => ?_⟩
  · rw [gm_upN hc2]; exact h.1 c hc hc2
  · rw [gm_upS, gm_upN h1]; exact h.2 k h1 h2
theorem mk.u27 {mi mi' : Mi} {x : Int32} (h : mk mi mi') : mk mi (va_up mi' 47 (va_up (mi' 47) 27 x)) := by
  refine ⟨fun c hc hc2 => ?_, fun k h1 h2 => ?_⟩
  · rw [gm_upN hc2]; exact h.1 c hc hc2
  · rw [gm_upS, gm_upN h2]; exact h.2 k h1 h2
/-- of one seat -/
def ms1 (mi : Mi) (n len b : Nat) : Prop := mi 54 (sx n b) = nI b ∧ mi 56 (sx n b) = bI (nr len b) ∧ ∀ j, j < n → mi 55 (7 * sx n b + j) = nI (cn b j)
/-- the table stands -/
def MS (mi : Mi) (w n len : Nat) : Prop := mi 47 18 = nI (sx n (2 ^ w)) ∧ (∀ b, b < 2 ^ w → sp n b = true → ms1 mi n len b) ∧ ∀ a b, a < 2 ^ w → b < 2 ^ w → sp n a = true → sp n b = true → mi 57 (40 * sx n a + sx n b) = bI (mt len n a b)
section C25
variable {ml : Ml} {F : Mi → Ml → Prop}
theorem nrj_0 (len b : Nat) : nrj len b 0 = true := rfl
set_option maxHeartbeats 1000000 in
/-- one seat's columns -/
theorem c141b {mi0 : Mi} {n len b : Nat} (hb : b < 128) (hp : sp n b = true) (hlen : len < 100)
    (hnext : ∀ mi', mk mi0 mi' → mi' 47 18 = nI (sx n b) → (∀ a, a < b → sp n a = true → ms1 mi' n len a) → ms1 mi' n len b → Sg 141 7 [some (.ref 47), some (.int (nI n)), some (.int (nI len)), some (.int (nI (b + 1))), none, none, none] [] (va_up mi' 47 (va_up (mi' 47) 18 (nI (sx n b + 1)))) ml (qv F)) :
    ∀ j mi', j ≤ n → (mk mi0 mi' ∧ mi' 47 18 = nI (sx n b) ∧ (∀ a, a < b → sp n a = true → ms1 mi' n len a) ∧ mi' 54 (sx n b) = nI b ∧ mi' 56 (sx n b) = bI (allB (nrj len b) j) ∧ ∀ i, i < j → mi' 55 (7 * sx n b + i) = nI (cn b i)) →
      Sg 141 49 [some (.ref 47), some (.int (nI n)), some (.int (nI len)), some (.int (nI b)), some (.int (nI j)), none, none] [] mi' ml (qv F) := by
  have hn : n ≤ 7 := by rw [sp_iff] at hp; have := pcn_le b; omega
  have hpn : pcn b = n := sp_iff.mp hp
  have hs := sx_lt34 hb hp
  obtain ⟨s, hse⟩ : ∃ s, s = sx n b := ⟨_, rfl⟩
  rw [← hse] at hs hnext ⊢
  refine upI n (fun j mi' => mk mi0 mi' ∧ mi' 47 18 = nI s ∧ (∀ a, a < b → sp n a = true → ms1 mi' n len a) ∧ mi' 54 s = nI b ∧ mi' 56 s = bI (allB (nrj len b) j) ∧ ∀ i, i < j → mi' 55 (7 * s + i) = nI (cn b i)) (fun j mi' => Sg 141 49 [some (.ref 47), some (.int (nI n)), some (.int (nI len)), some (.int (nI b)), some (.int (nI j)), none, none] [] mi' ml (qv F)) ?_ ?_
  · rintro mi' ⟨k1, k2, k3, k4, k5, k6⟩
    refine rg141_49 (pk_le n n (fun _ => ?_) (fun h1 => by omega))
    rw [k2, nI_1, nI_1]
    refine hnext mi' k1 k2 k3 ⟨by rw [← hse]; exact k4, ?_, by rw [← hse]; exact k6⟩
    rw [← hse, k5]; unfold nr; rw [hpn]
  · rintro j mi' hj ⟨k1, k2, k3, k4, k5, k6⟩ ih
    refine rg141_49 (pk_le n j (fun h1 => by omega) (fun _ => ?_))
    refine c140 rfl rfl (by omega) (by omega) ?_
    rw [cj_eq (by omega : j < pcn b), k2]
    have e1 : 7 * nI s + nI j = nI (7 * s + j) := by show nI 7 * nI s + nI j = _; rw [pk_mul, nI_add]
    have t1 : (nI (7 * s + j)).toNatClampNeg = 7 * s + j := nI_clamp (by omega)
    have t2 : (nI s).toNatClampNeg = s := nI_clamp (by omega)
    rw [e1, t1, t2, nI_1, k5]
    refine ⟨pk_in (7 * s + j) 280 (by omega), pk_in s 40 (by omega), ?_⟩
    -- the new memory, whatever is written at 56
    have close : ∀ v, v = bI (allB (nrj len b) (j + 1)) → Sg 141 49 [some (.ref 47), some (.int (nI n)), some (.int (nI len)), some (.int (nI b)), some (.int (nI (j + 1))), none, none] [] (va_up (va_up mi' 55 (va_up (mi' 55) (7 * s + j) (nI (cn b j)))) 56 (va_up (mi' 56) s v)) ml (qv F) := by
      intro v hv
      refine ih _ ⟨(k1.up (by decide)).up (by decide), k2, fun a ha hpa => ?_, k4, by rw [gm_upS, gm_upS]; exact hv, fun i hi => ?_⟩
      · have hne : sx n a ≠ s := fun e => by have := sx_inj hpa hp (e.trans hse); omega
        obtain ⟨g1, g2, g3⟩ := k3 a ha hpa
        refine ⟨g1, ?_, fun i hi => ?_⟩
        · show va_up (mi' 56) s v (sx n a) = _
          rw [gm_upN hne]; exact g2
        · show va_up (mi' 55) (7 * s + j) _ (7 * sx n a + i) = _
          rw [gm_upN (by omega)]; exact g3 i hi
      · show va_up (mi' 55) (7 * s + j) _ (7 * s + i) = _
        by_cases hij : i = j
        · subst hij; rw [gm_upS]
        · rw [gm_upN (by omega)]; exact k6 i (by omega)
    refine bq (fun hq => close _ ?_) (fun hq => pk_eq j 0 (fun h0 => close _ ?_) (fun h0 => ?_))
    · show bI false = _
      rw [allB, hq]; rfl
    · show bI true = _
      subst h0; rw [allB, hq]; rfl
    · have e2 : nI (7 * s + j) - 1 = nI (7 * s + j - 1) := by
        have := nI_pred (7 * s + j - 1)
        rw [← this]; congr 2; omega
      have t3 : (nI (7 * s + j - 1)).toNatClampNeg = 7 * s + (j - 1) := by rw [nI_clamp (by omega)]; omega
      rw [e2, t3]
      refine ⟨pk_in (7 * s + j) 280 (by omega), pk_in (7 * s + j - 1) 280 (by omega), ?_⟩
      have hm := cn_mono (b := b) (i := j - 1) (j := j) (by omega) (by omega)
      have hc7 := cn_le b j
      have v1 : va_up (mi' 55) (7 * s + j) (nI (cn b j)) (7 * s + j) = nI (cn b j) := gm_upS
      have v2 : va_up (mi' 55) (7 * s + j) (nI (cn b j)) (7 * s + (j - 1)) = nI (cn b (j - 1)) := by rw [gm_upN (by omega)]; exact k6 (j - 1) (by omega)
      have e3 : nI (cn b j) - nI (cn b (j - 1)) - 1 = nI (cn b j - cn b (j - 1) - 1) := by
        rw [pk_sub (by omega)]
        exact pk_sub (b := 1) (by omega)
      rw [v1, v2, e3]
      refine pk_lt len (cn b j - cn b (j - 1) - 1) (fun h1 => close _ ?_) (fun h1 => close _ ?_)
      · show bI false = _
        rw [allB, hq, nrj, show (j == 0) = false by simpa using h0, decide_eq_false (by omega)]; rfl
      · show bI true = _
        rw [allB, hq, nrj, decide_eq_true (by omega : cn b j - cn b (j - 1) - 1 ≤ len), Bool.or_true]; rfl
end C25
