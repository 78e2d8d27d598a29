/-! the model: its table of seats, whole -/
theorem absd : ∀ a, a ≤ 7 → ∀ b, b ≤ 7 → ∀ len, len ≤ 7 → ((nI len < (if 0 ≤ nI a - nI b then nI a - nI b else 0 - (nI a - nI b))) ↔ (decide (a ≤ b + len) && decide (b ≤ a + len)) = false) := by decide +kernel
section C26
variable {ml : Ml} {F : Mi → Ml → Prop}
/-- rows of the table below k, and of row k those below l -/
def mm (mi : Mi) (w n len k l : Nat) : Prop := ∀ a b, a < 2 ^ w → b < 2 ^ w → sp n a = true → sp n b = true → (sx n a < k ∨ (sx n a = k ∧ sx n b < l)) → mi 57 (40 * sx n a + sx n b) = bI (mt len n a b)
theorem allB_false {p : Nat → Bool} {i n : Nat} (h : i ≤ n) (hf : allB p i = false) : allB p n = false := by
  cases hn : allB p n with
  | false => rfl
  | true =>
    have : allB p i = true := allB_iff.mpr fun k hk => allB_iff.mp hn k (by omega)
    rw [hf] at this; cases this
set_option maxHeartbeats 1000000 in
theorem c141m {mi : Mi} {n len a b k l : Nat} {w : Nat} (hn : n ≤ 7) (hlen : len ≤ 7) (ha : a < 128) (hb : b < 128) (hpa : sp n a = true) (hpb : sp n b = true) (hk : k = sx n a) (hl : l = sx n b) (hma : ms1 mi n len a) (hmb : ms1 mi n len b)
    (hnext : ∀ x6 : Int32, Sg 141 253 [some (.ref 47), some (.int (nI n)), some (.int (nI len)), some (.int (nI k)), some (.int (nI l)), some (.int (bI (mt len n a b))), some (.int x6)] [] mi ml (qv F)) :
    Sg 141 196 [some (.ref 47), some (.int (nI n)), some (.int (nI len)), some (.int (nI k)), some (.int (nI l)), some (.int 1), some (.int 0)] [] mi ml (qv F) := by
  have hka := sx_lt34 ha hpa
  have hlb := sx_lt34 hb hpb
  rw [← hk] at hka
  rw [← hl] at hlb
  have key : ∀ j (_ : Unit), j ≤ n → True → Sg 141 196 [some (.ref 47), some (.int (nI n)), some (.int (nI len)), some (.int (nI k)), some (.int (nI l)), some (.int (bI (allB (mtj len a b) j))), some (.int (nI j))] [] mi ml (qv F) := by
    refine upI n (fun _ _ => True) (fun j _ => Sg 141 196 [some (.ref 47), some (.int (nI n)), some (.int (nI len)), some (.int (nI k)), some (.int (nI l)), some (.int (bI (allB (mtj len a b) j))), some (.int (nI j))] [] mi ml (qv F)) ?_ ?_
    · intro _ _
      exact rg141_196 (pk_le n n (fun _ => hnext _) (fun h1 => by omega))
    · intro j _ hj _ ih
      refine rg141_196 (pk_le n j (fun h1 => by omega) (fun _ => bq (fun hq => ?_) (fun hq => ?_)))
      · have e : mt len n a b = false := allB_false (i := j) (by omega) hq
        have := hnext (nI j)
        rw [e] at this
        rw [hq]
        exact this
      · have e1 : 7 * nI k + nI j = nI (7 * k + j) := by show nI 7 * nI k + nI j = _; rw [pk_mul, nI_add]
        have e2 : 7 * nI l + nI j = nI (7 * l + j) := by show nI 7 * nI l + nI j = _; rw [pk_mul, nI_add]
        rw [e1, e2, nI_clamp (by omega), nI_clamp (by omega), nI_1]
        have g1 := hma.2.2 j hj
        have g2 := hmb.2.2 j hj
        rw [← hk] at g1
        rw [← hl] at g2
        rw [g1, g2]
        refine ⟨pk_in (7 * k + j) 280 (by omega), pk_in (7 * l + j) 280 (by omega), c118 ?_⟩
        have hs := ih () trivial
        have ad := absd (cn a j) (cn_le a j) (cn b j) (cn_le b j) len hlen
        refine ⟨fun h1 => ?_, fun h1 => ?_⟩
        · have e : allB (mtj len a b) (j + 1) = false := by rw [allB, hq, Bool.true_and]; exact ad.mp h1
          rw [e] at hs; exact hs
        · have e : allB (mtj len a b) (j + 1) = true := by
            rw [allB, hq, Bool.true_and]
            cases hz : mtj len a b j with
            | true => rfl
            | false => exact absurd (ad.mpr hz) h1
          rw [e] at hs; exact hs
  exact key 0 () (Nat.zero_le n) trivial
set_option maxHeartbeats 1000000 in
/-- seatsOf -/
theorem c141 {mi : Mi} {x y : Int32} {w n len : Nat} (hx : x = nI n) (hy : y = nI len) (hw6 : mi 47 6 = nI w) (hw : 1 ≤ w ∧ w ≤ 7) (hn : n ≤ 7) (hlen : len ≤ 7)
    (h : ∀ mi', mk mi mi' → MS mi' w n len → F mi' ml) : Sg 141 0 [some (.ref 47), some (.int x), some (.int y), none, none, none, none] [] mi ml (qv F) := by
  subst hx hy
  refine rg141_0 ?_
  have hp7 := pw7 hw.2
  -- the mates
  have mates : ∀ mi', mk mi mi' → mi' 47 18 = nI (sx n (2 ^ w)) → (∀ b, b < 2 ^ w → sp n b = true → ms1 mi' n len b) → Sg 141 170 [some (.ref 47), some (.int (nI n)), some (.int (nI len)), some (.int 0), none, none, none] [] mi' ml (qv F) := by
    intro mi1 k1 k2 k3
    obtain ⟨N, hN⟩ : ∃ N, N = sx n (2 ^ w) := ⟨_, rfl⟩
    have hN35 : N ≤ 35 := by rw [hN]; exact sx_w (by omega) hw.2
    have key : ∀ k mi', k ≤ N → (mk mi mi' ∧ mi' 47 18 = nI N ∧ (∀ b, b < 2 ^ w → sp n b = true → ms1 mi' n len b) ∧ mm mi' w n len k 0) → Sg 141 170 [some (.ref 47), some (.int (nI n)), some (.int (nI len)), some (.int (nI k)), none, none, none] [] mi' ml (qv F) := by
      refine upI N (fun k mi' => mk mi mi' ∧ mi' 47 18 = nI N ∧ (∀ b, b < 2 ^ w → sp n b = true → ms1 mi' n len b) ∧ mm mi' w n len k 0) (fun k mi' => Sg 141 170 [some (.ref 47), some (.int (nI n)), some (.int (nI len)), some (.int (nI k)), none, none, none] [] mi' ml (qv F)) ?_ ?_
      · rintro mi' ⟨g1, g2, g3, g4⟩
        refine rg141_170 (pk_le N N (fun _ => ?_) (fun h1 => by omega) g2 rfl)
        exact h mi' g1 ⟨by rw [← hN]; exact g2, g3, fun a b ha hb hpa hpb => g4 a b ha hb hpa hpb (Or.inl (by rw [hN]; exact sx_lt ha hpa))⟩
      · rintro k mi' hk ⟨g1, g2, g3, g4⟩ ihk
        refine rg141_170 (pk_le N k (fun h1 => by omega) (fun _ => ?_) g2 rfl)
        have inner : ∀ l mi', l ≤ N → (mk mi mi' ∧ mi' 47 18 = nI N ∧ (∀ b, b < 2 ^ w → sp n b = true → ms1 mi' n len b) ∧ mm mi' w n len k l) → Sg 141 181 [some (.ref 47), some (.int (nI n)), some (.int (nI len)), some (.int (nI k)), some (.int (nI l)), none, none] [] mi' ml (qv F) := by
          refine upI N (fun l mi' => mk mi mi' ∧ mi' 47 18 = nI N ∧ (∀ b, b < 2 ^ w → sp n b = true → ms1 mi' n len b) ∧ mm mi' w n len k l) (fun l mi' => Sg 141 181 [some (.ref 47), some (.int (nI n)), some (.int (nI len)), some (.int (nI k)), some (.int (nI l)), none, none] [] mi' ml (qv F)) ?_ ?_
          · rintro mi' ⟨f1, f2, f3, f4⟩
            refine rg141_181 (pk_le N N (fun _ => ?_) (fun h1 => by omega) f2 rfl)
            rw [nI_1]
            refine ihk mi' ⟨f1, f2, f3, fun a b ha hb hpa hpb hc => f4 a b ha hb hpa hpb ?_⟩
            rcases hc with hc | hc
            · rcases Nat.lt_succ_iff_lt_or_eq.mp hc with q | q
              · exact Or.inl q
              · exact Or.inr ⟨q, by rw [hN]; exact sx_lt hb hpb⟩
            · omega
          · rintro l mi' hl ⟨f1, f2, f3, f4⟩ ihl
            refine rg141_181 (pk_le N l (fun h1 => by omega) (fun _ => ?_) f2 rfl)
            obtain ⟨a, ha, hpa, hka⟩ := fb_ct_kth (p := sp n) (k := k) (n := 2 ^ w) (by rw [hN] at hk; exact hk)
            obtain ⟨b, hb, hpb, hlb⟩ := fb_ct_kth (p := sp n) (k := l) (n := 2 ^ w) (by rw [hN] at hl; exact hl)
            refine c141m (a := a) (b := b) (w := w) hn hlen (by omega) (by omega) hpa hpb hka.symm hlb.symm (f3 a ha hpa) (f3 b hb hpb) (fun x6 => ?_)
            have e1 : 40 * nI k + nI l = nI (40 * k + l) := by show nI 40 * nI k + nI l = _; rw [pk_mul, nI_add]
            refine rg141_253 ?_
            rw [e1, nI_clamp (by omega), nI_1]
            refine ⟨pk_in (40 * k + l) 1600 (by omega), bI_01 _, ?_⟩
            refine ihl _ ⟨f1.up (by decide), f2, fun c hc hpc => f3 c hc hpc, fun a' b' ha' hb' hpa' hpb' hc => ?_⟩
            show va_up (mi' 57) (40 * k + l) _ (40 * sx n a' + sx n b') = _
            have hx1 := sx_lt34 (n := n) (b := a') (by omega) hpa'
            have hx2 := sx_lt34 (n := n) (b := b') (by omega) hpb'
            by_cases he : sx n a' = k ∧ sx n b' = l
            · have ea : a' = a := sx_inj hpa' hpa (he.1.trans hka.symm)
              have eb : b' = b := sx_inj hpb' hpb (he.2.trans hlb.symm)
              subst ea; subst eb
              rw [he.1, he.2, gm_upS]
            · rw [gm_upN (by omega)]
              exact f4 a' b' ha' hb' hpa' hpb' (by omega)
        exact inner 0 mi' (Nat.zero_le N) ⟨g1, g2, g3, g4⟩
    exact key 0 mi1 (Nat.zero_le N) ⟨k1, by rw [hN]; exact k2, k3, fun a b _ _ _ _ hc => by omega⟩
  have key : ∀ b mi', b ≤ 2 ^ w → (mk mi mi' ∧ mi' 47 18 = nI (sx n b) ∧ ∀ a, a < b → sp n a = true → ms1 mi' n len a) → Sg 141 7 [some (.ref 47), some (.int (nI n)), some (.int (nI len)), some (.int (nI b)), none, none, none] [] mi' ml (qv F) := by
    refine upI (2 ^ w) (fun b mi' => mk mi mi' ∧ mi' 47 18 = nI (sx n b) ∧ ∀ a, a < b → sp n a = true → ms1 mi' n len a) (fun b mi' => Sg 141 7 [some (.ref 47), some (.int (nI n)), some (.int (nI len)), some (.int (nI b)), none, none, none] [] mi' ml (qv F)) ?_ ?_
    · rintro mi' ⟨g1, g2, g3⟩
      have h6 : mi' 47 6 = nI w := by rw [g1.2 6 (by decide) (by decide)]; exact hw6
      refine rg141_7 (pk_le (2 ^ w) (2 ^ w) (fun _ => mates mi' g1 g2 g3) (fun h1 => by omega) (by rw [h6]; exact shl_N w (by omega)) rfl)
    · rintro b mi' hb ⟨g1, g2, g3⟩ ih
      have h6 : mi' 47 6 = nI w := by rw [g1.2 6 (by decide) (by decide)]; exact hw6
      refine rg141_7 (pk_le (2 ^ w) b (fun h1 => by omega) (fun _ => ?_) (by rw [h6]; exact shl_N w (by omega)) rfl)
      refine c119 (nI_l (by omega)) (by omega) ?_
      have e49 : ct b 49 = pcn b := by
        show fb_ct _ (7 + 42) = _
        rw [fb_ct_split]
        have : fb_ct (fun k => b.testBit (7 + k)) 42 = 0 := fb_ct_zero.mpr fun k _ => tb_lt (n := 7) (by omega) (by omega)
        rw [this]; rfl
      have hpl := pcn_le b
      rw [e49, nI_1]
      refine pk_ne (pcn b) n (fun h1 => ?_) (fun h1 => ?_)
      · have e : sx n (b + 1) = sx n b := by rw [sx_succ, if_neg (fun q => h1 (sp_iff.mp q))]; rfl
        refine ih mi' ⟨g1, by rw [e]; exact g2, fun a ha hpa => g3 a ?_ hpa⟩
        rcases Nat.lt_succ_iff_lt_or_eq.mp ha with q | q
        · exact q
        · subst q; exact absurd (sp_iff.mp hpa) h1
      · have hp : sp n b = true := sp_iff.mpr h1
        have hs := sx_lt34 (by omega : b < 128) hp
        have e : sx n (b + 1) = sx n b + 1 := by rw [sx_succ, hp]; rfl
        rw [g2, nI_clamp (by omega)]
        refine ⟨pk_in (sx n b) 40 (by omega), ?_⟩
        refine c141b (mi0 := mi) (by omega) hp (by omega) (fun mi2 q1 q2 q3 q4 => ?_) 0 _ (Nat.zero_le n) ⟨(g1.up (by decide)).up (by decide), g2, fun a ha hpa => ?_, ?_, ?_, fun i hi => by omega⟩
        · refine ih _ ⟨q1.u18, by rw [e, gm_upS, gm_upS], fun a ha hpa => ?_⟩
          have : ms1 mi2 n len a := by
            rcases Nat.lt_succ_iff_lt_or_eq.mp ha with q | q
            · exact q3 a q hpa
            · subst q; exact q4
          exact this
        · have hne : sx n a ≠ sx n b := fun q => by have := sx_inj hpa hp q; omega
          obtain ⟨f1, f2, f3⟩ := g3 a ha hpa
          refine ⟨?_, ?_, f3⟩
          · show va_up (mi' 54) (sx n b) _ (sx n a) = _
            rw [gm_upN hne]; exact f1
          · show va_up (mi' 56) (sx n b) _ (sx n a) = _
            rw [gm_upN hne]; exact f2
        · show va_up (mi' 54) (sx n b) _ (sx n b) = _
          exact gm_upS
        · show va_up (mi' 56) (sx n b) _ (sx n b) = _
          rw [gm_upS]; rfl
  refine key 0 _ (Nat.zero_le _) ⟨mk.rf.u18, by rw [gm_upS, gm_upS]; rfl, fun a ha => by omega⟩
end C26
