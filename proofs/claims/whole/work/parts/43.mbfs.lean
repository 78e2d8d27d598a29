/-! the model's chains: what is reached -/
/-- how the model writes from where something is reached -/
def en (s : Nat) : Int32 := if s = 0 then -2 else if s = 1 then -1 else nI (s - 2)
theorem en_0 : en 0 = -2 := rfl
theorem en_1 : en 1 = -1 := rfl
theorem en_v (v : Nat) : en (2 + v) = nI v := by
  unfold en
  rw [if_neg (by omega), if_neg (by omega)]
  congr 1; omega
theorem en_m2 {s : Nat} (h : s < 2 ^ 30) : en s = -2 ↔ s = 0 := by
  constructor
  · intro e
    unfold en at e
    by_cases h0 : s = 0
    · exact h0
    · rw [if_neg h0] at e
      by_cases h1 : s = 1
      · rw [if_pos h1] at e; exact absurd e (by decide)
      · rw [if_neg h1] at e; exact absurd e (n2_ne _ (by omega))
  · intro e; rw [e]; rfl
theorem en_m1 {s : Nat} (h : s < 2 ^ 30) : en s = -1 ↔ s = 1 := by
  constructor
  · intro e
    unfold en at e
    by_cases h0 : s = 0
    · rw [if_pos h0] at e; exact absurd e (by decide)
    · rw [if_neg h0] at e
      by_cases h1 : s = 1
      · exact h1
      · rw [if_neg h1] at e; exact absurd e (n1_ne _ (by omega))
  · intro e; rw [e]; rfl
/-- what the model's memory has of it -/
def MQu (β : Bd) (cf q : Nat → Nat) (c : Nat) (mi : Mi) : Prop := mi 47 27 = nI c ∧ (∀ w, w < 2 * (β 0 * β 1) → mi 64 w = en (cf w)) ∧ ∀ i, i < c → mi 65 i = nI (q i)
/-- what of the flow -/
def MP (β : Bd) (P : Nat → Nat) (mi : Mi) : Prop := (∀ k, k < β 0 * β 1 → mi 62 k = bI (decide (P k ≠ 0))) ∧ ∀ b d, b < β 0 * β 1 → d < 4 → mi 63 (4 * b + d) = bI (decide (nbd β b d < β 0 * β 1) && decide (P (nbd β b d) = 2 + b))
/-- only S and waiting change -/
def fq (S : List Nat) (mi mi' : Mi) : Prop := (∀ c, c ∉ S → c ≠ 47 → mi' c = mi c) ∧ ∀ k, k ≠ 27 → mi' 47 k = mi 47 k
theorem fq.rf {S : List Nat} {mi : Mi} : fq S mi mi := ⟨fun _ _ _ => rfl, fun _ _ => rfl⟩
theorem fq.tr {S : List Nat} {m1 m2 m3 : Mi} (h1 : fq S m1 m2) (h2 : fq S m2 m3) : fq S m1 m3 := ⟨fun c a b => (h2.1 c a b).trans (h1.1 c a b), fun k a => (h2.2 k a).trans (h1.2 k a)⟩
theorem fq.mono {S S' : List Nat} {m1 m2 : Mi} (h : fq S m1 m2) (hS : ∀ c ∈ S, c ∈ S') : fq S' m1 m2 := ⟨fun c a b => h.1 c (fun q => a (hS c q)) b, h.2⟩
theorem fq.fr {S : List Nat} {m1 m2 : Mi} (h : fr S m1 m2) (h47 : 47 ∉ S) : fq S m1 m2 := ⟨fun c a _ => h c a, fun k _ => by rw [h 47 h47]⟩
theorem fq.mk {S : List Nat} {mi mi' : Mi} (h : fq S mi mi') (hS : ∀ c ∈ S, c ∈ mS) : mk mi mi' := ⟨fun c hc h47 => h.1 c (fun q => hc (hS c q)) h47, fun k _ h27 => h.2 k h27⟩
theorem fq.Md {S : List Nat} {β : Bd} {mi mi' : Mi} (h : fq S mi mi') (hM : Md β mi) (hS : 52 ∉ S) : Md β mi' := by
  obtain ⟨⟨h1, h2, h3, h4, h5⟩, h6⟩ := hM
  exact ⟨⟨by rw [h.2 5 (by decide)]; exact h1, by rw [h.2 6 (by decide)]; exact h2, by rw [h.2 7 (by decide)]; exact h3, by rw [h.2 8 (by decide)]; exact h4, by rw [h.2 9 (by decide)]; exact h5⟩, fun y hy => by rw [h.1 52 hS (by decide)]; exact h6 y hy⟩
theorem MP.fq {S : List Nat} {β : Bd} {P : Nat → Nat} {mi mi' : Mi} (h : MP β P mi) (hf : fq S mi mi') (h62 : 62 ∉ S) (h63 : 63 ∉ S) : MP β P mi' :=
  ⟨fun k hk => by rw [hf.1 62 h62 (by decide)]; exact h.1 k hk, fun b d hb hd => by rw [hf.1 63 h63 (by decide)]; exact h.2 b d hb hd⟩
/-- it has grown -/
def Grw (cf q : Nat → Nat) (c : Nat) (cf' q' : Nat → Nat) (c' : Nat) : Prop := c ≤ c' ∧ (∀ i, i < c → q' i = q i) ∧ ∀ x, cf x ≠ 0 → cf' x ≠ 0
theorem Grw.rf {cf q : Nat → Nat} {c : Nat} : Grw cf q c cf q c := ⟨Nat.le_refl _, fun _ _ => rfl, fun _ h => h⟩
theorem Grw.tr {cf q cf' q' cf2 q2 : Nat → Nat} {c c' c2 : Nat} (h1 : Grw cf q c cf' q' c') (h2 : Grw cf' q' c' cf2 q2 c2) : Grw cf q c cf2 q2 c2 :=
  ⟨Nat.le_trans h1.1 h2.1, fun i hi => (h2.2.1 i (Nat.lt_of_lt_of_le hi h1.1)).trans (h1.2.1 i hi), fun x hx => h2.2.2 x (h1.2.2 x hx)⟩
theorem Bfs.cfb {K : Nat} {bad : Nat → Bool} {adj : Nat → Nat → Bool} {P cf q : Nat → Nat} {c : Nat} (h : Bfs K bad adj P cf q c) {w : Nat} (hw : w < 2 * K) : cf w < 2 * K + 2 := by
  by_cases h0 : cf w = 0
  · omega
  · obtain ⟨i, hi, e⟩ := h.2.2.1 w hw h0
    subst e
    rcases (h.2.1 i hi).2 with ⟨r, _⟩ | ⟨j, hj, r, _⟩
    · omega
    · have := (h.2.1 j (by omega)).1
      omega
section C43
variable {ml : Ml} {β : Bd} {P : Nat → Nat}
/-- reaches -/
theorem c172 {mi : Mi} {F : Mi → Ml → Prop} {cf q : Nat → Nat} {c w s : Nat} {x y : Int32} (hβ : Wf β) (hx : x = nI w) (hy : y = en s) (hQ : MQu β cf q c mi) (hB : BfB β P cf q c) (hw : w < 2 * (β 0 * β 1)) (hs : cf w = 0 → s ≠ 0 ∧ ((s = 1 ∧ ∃ k, k < β 0 * β 1 ∧ w = 2 * k ∧ bt β k = true) ∨ ∃ j, j < c ∧ s = 2 + q j ∧ RsB β P (q j) w))
    (h : ∀ mi' cf' q' c', fq [64, 65] mi mi' → MQu β cf' q' c' mi' → BfB β P cf' q' c' → Grw cf q c cf' q' c' → cf' w ≠ 0 → F mi' ml) : Sg 172 0 [some (.ref 47), some (.int x), some (.int y)] [] mi ml (qv F) := by
  subst hx hy
  have h49 := HW49 hβ
  have hcb := hB.cfb hw
  refine rg172_0 ?_
  rw [nI_clamp (by omega), hQ.2.1 w hw]
  refine ⟨pk_in w 98 (by omega), ?_⟩
  by_cases h0 : cf w = 0
  · refine ⟨fun q => absurd ((en_m2 (by omega)).mpr h0) q, fun _ => ?_⟩
    have hlt := hB.lt hw h0
    obtain ⟨hs0, hs⟩ := hs h0
    rw [hQ.1, nI_clamp (by omega), nI_1]
    refine ⟨pk_in c 98 (by omega), ?_⟩
    refine h _ (va_up cf w s) (va_up q c w) (c + 1) ⟨fun x hx hx47 => ?_, fun k hk => ?_⟩ ⟨?_, fun z hz => ?_, fun i hi => ?_⟩ (hB.st hw h0 hs0 hs) ⟨by omega, fun i hi => gm_upN (by omega), fun x hx => ?_⟩ ?_
    · simp only [List.mem_cons, not_or, List.not_mem_nil, not_false_eq_true, and_true] at hx
      rw [gm_upN hx47, gm_upN hx.2, gm_upN hx.1]
    · rw [gm_upS]; exact gm_upN hk
    · rw [gm_upS, gm_upS]
    · show va_up (mi 64) w (en s) z = _
      by_cases hzw : z = w
      · subst hzw; rw [gm_upS, gm_upS]
      · rw [gm_upN hzw, gm_upN hzw]; exact hQ.2.1 z hz
    · show va_up (mi 65) c (nI w) i = _
      by_cases hic : i = c
      · subst hic; rw [gm_upS, gm_upS]
      · rw [gm_upN hic, gm_upN hic]; exact hQ.2.2 i (by omega)
    · by_cases hxw : x = w
      · subst hxw; rw [gm_upS]; exact hs0
      · rw [gm_upN hxw]; exact hx
    · rw [gm_upS]; exact hs0
  · exact ⟨fun _ => h mi cf q c fq.rf hQ hB Grw.rf h0, fun q => absurd (fun e => h0 ((en_m2 (by omega)).mp e)) q⟩
theorem nI_half {w : Nat} (h : w < 2 ^ 31) : nI w / 2 = nI (w / 2) := pk_div (d := 2) h (by decide) (by decide)
theorem nI_odd {w : Nat} (h : w < 2 ^ 31) : nI w - nI w / 2 * 2 = nI (w % 2) := pk_rem (d := 2) h (by decide) (by decide)
set_option maxHeartbeats 1000000 in
/-- goesOn -/
theorem c173 {mi : Mi} {F : Mi → Ml → Prop} {cf q : Nat → Nat} {c i : Nat} {x : Int32} (hβ : Wf β) (hM : Md β mi) (hF : FlB β P) (hP : MP β P mi) (hx : x = nI (q i)) (hi : i < c) (hQ : MQu β cf q c mi) (hB : BfB β P cf q c) (hsrc : ∀ k, k < β 0 * β 1 → bt β k = true → cf (2 * k) ≠ 0)
    (h : ∀ mi' cf' q' c', fq [64, 65] mi mi' → MQu β cf' q' c' mi' → BfB β P cf' q' c' → Grw cf q c cf' q' c' → (∀ w, RsB β P (q i) w → cf' w ≠ 0) → F mi' ml) : Sg 173 0 [some (.ref 47), some (.int x), none, none, none] [] mi ml (qv F) := by
  subst hx
  have h49 := HW49 hβ
  have hv := (hB.2.1 i hi).1
  obtain ⟨v, hve⟩ : ∃ v, v = q i := ⟨_, rfl⟩
  rw [← hve] at hv h ⊢
  obtain ⟨k, hk⟩ : ∃ k, k = v / 2 := ⟨_, rfl⟩
  have hkK : k < β 0 * β 1 := by omega
  have hkP := hP.1 k hkK
  refine rg173_0 ?_
  rw [nI_odd (by omega), nI_half (by omega), ← hk, nI_clamp (by omega), hkP]
  refine pk_ne (v % 2) 0 (fun hodd => ⟨pk_in k 49 (by omega), ?_⟩) (fun heven => ⟨pk_in k 49 (by omega), ?_⟩)
  · -- an exit
    have hvk : v = 2 * k + 1 := by omega
    have loop : ∀ d mi', d ≤ 4 → (∃ cf' q' c', fq [64, 65] mi mi' ∧ MQu β cf' q' c' mi' ∧ BfB β P cf' q' c' ∧ Grw cf q c cf' q' c' ∧ (P k ≠ 0 → cf' (2 * k) ≠ 0) ∧ ∀ e b, e < d → nbd β k e = b → b < β 0 * β 1 → bt β b = false → cf' (2 * b) ≠ 0) → Sg 173 103 [some (.ref 47), some (.int (nI v)), some (.int (nI k)), some (.int (nI d)), none] [] mi' ml (qv F) := by
      refine upI 4 (fun d mi' => ∃ cf' q' c', fq [64, 65] mi mi' ∧ MQu β cf' q' c' mi' ∧ BfB β P cf' q' c' ∧ Grw cf q c cf' q' c' ∧ (P k ≠ 0 → cf' (2 * k) ≠ 0) ∧ ∀ e b, e < d → nbd β k e = b → b < β 0 * β 1 → bt β b = false → cf' (2 * b) ≠ 0) (fun d mi' => Sg 173 103 [some (.ref 47), some (.int (nI v)), some (.int (nI k)), some (.int (nI d)), none] [] mi' ml (qv F)) ?_ ?_
      · rintro mi' ⟨cf', q', c', g1, g2, g3, g4, g5, g6⟩
        refine rg173_103 (pk_le 4 4 (fun _ => h mi' cf' q' c' g1 g2 g3 g4 (fun w hr => ?_)) (fun h1 => by omega))
        rw [hvk] at hr
        rcases hr.xn with ⟨r1, r2⟩ | ⟨b, r1, r2, r3⟩
        · rw [r1]; exact g5 r2
        · rw [r2]
          obtain ⟨⟨d, hd, e⟩, hb, -⟩ := aj'_iff.mp r3
          rw [r2] at hr
          exact g6 d b hd e hb (hr.e).2.1
      · rintro d mi' hd ⟨cf', q', c', g1, g2, g3, g4, g5, g6⟩ ih
        have hM' := g1.Md hM (by decide)
        refine rg173_103 (pk_le 4 d (fun h1 => by omega) (fun _ => c171 (β := β) rfl rfl hM' hβ hkK hd ?_))
        rw [nI_1]
        by_cases hn : nbd β k d = 49
        · rw [if_pos hn]
          refine ⟨fun _ => ih mi' ⟨cf', q', c', g1, g2, g3, g4, g5, fun e b he hb hbK hbb => ?_⟩, fun q => absurd rfl q⟩
          rcases Nat.lt_succ_iff_lt_or_eq.mp he with r | r
          · exact g6 e b r hb hbK hbb
          · subst r; omega
        · rw [if_neg hn]
          obtain ⟨o1, o2, o3⟩ := nbd_ok hβ hkK hd hn
          refine ⟨fun q => absurd q (n1_ne _ (by omega)), fun _ => c170 rfl hM' hβ o1 ?_⟩
          refine bqn (fun hb => ?_) (fun hb => ?_)
          · refine ih mi' ⟨cf', q', c', g1, g2, g3, g4, g5, fun e b he hbe hbK hbb => ?_⟩
            rcases Nat.lt_succ_iff_lt_or_eq.mp he with r | r
            · exact g6 e b r hbe hbK hbb
            · subst r; rw [hbe] at hb; rw [hb] at hbb; cases hbb
          · refine c172 (P := P) (w := 2 * nbd β k d) (s := 2 + v) hβ (pk_mul 2 _) (en_v v).symm g2 g3 (by omega) (fun _ => ⟨by omega, Or.inr ⟨i, by have := g4.1; omega, by rw [g4.2.1 i hi, hve], ?_⟩⟩) ?_
            · rw [g4.2.1 i hi, ← hve, hvk]
              exact Or.inr (Or.inr (Or.inr ⟨k, nbd β k d, hkK, o1, rfl, rfl, aj'_iff.mpr ⟨⟨d, hd, rfl⟩, o1, hkK⟩, hb⟩))
            · intro m2 cf2 q2 c2 a1 a2 a3 a4 a5
              refine ih m2 ⟨cf2, q2, c2, g1.tr a1, a2, a3, g4.tr a4, fun r => a4.2.2 _ (g5 r), fun e b he hbe hbK hbb => ?_⟩
              rcases Nat.lt_succ_iff_lt_or_eq.mp he with r | r
              · exact a4.2.2 _ (g6 e b r hbe hbK hbb)
              · subst r; rw [← hbe]; exact a5
    by_cases hp0 : P k = 0
    · rw [show decide (P k ≠ 0) = false by simp [hp0]]
      exact ⟨fun _ => loop 0 mi (by omega) ⟨cf, q, c, fq.rf, hQ, hB, Grw.rf, fun r => absurd hp0 r, fun e b he => by omega⟩, fun q => absurd rfl q⟩
    · rw [show decide (P k ≠ 0) = true by simp [hp0]]
      refine ⟨fun q => absurd q (by decide), fun _ => ?_⟩
      refine c172 (P := P) (w := 2 * k) (s := 2 + v) hβ ?_ (en_v v).symm hQ hB (by omega) (fun hc0 => ⟨by omega, Or.inr ⟨i, hi, by rw [hve], ?_⟩⟩) ?_
      · rw [hvk]; exact nI_pred (2 * k)
      · rw [← hve, hvk]
        refine Or.inr (Or.inr (Or.inl ⟨k, hkK, rfl, rfl, hp0, ?_⟩))
        cases hbk : bt β k with
        | false => rfl
        | true => exact absurd hc0 (hsrc k hkK hbk)
      · intro m2 cf2 q2 c2 a1 a2 a3 a4 a5
        exact loop 0 m2 (by omega) ⟨cf2, q2, c2, a1, a2, a3, a4, fun _ => a5, fun e b he => by omega⟩
  · -- an entry
    have hvk : v = 2 * k := by omega
    have loop : ∀ d mi', d ≤ 4 → (∃ cf' q' c', fq [64, 65] mi mi' ∧ MQu β cf' q' c' mi' ∧ BfB β P cf' q' c' ∧ Grw cf q c cf' q' c' ∧ (P k = 0 → cf' (2 * k + 1) ≠ 0) ∧ ∀ e b, e < d → nbd β k e = b → b < β 0 * β 1 → P k = 2 + b → cf' (2 * b + 1) ≠ 0) → Sg 173 29 [some (.ref 47), some (.int (nI v)), some (.int (nI k)), some (.int (nI d)), none] [] mi' ml (qv F) := by
      refine upI 4 (fun d mi' => ∃ cf' q' c', fq [64, 65] mi mi' ∧ MQu β cf' q' c' mi' ∧ BfB β P cf' q' c' ∧ Grw cf q c cf' q' c' ∧ (P k = 0 → cf' (2 * k + 1) ≠ 0) ∧ ∀ e b, e < d → nbd β k e = b → b < β 0 * β 1 → P k = 2 + b → cf' (2 * b + 1) ≠ 0) (fun d mi' => Sg 173 29 [some (.ref 47), some (.int (nI v)), some (.int (nI k)), some (.int (nI d)), none] [] mi' ml (qv F)) ?_ ?_
      · rintro mi' ⟨cf', q', c', g1, g2, g3, g4, g5, g6⟩
        refine rg173_29 (pk_le 4 4 (fun _ => h mi' cf' q' c' g1 g2 g3 g4 (fun w hr => ?_)) (fun h1 => by omega))
        rw [hvk] at hr
        rcases hr.en with ⟨r1, r2⟩ | ⟨b, r1, r2, r3⟩
        · rw [r1]; exact g5 r2
        · rw [r2]
          obtain ⟨⟨d, hd, e⟩, -, -⟩ := aj'_iff.mp (hF.2.1 k b hkK r3).2.1
          have hne : nbd β b d ≠ 49 := by omega
          obtain ⟨o1, o2, o3⟩ := nbd_ok hβ r1 hd hne
          rw [e] at o2
          exact g6 ((d + 2) % 4) b (Nat.mod_lt _ (by decide)) o2 r1 r3
      · rintro d mi' hd ⟨cf', q', c', g1, g2, g3, g4, g5, g6⟩ ih
        have hM' := g1.Md hM (by decide)
        have hP' := hP.fq g1 (by decide) (by decide)
        refine rg173_29 (pk_le 4 d (fun h1 => by omega) (fun _ => c171 (β := β) rfl rfl hM' hβ hkK hd ?_))
        rw [nI_1]
        by_cases hn : nbd β k d = 49
        · rw [if_pos hn]
          refine ⟨fun _ => ih mi' ⟨cf', q', c', g1, g2, g3, g4, g5, fun e b he hb hbK hbb => ?_⟩, fun q => absurd rfl q⟩
          rcases Nat.lt_succ_iff_lt_or_eq.mp he with r | r
          · exact g6 e b r hb hbK hbb
          · subst r; omega
        · rw [if_neg hn]
          obtain ⟨o1, o2, o3⟩ := nbd_ok hβ hkK hd hn
          have hm4 : (d + 2) % 4 < 4 := Nat.mod_lt _ (by decide)
          have e2 : nI d + 2 - (nI d + 2) / 4 * 4 = nI ((d + 2) % 4) := by
            have : nI d + 2 = nI (d + 2) := nI_add d 2
            rw [this]
            exact pk_rem (d := 4) (by omega) (by decide) (by decide)
          have e3 : 4 * nI (nbd β k d) + nI ((d + 2) % 4) = nI (4 * nbd β k d + (d + 2) % 4) := by
            show nI 4 * nI _ + _ = _
            rw [pk_mul, nI_add]
          have v63 := hP'.2 (nbd β k d) ((d + 2) % 4) o1 hm4
          rw [o2, decide_eq_true hkK, Bool.true_and] at v63
          rw [e2, e3, nI_clamp (by omega), v63]
          refine ⟨fun q => absurd q (n1_ne _ (by omega)), fun _ => ⟨pk_in (4 * nbd β k d + (d + 2) % 4) 196 (by omega), bq (fun hb => ?_) (fun hb => ?_)⟩⟩
          · refine ih mi' ⟨cf', q', c', g1, g2, g3, g4, g5, fun e b he hbe hbK hbb => ?_⟩
            rcases Nat.lt_succ_iff_lt_or_eq.mp he with r | r
            · exact g6 e b r hbe hbK hbb
            · subst r; rw [hbe] at hb
              rw [decide_eq_true hbb] at hb; cases hb
          · have hpk : P k = 2 + nbd β k d := of_decide_eq_true hb
            refine c172 (P := P) (w := 2 * nbd β k d + 1) (s := 2 + v) hβ ?_ (en_v v).symm g2 g3 (by omega) (fun _ => ⟨by omega, Or.inr ⟨i, by have := g4.1; omega, by rw [g4.2.1 i hi, hve], ?_⟩⟩) ?_
            · show nI 2 * nI _ + 1 = _
              rw [pk_mul, nI_1]
            · rw [g4.2.1 i hi, ← hve, hvk]
              exact Or.inr (Or.inl ⟨k, nbd β k d, hkK, o1, rfl, rfl, hpk⟩)
            · intro m2 cf2 q2 c2 a1 a2 a3 a4 a5
              refine ih m2 ⟨cf2, q2, c2, g1.tr a1, a2, a3, g4.tr a4, fun r => a4.2.2 _ (g5 r), fun e b he hbe hbK hbb => ?_⟩
              rcases Nat.lt_succ_iff_lt_or_eq.mp he with r | r
              · exact a4.2.2 _ (g6 e b r hbe hbK hbb)
              · subst r; rw [← hbe]; exact a5
    by_cases hp0 : P k = 0
    · rw [show decide (P k ≠ 0) = false by simp [hp0]]
      refine ⟨fun q => absurd rfl q, fun _ => ?_⟩
      refine c172 (P := P) (w := 2 * k + 1) (s := 2 + v) hβ ?_ (en_v v).symm hQ hB (by omega) (fun _ => ⟨by omega, Or.inr ⟨i, hi, by rw [hve], ?_⟩⟩) ?_
      · rw [hvk]; exact nI_1 (2 * k)
      · rw [← hve, hvk]
        exact Or.inl ⟨k, hkK, rfl, rfl, hp0⟩
      · intro m2 cf2 q2 c2 a1 a2 a3 a4 a5
        exact loop 0 m2 (by omega) ⟨cf2, q2, c2, a1, a2, a3, a4, fun _ => a5, fun e b he => by omega⟩
    · rw [show decide (P k ≠ 0) = true by simp [hp0]]
      exact ⟨fun _ => loop 0 mi (by omega) ⟨cf, q, c, fq.rf, hQ, hB, Grw.rf, fun r => absurd r hp0, fun e b he => by omega⟩, fun q => absurd (by decide) q⟩
end C43
