/-! the class's chains: places, kinds, what is reached -/
/-- the place of a cell -/
def pl (W k : Nat) : Nat := (k / W + 1) * 9 + k % W + 1
def isp (H W p : Nat) : Bool := decide (1 ≤ p % 9) && (decide (p % 9 ≤ W) && (decide (1 ≤ p / 9) && decide (p / 9 ≤ H)))
def kp (W p : Nat) : Nat := (p / 9 - 1) * W + (p % 9 - 1)
def plt (H W k : Nat) : Bool := !decide (k < H * W) || (decide (10 ≤ pl W k) && (decide (pl W k ≤ 70) && (isp H W (pl W k) && (kp W (pl W k) == k))))
def plv (H W p : Nat) : Bool := !isp H W p || (decide (kp W p < H * W) && (pl W (kp W p) == p))
def pln (H W k : Nat) : Bool := !decide (k < H * W) ||
  ((if nbw H W k 0 = 49 then !isp H W (pl W k - 1) else (pl W (nbw H W k 0) == pl W k - 1)) &&
  ((if nbw H W k 1 = 49 then !isp H W (pl W k - 9) else (pl W (nbw H W k 1) == pl W k - 9)) &&
  ((if nbw H W k 2 = 49 then !isp H W (pl W k + 1) else (pl W (nbw H W k 2) == pl W k + 1)) &&
  (if nbw H W k 3 = 49 then !isp H W (pl W k + 9) else (pl W (nbw H W k 3) == pl W k + 9)))))
theorem plt_T : ∀ H, H < 8 → ∀ W, W < 8 → ∀ k, k < 49 → plt H W k = true := by decide +kernel
theorem plv_T : ∀ H, H < 8 → ∀ W, W < 8 → ∀ p, p < 81 → plv H W p = true := by decide +kernel
theorem pln_T : ∀ H, H < 8 → ∀ W, W < 8 → ∀ k, k < 49 → pln H W k = true := by decide +kernel
theorem pl_ok {β : Bd} (hβ : Wf β) {k : Nat} (hk : k < β 0 * β 1) : 10 ≤ pl (β 1) k ∧ pl (β 1) k ≤ 70 ∧ isp (β 0) (β 1) (pl (β 1) k) = true ∧ kp (β 1) (pl (β 1) k) = k := by
  have h49 := HW49 hβ
  have := plt_T (β 0) (by have := hβ.1; omega) (β 1) (by have := hβ.2.1; omega) k (by omega)
  unfold plt at this
  rw [decide_eq_true hk] at this
  simp only [Bool.not_true, Bool.false_or, Bool.and_eq_true, decide_eq_true_eq, beq_iff_eq] at this
  exact this
theorem pl_inj {β : Bd} (hβ : Wf β) {k l : Nat} (hk : k < β 0 * β 1) (hl : l < β 0 * β 1) (h : pl (β 1) k = pl (β 1) l) : k = l := by
  have h1 := (pl_ok hβ hk).2.2.2
  have h2 := (pl_ok hβ hl).2.2.2
  rw [h] at h1
  omega
theorem kp_ok {β : Bd} (hβ : Wf β) {p : Nat} (hp : p < 81) (h : isp (β 0) (β 1) p = true) : kp (β 1) p < β 0 * β 1 ∧ pl (β 1) (kp (β 1) p) = p := by
  have := plv_T (β 0) (by have := hβ.1; omega) (β 1) (by have := hβ.2.1; omega) p hp
  unfold plv at this
  rw [h] at this
  simp only [Bool.not_true, Bool.false_or, Bool.and_eq_true, decide_eq_true_eq, beq_iff_eq] at this
  exact this
theorem pl_nb {β : Bd} (hβ : Wf β) {k : Nat} (hk : k < β 0 * β 1) (d z : Nat) (hz : (d = 0 ∧ z = pl (β 1) k - 1) ∨ (d = 1 ∧ z = pl (β 1) k - 9) ∨ (d = 2 ∧ z = pl (β 1) k + 1) ∨ (d = 3 ∧ z = pl (β 1) k + 9)) : (nbd β k d = 49 ∧ isp (β 0) (β 1) z = false) ∨ (nbd β k d ≠ 49 ∧ pl (β 1) (nbd β k d) = z) := by
  have h49 := HW49 hβ
  have := pln_T (β 0) (by have := hβ.1; omega) (β 1) (by have := hβ.2.1; omega) k (by omega)
  unfold pln at this
  rw [decide_eq_true hk] at this
  simp only [Bool.not_true, Bool.false_or, Bool.and_eq_true] at this
  obtain ⟨h0, h1, h2, h3⟩ := this
  unfold nbd
  rcases hz with ⟨rfl, rfl⟩ | ⟨rfl, rfl⟩ | ⟨rfl, rfl⟩ | ⟨rfl, rfl⟩
  · by_cases h : nbw (β 0) (β 1) k 0 = 49
    · rw [if_pos h] at h0; exact Or.inl ⟨h, by simpa using h0⟩
    · rw [if_neg h] at h0; exact Or.inr ⟨h, by simpa using h0⟩
  · by_cases h : nbw (β 0) (β 1) k 1 = 49
    · rw [if_pos h] at h1; exact Or.inl ⟨h, by simpa using h1⟩
    · rw [if_neg h] at h1; exact Or.inr ⟨h, by simpa using h1⟩
  · by_cases h : nbw (β 0) (β 1) k 2 = 49
    · rw [if_pos h] at h2; exact Or.inl ⟨h, by simpa using h2⟩
    · rw [if_neg h] at h2; exact Or.inr ⟨h, by simpa using h2⟩
  · by_cases h : nbw (β 0) (β 1) k 3 = 49
    · rw [if_pos h] at h3; exact Or.inl ⟨h, by simpa using h3⟩
    · rw [if_neg h] at h3; exact Or.inr ⟨h, by simpa using h3⟩
/-- the class's board -/
def Cd (β : Bd) (mi : Mi) : Prop := (mi 1 0 = nI (β 0) ∧ mi 1 1 = nI (β 1) ∧ mi 1 2 = nI (β 2) ∧ mi 1 3 = nI (β 3) ∧ mi 1 4 = nI (β 4)) ∧ ∀ y, y < 7 → mi 2 y = nI (β (8 + y))
/-- where a node stands -/
def nd (W v : Nat) : Nat := 2 * pl W (v / 2) + v % 2
theorem nd_e (W k : Nat) : nd W (2 * k) = 2 * pl W k := by unfold nd; rw [show 2 * k / 2 = k by omega, show 2 * k % 2 = 0 by omega]; rfl
theorem nd_x (W k : Nat) : nd W (2 * k + 1) = 2 * pl W k + 1 := by unfold nd; rw [show (2 * k + 1) / 2 = k by omega, show (2 * k + 1) % 2 = 1 by omega]
theorem nd_lt {β : Bd} (hβ : Wf β) {v : Nat} (hv : v < 2 * (β 0 * β 1)) : nd (β 1) v < 142 := by
  have := (pl_ok hβ (show v / 2 < β 0 * β 1 by omega)).2.1
  unfold nd; omega
theorem nd_inj {β : Bd} (hβ : Wf β) {v w : Nat} (hv : v < 2 * (β 0 * β 1)) (hw : w < 2 * (β 0 * β 1)) (h : nd (β 1) v = nd (β 1) w) : v = w := by
  unfold nd at h
  have := pl_inj hβ (k := v / 2) (l := w / 2) (by omega) (by omega) (by omega)
  omega
/-- how the class writes it -/
def ec (W s : Nat) : Int32 := if s = 0 then -2 else if s = 1 then -1 else nI (nd W (s - 2))
theorem ec_v (W v : Nat) : ec W (2 + v) = nI (nd W v) := by
  unfold ec
  rw [if_neg (by omega), if_neg (by omega)]
  congr 2; omega
theorem ec_m2 {W s : Nat} (h : 2 ≤ s → nd W (s - 2) < 2 ^ 30) : ec W s = -2 ↔ s = 0 := by
  constructor
  · intro e
    unfold ec at e
    by_cases h0 : s = 0
    · exact h0
    · rw [if_neg h0] at e
      by_cases h1 : s = 1
      · rw [if_pos h1] at e; exact absurd e (by decide)
      · rw [if_neg h1] at e; exact absurd e (n2_ne _ (by have := h (by omega); omega))
  · intro e; rw [e]; rfl
def eP (W s : Nat) : Int32 := if s = 0 then -3 else if s = 1 then -1 else nI (pl W (s - 2))
/-- the kinds -/
def kd (β : Bd) (p : Nat) : Nat := if isp (β 0) (β 1) p then (if bt β (kp (β 1) p) then 2 else 1) + (if ot β (kp (β 1) p) then 4 else 0) else 0
def CK (β : Bd) (mi : Mi) : Prop := ∀ p, p < 81 → mi 19 p = nI (kd β p)
theorem kd_3 (β : Bd) (p : Nat) : kd β p ≤ 6 := by unfold kd; split <;> (try split) <;> (try split) <;> omega
theorem kd_k {β : Bd} (hβ : Wf β) {k : Nat} (hk : k < β 0 * β 1) : kd β (pl (β 1) k) = (if bt β k then 2 else 1) + (if ot β k then 4 else 0) := by
  obtain ⟨_, _, h3, h4⟩ := pl_ok hβ hk
  unfold kd
  rw [h3, if_pos rfl, h4]
def CQ (β : Bd) (cf q : Nat → Nat) (c : Nat) (mi : Mi) : Prop := mi 18 5 = nI c ∧ (∀ w, w < 2 * (β 0 * β 1) → mi 21 (nd (β 1) w) = ec (β 1) (cf w)) ∧ (∀ p, p < 81 → isp (β 0) (β 1) p = false → mi 21 (2 * p) ≠ -2) ∧ ∀ i, i < c → mi 22 i = nI (nd (β 1) (q i))
def CPl (β : Bd) (P : Nat → Nat) (mi : Mi) : Prop := ∀ k, k < β 0 * β 1 → mi 20 (pl (β 1) k) = eP (β 1) (P k)
def gq (S : List Nat) (mi mi' : Mi) : Prop := (∀ c, c ∉ S → c ≠ 18 → mi' c = mi c) ∧ ∀ k, k ≠ 5 → mi' 18 k = mi 18 k
theorem gq.rf {S : List Nat} {mi : Mi} : gq S mi mi := ⟨fun _ _ _ => rfl, fun _ _ => rfl⟩
theorem gq.tr {S : List Nat} {m1 m2 m3 : Mi} (h1 : gq S m1 m2) (h2 : gq S m2 m3) : gq S m1 m3 := ⟨fun c a b => (h2.1 c a b).trans (h1.1 c a b), fun k a => (h2.2 k a).trans (h1.2 k a)⟩
theorem gq.mono {S S' : List Nat} {m1 m2 : Mi} (h : gq S m1 m2) (hS : ∀ c ∈ S, c ∈ S') : gq S' m1 m2 := ⟨fun c a b => h.1 c (fun q => a (hS c q)) b, h.2⟩
theorem gq.fr {S : List Nat} {m1 m2 : Mi} (h : fr S m1 m2) (h18 : 18 ∉ S) : gq S m1 m2 := ⟨fun c a _ => h c a, fun k _ => by rw [h 18 h18]⟩
section C46
variable {ml : Ml} {β : Bd} {P : Nat → Nat}
/-- reach, by places -/
theorem c20m {mi : Mi} {F : Mi → Ml → Prop} {z c : Nat} {x y : Int32} (hx : x = nI z) (hz : z < 162) (hc : mi 18 5 = nI c) (hc2 : c < 162) (hno : mi 21 z ≠ -2 → F mi ml) (hyes : mi 21 z = -2 → F (va_up (va_up (va_up mi 21 (va_up (mi 21) z y)) 22 (va_up (mi 22) c x)) 18 (va_up (mi 18) 5 (nI (c + 1)))) ml) : Sg 20 0 [some (.ref 18), some (.int x), some (.int y)] [] mi ml (qv F) := by
  subst hx
  refine rg20_0 (pk_lt z 0 (fun h1 => by omega) (fun _ => pk_le 162 z (fun h1 => by omega) (fun _ => ?_)))
  rw [hc, nI_clamp (by omega), nI_clamp (by omega), nI_1]
  refine pk_le 162 c (fun h1 => by omega) (fun _ => ⟨pk_in z 162 hz, fun h1 => hno h1, fun h1 => ⟨pk_in c 162 hc2, hyes (Decidable.not_not.mp h1)⟩⟩)
/-- nothing to reach -/
theorem c20n {mi : Mi} {F : Mi → Ml → Prop} {z c : Nat} {x y : Int32} (hx : x = nI z) (hz : z < 162) (hc : mi 18 5 = nI c) (hc2 : c ≤ 98) (hne : mi 21 z ≠ -2) (h : F mi ml) : Sg 20 0 [some (.ref 18), some (.int x), some (.int y)] [] mi ml (qv F) :=
  c20m hx hz hc (by omega) (fun _ => h) (fun q => absurd q hne)
theorem CQ.ne {mi : Mi} {cf q : Nat → Nat} {c w : Nat} (hβ : Wf β) (hB : BfB β P cf q c) (hw : w < 2 * (β 0 * β 1)) : ec (β 1) (cf w) = -2 ↔ cf w = 0 := by
  refine ec_m2 (fun h2 => ?_)
  have := hB.cfb hw
  have := nd_lt hβ (v := cf w - 2) (by omega)
  omega
theorem c20 {mi : Mi} {F : Mi → Ml → Prop} {cf q : Nat → Nat} {c w s : Nat} {x y : Int32} (hβ : Wf β) (hx : x = nI (nd (β 1) w)) (hy : y = ec (β 1) s) (hQ : CQ β cf q c mi) (hB : BfB β P cf q c) (hw : w < 2 * (β 0 * β 1)) (hs : cf w = 0 → s ≠ 0 ∧ ((s = 1 ∧ ∃ k, k < β 0 * β 1 ∧ w = 2 * k ∧ bt β k = true) ∨ ∃ j, j < c ∧ s = 2 + q j ∧ RsB β P (q j) w))
    (h : ∀ mi' cf' q' c', gq [21, 22] mi mi' → CQ β cf' q' c' mi' → BfB β P cf' q' c' → Grw cf q c cf' q' c' → cf' w ≠ 0 → F mi' ml) : Sg 20 0 [some (.ref 18), some (.int x), some (.int y)] [] mi ml (qv F) := by
  have h49 := HW49 hβ
  have hnd := nd_lt hβ hw
  have hle := hB.le
  have hne := CQ.ne (mi := mi) hβ hB hw
  obtain ⟨q1, q2, q3, q4⟩ := hQ
  refine c20m hx (by omega) q1 (by omega) (fun h1 => ?_) (fun h1 => ?_)
  · rw [q2 w hw] at h1
    exact h mi cf q c gq.rf ⟨q1, q2, q3, q4⟩ hB Grw.rf (fun e => h1 (hne.mpr e))
  · rw [q2 w hw] at h1
    have h0 := hne.mp h1
    obtain ⟨hs0, hs⟩ := hs h0
    refine h _ (va_up cf w s) (va_up q c w) (c + 1) ⟨fun x hx hx18 => ?_, fun k hk => ?_⟩ ⟨?_, fun z hz => ?_, fun p hp hip => ?_, fun i hi => ?_⟩ (hB.st hw h0 hs0 hs) ⟨by omega, fun i hi => gm_upN (by omega), fun x hx => ?_⟩ ?_
    · simp only [List.mem_cons, not_or, List.not_mem_nil, not_false_eq_true, and_true] at hx
      rw [gm_upN hx18, gm_upN hx.2, gm_upN hx.1]
    · rw [gm_upS]; exact gm_upN hk
    · rw [gm_upS, gm_upS]
    · show va_up (mi 21) (nd (β 1) w) y (nd (β 1) z) = _
      by_cases hzw : z = w
      · subst hzw; rw [gm_upS, gm_upS, hy]
      · rw [gm_upN (fun e => hzw (nd_inj hβ hz hw e)), gm_upN hzw]; exact q2 z hz
    · show va_up (mi 21) (nd (β 1) w) y (2 * p) ≠ _
      by_cases he : 2 * p = nd (β 1) w
      · unfold nd at he
        have : p = pl (β 1) (w / 2) := by omega
        rw [this, (pl_ok hβ (show w / 2 < β 0 * β 1 by omega)).2.2.1] at hip
        cases hip
      · rw [gm_upN he]; exact q3 p hp hip
    · show va_up (mi 22) c x i = _
      by_cases hic : i = c
      · subst hic; rw [gm_upS, gm_upS, hx]
      · rw [gm_upN hic, gm_upN hic]; exact q4 i (by omega)
    · by_cases hxw : x = w
      · subst hxw; rw [gm_upS]; exact hs0
      · rw [gm_upN hxw]; exact hx
    · rw [gm_upS]; exact hs0
theorem CPl.gq {S : List Nat} {mi mi' : Mi} (h : CPl β P mi) (hf : gq S mi mi') (h20 : 20 ∉ S) : CPl β P mi' := fun k hk => by rw [hf.1 20 h20 (by decide)]; exact h k hk
theorem CK.gq {S : List Nat} {mi mi' : Mi} (h : CK β mi) (hf : gq S mi mi') (h19 : 19 ∉ S) : CK β mi' := fun p hp => by rw [hf.1 19 h19 (by decide)]; exact h p hp
theorem nd_half (W v : Nat) : nd W v / 2 = pl W (v / 2) := by unfold nd; omega
theorem n3_ne (s : Nat) (h : s < 2 ^ 31) : nI s ≠ -3 := by
  intro e
  have := nI_toInt h
  rw [e, show (-3 : Int32).toInt = -3 from by decide] at this
  omega
theorem eP_v (W b : Nat) : eP W (2 + b) = nI (pl W b) := by
  unfold eP
  rw [if_neg (by omega), if_neg (by omega)]
  congr 2; omega
/-- goOnFromEntry -/
theorem c18 {mi : Mi} {F : Mi → Ml → Prop} {cf q : Nat → Nat} {c i k : Nat} {x : Int32} (hβ : Wf β) (hF : FlB β P) (hP : CPl β P mi) (hx : x = nI (nd (β 1) (q i))) (hi : i < c) (hk : q i = 2 * k) (hQ : CQ β cf q c mi) (hB : BfB β P cf q c)
    (h : ∀ mi' cf' q' c', gq [21, 22] mi mi' → CQ β cf' q' c' mi' → BfB β P cf' q' c' → Grw cf q c cf' q' c' → (∀ w, RsB β P (q i) w → cf' w ≠ 0) → F mi' ml) : Sg 18 0 [some (.ref 18), some (.int x), none] [] mi ml (qv F) := by
  subst hx
  have h49 := HW49 hβ
  have hv := (hB.2.1 i hi).1
  have hkK : k < β 0 * β 1 := by omega
  have hpl := pl_ok hβ hkK
  have hnd := nd_lt hβ hv
  refine rg18_0 ?_
  rw [nI_half (by omega), nd_half, hk, show 2 * k / 2 = k by omega, nI_clamp (by omega), hP k hkK]
  refine ⟨pk_in (pl (β 1) k) 81 (by omega), fun h1 => ⟨fun h2 => ?_, fun h2 => ?_⟩, fun h1 => ?_⟩
  · -- it begins there
    have hp1 : P k = 1 := by
      unfold eP at h1 h2
      by_cases p0 : P k = 0
      · rw [if_pos p0] at h1; exact absurd rfl h1
      · rw [if_neg p0] at h2
        by_cases p1 : P k = 1
        · exact p1
        · rw [if_neg p1] at h2
          have := (hF.2.1 k (P k - 2) hkK (by omega)).1
          have := (pl_ok hβ this).2.1
          exact absurd h2 (n1_ne _ (by omega))
    refine h mi cf q c gq.rf hQ hB Grw.rf (fun w hr => ?_)
    rw [hk] at hr
    rcases hr.en with ⟨_, r2⟩ | ⟨b, _, _, r3⟩ <;> omega
  · have hp2 : 2 ≤ P k := by
      unfold eP at h1 h2
      by_cases p0 : P k = 0
      · rw [if_pos p0] at h1; exact absurd rfl h1
      · by_cases p1 : P k = 1
        · rw [if_neg p0, if_pos p1] at h2; exact absurd rfl h2
        · omega
    obtain ⟨b, hb⟩ : ∃ b, P k = 2 + b := ⟨P k - 2, by omega⟩
    have hbK := (hF.2.1 k b hkK hb).1
    have hplb := pl_ok hβ hbK
    rw [hb, eP_v]
    refine c20 (P := P) (w := 2 * b + 1) (s := 2 + q i) hβ ?_ (by rw [ec_v, hk]) hQ hB (by omega) (fun _ => ⟨by omega, Or.inr ⟨i, hi, rfl, ?_⟩⟩) (fun m2 cf2 q2 c2 a1 a2 a3 a4 a5 => h m2 cf2 q2 c2 a1 a2 a3 a4 (fun w hr => ?_))
    · rw [nd_x]
      show nI 2 * nI _ + 1 = _
      rw [pk_mul, nI_1]
    · rw [hk]; exact Or.inr (Or.inl ⟨k, b, hkK, hbK, rfl, rfl, hb⟩)
    · rw [hk] at hr
      rcases hr.en with ⟨_, r2⟩ | ⟨b', _, r2, r3⟩
      · omega
      · have : b' = b := by omega
        subst this; rw [r2]; exact a5
  · have hp0 : P k = 0 := by
      have h1 := Decidable.not_not.mp h1
      unfold eP at h1
      by_cases p0 : P k = 0
      · exact p0
      · rw [if_neg p0] at h1
        by_cases p1 : P k = 1
        · rw [if_pos p1] at h1; exact absurd h1 (by decide)
        · rw [if_neg p1] at h1
          have := (hF.2.1 k (P k - 2) hkK (by omega)).1
          have := (pl_ok hβ this).2.1
          exact absurd h1 (n3_ne _ (by omega))
    refine c20 (P := P) (w := 2 * k + 1) (s := 2 + q i) hβ ?_ (by rw [ec_v, hk]) hQ hB (by omega) (fun _ => ⟨by omega, Or.inr ⟨i, hi, rfl, ?_⟩⟩) (fun m2 cf2 q2 c2 a1 a2 a3 a4 a5 => h m2 cf2 q2 c2 a1 a2 a3 a4 (fun w hr => ?_))
    · rw [nd_x, nd_e, nI_1]
    · rw [hk]; exact Or.inl ⟨k, hkK, rfl, rfl, hp0⟩
    · rw [hk] at hr
      rcases hr.en with ⟨r1, _⟩ | ⟨b', _, _, r3⟩
      · rw [r1]; exact a5
      · omega
/-- one side of goOnFromExit -/
theorem c20s {mi : Mi} {F : Mi → Ml → Prop} {cf q : Nat → Nat} {c i k d z : Nat} {x y : Int32} (hβ : Wf β) (hi : i < c) (hk : q i = 2 * k + 1) (hd : d < 4) (hz : (d = 0 ∧ z = pl (β 1) k - 1) ∨ (d = 1 ∧ z = pl (β 1) k - 9) ∨ (d = 2 ∧ z = pl (β 1) k + 1) ∨ (d = 3 ∧ z = pl (β 1) k + 9)) (hx : x = nI (2 * z)) (hy : y = nI (nd (β 1) (q i))) (hQ : CQ β cf q c mi) (hB : BfB β P cf q c) (hsrc : ∀ k, k < β 0 * β 1 → bt β k = true → cf (2 * k) ≠ 0)
    (h : ∀ mi' cf' q' c', gq [21, 22] mi mi' → CQ β cf' q' c' mi' → BfB β P cf' q' c' → Grw cf q c cf' q' c' → (∀ b, nbd β k d = b → b < β 0 * β 1 → cf' (2 * b) ≠ 0) → F mi' ml) : Sg 20 0 [some (.ref 18), some (.int x), some (.int y)] [] mi ml (qv F) := by
  have h49 := HW49 hβ
  have hv := (hB.2.1 i hi).1
  have hkK : k < β 0 * β 1 := by omega
  have hpl := pl_ok hβ hkK
  have hle := hB.le
  rcases pl_nb hβ hkK d z hz with ⟨g1, g2⟩ | ⟨g1, g2⟩
  · refine c20n hx (by omega) hQ.1 (by omega) (hQ.2.2.1 z (by omega) g2) (h mi cf q c gq.rf hQ hB Grw.rf (fun b hb hbK => by omega))
  · obtain ⟨o1, o2, o3⟩ := nbd_ok hβ hkK hd g1
    refine c20 (P := P) (w := 2 * nbd β k d) (s := 2 + q i) hβ (by rw [nd_e, g2]; exact hx) (by rw [ec_v]; exact hy) hQ hB (by omega) (fun hc0 => ⟨by omega, Or.inr ⟨i, hi, rfl, ?_⟩⟩) (fun m2 cf2 q2 c2 a1 a2 a3 a4 a5 => h m2 cf2 q2 c2 a1 a2 a3 a4 (fun b hb hbK => by rw [← hb]; exact a5))
    rw [hk]
    refine Or.inr (Or.inr (Or.inr ⟨k, nbd β k d, hkK, o1, rfl, rfl, aj'_iff.mpr ⟨⟨d, hd, rfl⟩, o1, hkK⟩, ?_⟩))
    cases hb : bt β (nbd β k d) with
    | false => rfl
    | true => exact absurd hc0 (hsrc _ o1 hb)
/-- goOnFromExit -/
theorem c19 {mi : Mi} {F : Mi → Ml → Prop} {cf q : Nat → Nat} {c i k : Nat} {x : Int32} (hβ : Wf β) (hF : FlB β P) (hP : CPl β P mi) (hx : x = nI (nd (β 1) (q i))) (hi : i < c) (hk : q i = 2 * k + 1) (hQ : CQ β cf q c mi) (hB : BfB β P cf q c) (hsrc : ∀ k, k < β 0 * β 1 → bt β k = true → cf (2 * k) ≠ 0)
    (h : ∀ mi' cf' q' c', gq [21, 22] mi mi' → CQ β cf' q' c' mi' → BfB β P cf' q' c' → Grw cf q c cf' q' c' → (∀ w, RsB β P (q i) w → cf' w ≠ 0) → F mi' ml) : Sg 19 0 [some (.ref 18), some (.int x), none] [] mi ml (qv F) := by
  subst hx
  have h49 := HW49 hβ
  have hv := (hB.2.1 i hi).1
  have hkK : k < β 0 * β 1 := by omega
  have hpl := pl_ok hβ hkK
  have hnd := nd_lt hβ hv
  obtain ⟨p, hp⟩ : ∃ p, p = pl (β 1) k := ⟨_, rfl⟩
  -- the four sides
  have sides : ∀ m1 cf1 q1 c1, gq [21, 22] mi m1 → CQ β cf1 q1 c1 m1 → BfB β P cf1 q1 c1 → Grw cf q c cf1 q1 c1 → (P k ≠ 0 → cf1 (2 * k) ≠ 0) → Sg 19 23 [some (.ref 18), some (.int (nI (nd (β 1) (q i)))), some (.int (nI p))] [] m1 ml (qv F) := by
    intro m1 cf1 q1 c1 a1 a2 a3 a4 a5
    have sr : ∀ {cf' q' : Nat → Nat} {c' : Nat}, Grw cf q c cf' q' c' → ∀ k, k < β 0 * β 1 → bt β k = true → cf' (2 * k) ≠ 0 := fun g k hk hb => g.2.2 _ (hsrc k hk hb)
    have e1 : 2 * (nI p - 1) = nI (2 * (p - 1)) := by
      rw [show nI p - 1 = nI (p - 1) from pk_sub (b := 1) (by omega)]; exact pk_mul 2 _
    have e2 : 2 * (nI p + 1) = nI (2 * (p + 1)) := by rw [nI_1]; exact pk_mul 2 _
    have e3 : 2 * (nI p - 9) = nI (2 * (p - 9)) := by
      rw [show nI p - 9 = nI (p - 9) from pk_sub (b := 9) (by omega)]; exact pk_mul 2 _
    have e4 : 2 * (nI p + 9) = nI (2 * (p + 9)) := by
      rw [show nI p + 9 = nI (p + 9) from nI_add p 9]; exact pk_mul 2 _
    refine rg19_23 ?_
    rw [e1, e2, e3, e4]
    refine c20s (P := P) (i := i) (k := k) (d := 0) hβ (by have := a4.1; omega) (by rw [a4.2.1 i hi]; exact hk) (by decide) (Or.inl ⟨rfl, by rw [hp]⟩) rfl (by rw [a4.2.1 i hi]) a2 a3 (sr a4) (fun m2 cf2 q2 c2 b1 b2 b3 b4 b5 => ?_)
    have g2 := a4.tr b4
    refine c20s (P := P) (i := i) (k := k) (d := 2) hβ (by have := g2.1; omega) (by rw [g2.2.1 i hi]; exact hk) (by decide) (Or.inr (Or.inr (Or.inl ⟨rfl, by rw [hp]⟩))) rfl (by rw [g2.2.1 i hi]) b2 b3 (sr g2) (fun m3 cf3 q3 c3 d1 d2 d3 d4 d5 => ?_)
    have g3 := g2.tr d4
    refine c20s (P := P) (i := i) (k := k) (d := 1) hβ (by have := g3.1; omega) (by rw [g3.2.1 i hi]; exact hk) (by decide) (Or.inr (Or.inl ⟨rfl, by rw [hp]⟩)) rfl (by rw [g3.2.1 i hi]) d2 d3 (sr g3) (fun m4 cf4 q4 c4 f1 f2 f3 f4 f5 => ?_)
    have g4 := g3.tr f4
    refine c20s (P := P) (i := i) (k := k) (d := 3) hβ (by have := g4.1; omega) (by rw [g4.2.1 i hi]; exact hk) (by decide) (Or.inr (Or.inr (Or.inr ⟨rfl, by rw [hp]⟩))) rfl (by rw [g4.2.1 i hi]) f2 f3 (sr g4) (fun m5 cf5 q5 c5 h1 h2 h3 h4 h5 => ?_)
    refine h m5 cf5 q5 c5 (((a1.tr b1).tr d1).tr (f1.tr h1)) h2 h3 (g4.tr h4) (fun w hr => ?_)
    rw [hk] at hr
    rcases hr.xn with ⟨r1, r2⟩ | ⟨b, r1, r2, r3⟩
    · rw [r1]
      exact h4.2.2 _ (f4.2.2 _ (d4.2.2 _ (b4.2.2 _ (a5 r2))))
    · obtain ⟨⟨d, hd, e⟩, hb, -⟩ := aj'_iff.mp r3
      rw [r2]
      have hd4 : d = 0 ∨ d = 1 ∨ d = 2 ∨ d = 3 := by omega
      rcases hd4 with rfl | rfl | rfl | rfl
      · exact h4.2.2 _ (f4.2.2 _ (d4.2.2 _ (b5 b e hb)))
      · exact h4.2.2 _ (f5 b e hb)
      · exact h4.2.2 _ (f4.2.2 _ (d5 b e hb))
      · exact h5 b e hb
  refine rg19_0 ?_
  rw [nI_half (by omega), nd_half, hk, show (2 * k + 1) / 2 = k by omega, nI_clamp (by omega), hP k hkK, ← hp, ← hk]
  refine ⟨pk_in p 81 (by omega), fun h1 => ?_, fun h1 => ?_⟩
  · have hp0 : P k = 0 := by
      unfold eP at h1
      by_cases p0 : P k = 0
      · exact p0
      · rw [if_neg p0] at h1
        by_cases p1 : P k = 1
        · rw [if_pos p1] at h1; exact absurd h1 (by decide)
        · rw [if_neg p1] at h1
          have := (hF.2.1 k (P k - 2) hkK (by omega)).1
          have := (pl_ok hβ this).2.1
          exact absurd h1 (n3_ne _ (by omega))
    exact sides mi cf q c gq.rf hQ hB Grw.rf (fun q => absurd hp0 q)
  · have hp0 : P k ≠ 0 := fun p0 => h1 (by unfold eP; rw [if_pos p0])
    refine c20 (P := P) (w := 2 * k) (s := 2 + q i) hβ ?_ (by rw [ec_v]) hQ hB (by omega) (fun hc0 => ⟨by omega, Or.inr ⟨i, hi, rfl, ?_⟩⟩) (fun m2 cf2 q2 c2 a1 a2 a3 a4 a5 => sides m2 cf2 q2 c2 a1 a2 a3 a4 (fun _ => a5))
    · rw [hk, nd_x, nd_e]; exact nI_pred _
    · rw [hk]
      refine Or.inr (Or.inr (Or.inl ⟨k, hkK, rfl, rfl, hp0, ?_⟩))
      cases hb : bt β k with
      | false => rfl
      | true => exact absurd hc0 (hsrc _ hkK hb)
end C46
