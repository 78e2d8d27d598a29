/-! the model's chains: finds, turns -/
section C44
variable {ml : Ml} {β : Bd} {P : Nat → Nat}
set_option maxHeartbeats 1000000 in
/-- finds -/
theorem c174 {mi : Mi} {F : Int32 → Mi → Ml → Prop} (hβ : Wf β) (hM : Md β mi) (hF : FlB β P) (hP : MP β P mi)
    (hyes : ∀ mi' cf q c i e, fq [64, 65] mi mi' → MQu β cf q c mi' → BfB β P cf q c → i < c → q i = 2 * e + 1 → e < β 0 * β 1 → ot β e = true → F (nI (2 * e + 1)) mi' ml)
    (hno : ∀ mi' cf q c, fq [64, 65] mi mi' → MQu β cf q c mi' → BfB β P cf q c → CrB β P (fun w => decide (w < 2 * (β 0 * β 1)) && decide (cf w ≠ 0)) → F (-1) mi' ml) :
    Sg 174 0 [some (.ref 47), none, none] [] mi ml (qi F) := by
  have h49 := HW49 hβ
  have h5 : ∀ mi', fq [64, 65] mi mi' → mi' 47 5 * mi' 47 6 = nI (β 0 * β 1) := fun mi' q => by
    rw [q.2 5 (by decide), q.2 6 (by decide), hM.1.1, hM.1.2.1, pk_mul]
  refine rg174_0 ?_
  -- the search
  have srch : ∀ a mi', a ≤ 98 → (∃ cf q c, fq [64, 65] mi mi' ∧ MQu β cf q c mi' ∧ BfB β P cf q c ∧ a ≤ c ∧ (∀ k, k < β 0 * β 1 → bt β k = true → cf (2 * k) ≠ 0) ∧ ∀ i, i < a → (∀ w, RsB β P (q i) w → cf w ≠ 0) ∧ ∀ e, e < β 0 * β 1 → q i = 2 * e + 1 → ot β e = false) → Sg 174 66 [some (.ref 47), some (.int (nI a)), none] [] mi' ml (qi F) := by
    have stop : ∀ a mi' cf q c, fq [64, 65] mi mi' → MQu β cf q c mi' → BfB β P cf q c → a ≤ c → (∀ k, k < β 0 * β 1 → bt β k = true → cf (2 * k) ≠ 0) → (∀ i, i < a → (∀ w, RsB β P (q i) w → cf w ≠ 0) ∧ ∀ e, e < β 0 * β 1 → q i = 2 * e + 1 → ot β e = false) → c ≤ a → F (-1) mi' ml := by
      intro a mi' cf q c g1 g2 g3 g4 g5 g6 hca
      exact hno mi' cf q c g1 g2 g3 (g3.crt hF g5 (fun i w hi hr => (g6 i (by omega)).1 w hr) (fun i e hi he hq => (g6 i (by omega)).2 e he hq))
    refine upI 98 (fun a mi' => ∃ cf q c, fq [64, 65] mi mi' ∧ MQu β cf q c mi' ∧ BfB β P cf q c ∧ a ≤ c ∧ (∀ k, k < β 0 * β 1 → bt β k = true → cf (2 * k) ≠ 0) ∧ ∀ i, i < a → (∀ w, RsB β P (q i) w → cf w ≠ 0) ∧ ∀ e, e < β 0 * β 1 → q i = 2 * e + 1 → ot β e = false) (fun a mi' => Sg 174 66 [some (.ref 47), some (.int (nI a)), none] [] mi' ml (qi F)) ?_ ?_
    · rintro mi' ⟨cf, q, c, g1, g2, g3, g4, g5, g6⟩
      have hle := g3.le
      exact rg174_66 (pk_le c 98 (fun h1 => stop 98 mi' cf q c g1 g2 g3 g4 g5 g6 h1) (fun h1 => by omega) g2.1 rfl)
    · rintro a mi' ha ⟨cf, q, c, g1, g2, g3, g4, g5, g6⟩ ih
      have hle := g3.le
      refine rg174_66 (pk_le c a (fun h1 => stop a mi' cf q c g1 g2 g3 g4 g5 g6 h1) (fun h1 => ?_) g2.1 rfl)
      have hq := (g3.2.1 a h1).1
      rw [nI_clamp (by omega), g2.2.2 a h1, nI_odd (by omega), nI_half (by omega)]
      refine ⟨pk_in a 98 (by omega), ?_⟩
      have on : (∀ e, e < β 0 * β 1 → q a = 2 * e + 1 → ot β e = false) → ∀ (x : Int32), x = nI (q a) → Sg 174 100 [some (.ref 47), some (.int (nI a)), some (.int x)] [] mi' ml (qi F) := by
        intro hout x hx
        refine rg174_100 (c173 hβ (g1.Md hM (by decide)) hF (hP.fq g1 (by decide) (by decide)) hx h1 g2 g3 g5 (fun m2 cf2 q2 c2 a1 a2 a3 a4 a5 => ?_))
        rw [nI_1]
        refine ih m2 ⟨cf2, q2, c2, g1.tr a1, a2, a3, by have := a4.1; omega, fun k hk hb => a4.2.2 _ (g5 k hk hb), fun i hi => ?_⟩
        rw [a4.2.1 i (by omega)]
        rcases Nat.lt_succ_iff_lt_or_eq.mp hi with r | r
        · exact ⟨fun w hr => a4.2.2 _ ((g6 i r).1 w hr), (g6 i r).2⟩
        · subst r; exact ⟨a5, hout⟩
      refine pk_ne (q a % 2) 1 (fun h2 => on (fun e he hqe => by omega) _ rfl) (fun h2 => ?_)
      refine c169 rfl (g1.Md hM (by decide)) hβ (by omega) ?_
      refine bq (fun ho => on (fun e he hqe => ?_) _ rfl) (fun ho => ?_)
      · rw [hqe, show (2 * e + 1) / 2 = e by omega] at ho; exact ho
      · have := hyes mi' cf q c a (q a / 2) g1 g2 g3 h1 (by omega) (by omega) ho
        rw [show 2 * (q a / 2) + 1 = q a by omega] at this
        exact this
  -- those that begin
  have beg : ∀ k mi', k ≤ β 0 * β 1 → (∃ cf q c, fq [64, 65] mi mi' ∧ MQu β cf q c mi' ∧ BfB β P cf q c ∧ ∀ i, i < k → bt β i = true → cf (2 * i) ≠ 0) → Sg 174 29 [some (.ref 47), some (.int (nI k)), none] [] mi' ml (qi F) := by
    refine upI (β 0 * β 1) (fun k mi' => ∃ cf q c, fq [64, 65] mi mi' ∧ MQu β cf q c mi' ∧ BfB β P cf q c ∧ ∀ i, i < k → bt β i = true → cf (2 * i) ≠ 0) (fun k mi' => Sg 174 29 [some (.ref 47), some (.int (nI k)), none] [] mi' ml (qi F)) ?_ ?_
    · rintro mi' ⟨cf, q, c, g1, g2, g3, g4⟩
      exact rg174_29 (pk_le _ _ (fun _ => srch 0 mi' (by omega) ⟨cf, q, c, g1, g2, g3, by omega, g4, fun i hi => by omega⟩) (fun h1 => by omega) (h5 mi' g1) rfl)
    · rintro k mi' hk ⟨cf, q, c, g1, g2, g3, g4⟩ ih
      refine rg174_29 (pk_le _ k (fun h1 => by omega) (fun _ => c170 rfl (g1.Md hM (by decide)) hβ hk ?_) (h5 mi' g1) rfl)
      rw [nI_1]
      refine bq (fun hb => ih mi' ⟨cf, q, c, g1, g2, g3, fun i hi hbi => ?_⟩) (fun hb => ?_)
      · rcases Nat.lt_succ_iff_lt_or_eq.mp hi with r | r
        · exact g4 i r hbi
        · subst r; rw [hb] at hbi; cases hbi
      · refine c172 (P := P) (w := 2 * k) (s := 1) hβ (pk_mul 2 k) en_1.symm g2 g3 (by omega) (fun _ => ⟨by omega, Or.inl ⟨rfl, k, hk, rfl, hb⟩⟩) (fun m2 cf2 q2 c2 a1 a2 a3 a4 a5 => ?_)
        refine ih m2 ⟨cf2, q2, c2, g1.tr a1, a2, a3, fun i hi hbi => ?_⟩
        rcases Nat.lt_succ_iff_lt_or_eq.mp hi with r | r
        · exact a4.2.2 _ (g4 i r hbi)
        · subst r; exact a5
  have ini : ∀ w mi', w ≤ 98 → (fq [64, 65] mi mi' ∧ mi' 47 27 = nI 0 ∧ ∀ v, v < w → mi' 64 v = -2) → Sg 174 7 [some (.ref 47), some (.int (nI w)), none] [] mi' ml (qi F) := by
    refine upI 98 (fun w mi' => fq [64, 65] mi mi' ∧ mi' 47 27 = nI 0 ∧ ∀ v, v < w → mi' 64 v = -2) (fun w mi' => Sg 174 7 [some (.ref 47), some (.int (nI w)), none] [] mi' ml (qi F)) ?_ ?_
    · rintro mi' ⟨g1, g2, g3⟩
      exact rg174_7 (pk_le 98 98 (fun _ => beg 0 mi' (Nat.zero_le _) ⟨fun _ => 0, fun _ => 0, 0, g1, ⟨g2, fun w hw => g3 w (by omega), fun i hi => by omega⟩, Bfs.ini, fun i hi => by omega⟩) (fun h1 => by omega))
    · rintro w mi' hw ⟨g1, g2, g3⟩ ih
      refine rg174_7 (pk_le 98 w (fun h1 => by omega) (fun _ => ⟨pk_in w 98 hw, ?_⟩))
      rw [nI_clamp (by omega), nI_1]
      refine ih _ ⟨g1.tr (fq.fr (S := [64, 65]) (fr.rf.up (by decide)) (by decide)), g2, fun v hv => ?_⟩
      show va_up (mi' 64) w (-2) v = _
      by_cases hvw : v = w
      · subst hvw; exact gm_upS
      · rw [gm_upN hvw]; exact g3 v (by omega)
  refine ini 0 _ (by omega) ⟨⟨fun c hc h47 => gm_upN h47, fun k hk => by rw [gm_upS]; exact gm_upN hk⟩, by rw [gm_upS, gm_upS]; rfl, fun v hv => by omega⟩
theorem nb_eq {s : Nat} (b : Nat) (hs : s < 2 ^ 31) (hb : b < 49) : ((if s = 49 then (-1 : Int32) else nI s) = nI b) ↔ s = b := by
  by_cases h : s = 49
  · rw [if_pos h]
    constructor
    · intro e; exact absurd e.symm (n1_ne b (by omega))
    · intro e; omega
  · rw [if_neg h, nI_eq hs (by omega)]
theorem nbd_le {β : Bd} (hβ : Wf β) {k d : Nat} (hk : k < β 0 * β 1) (hd : d < 4) : nbd β k d ≤ 49 := by
  by_cases h : nbd β k d = 49
  · omega
  · have := (nbd_ok hβ hk hd h).1
    have := HW49 hβ
    omega
/-- turns: in one cell -/
theorem c175t {mi : Mi} {F : Mi → Ml → Prop} {x y : Int32} {a : Nat} (ha : a < 49) (hx : x = nI (2 * a)) (hy : y = nI (2 * a + 1)) (h : F (va_up mi 62 (va_up (mi 62) a 1)) ml) : Sg 175 0 [some (.ref 47), some (.int x), some (.int y), none, none, none] [] mi ml (qv F) := by
  subst hx hy
  refine rg175_0 ?_
  rw [nI_odd (by omega), nI_half (by omega), nI_half (by omega), show 2 * a / 2 = a by omega, show (2 * a + 1) / 2 = a by omega, show 2 * a % 2 = 0 by omega, nI_clamp (by omega)]
  exact ⟨fun q => absurd rfl q, fun _ => ⟨fun q => absurd rfl q, fun _ => ⟨pk_in a 49 ha, h⟩⟩⟩
theorem c175f {mi : Mi} {F : Mi → Ml → Prop} {x y : Int32} {a : Nat} (ha : a < 49) (hx : x = nI (2 * a + 1)) (hy : y = nI (2 * a)) (h : F (va_up mi 62 (va_up (mi 62) a 0)) ml) : Sg 175 0 [some (.ref 47), some (.int x), some (.int y), none, none, none] [] mi ml (qv F) := by
  subst hx hy
  refine rg175_0 ?_
  rw [nI_odd (by omega), nI_half (by omega), nI_half (by omega), show 2 * a / 2 = a by omega, show (2 * a + 1) / 2 = a by omega, show (2 * a + 1) % 2 = 1 by omega, nI_clamp (by omega)]
  exact ⟨fun q => absurd rfl q, fun _ => ⟨fun _ => ⟨pk_in a 49 ha, h⟩, fun q => absurd (by decide) q⟩⟩
set_option maxHeartbeats 1000000 in
/-- turns: from one to another; v: begun -/
theorem c175d {mi : Mi} {F : Mi → Ml → Prop} {x y : Int32} {a b : Nat} {v : Bool} (hβ : Wf β) (hM : Md β mi) (ha : a < β 0 * β 1) (hb : b < β 0 * β 1) (hab : a ≠ b) (hx : x = nI (if v then 2 * a + 1 else 2 * b)) (hy : y = nI (if v then 2 * b else 2 * a + 1))
    (h : ∀ mi', fr [63] mi mi' → (∀ d, d < 4 → nbd β a d = b → mi' 63 (4 * a + d) = bI v) → (∀ c d, d < 4 → ¬ (c = a ∧ nbd β a d = b) → mi' 63 (4 * c + d) = mi 63 (4 * c + d)) → F mi' ml) : Sg 175 0 [some (.ref 47), some (.int x), some (.int y), none, none, none] [] mi ml (qv F) := by
  have h49 := HW49 hβ
  have step : ∀ d (mi' : Mi), d < 4 → fr [63] mi mi' → (∀ e, e < d → nbd β a e = b → mi' 63 (4 * a + e) = bI v) → (∀ c e, e < 4 → ¬ (c = a ∧ nbd β a e = b ∧ e < d) → mi' 63 (4 * c + e) = mi 63 (4 * c + e)) → nbd β a d = b →
      fr [63] mi (va_up mi' 63 (va_up (mi' 63) (4 * a + d) (bI v))) ∧ (∀ e, e < d + 1 → nbd β a e = b → va_up mi' 63 (va_up (mi' 63) (4 * a + d) (bI v)) 63 (4 * a + e) = bI v) ∧ (∀ c e, e < 4 → ¬ (c = a ∧ nbd β a e = b ∧ e < d + 1) → va_up mi' 63 (va_up (mi' 63) (4 * a + d) (bI v)) 63 (4 * c + e) = mi 63 (4 * c + e)) := by
    intro d mi' hd g1 g2 g3 hn
    refine ⟨g1.up (by decide), fun e he hne => ?_, fun c e he hne => ?_⟩
    · show va_up (mi' 63) (4 * a + d) _ (4 * a + e) = _
      by_cases hed : e = d
      · subst hed; exact gm_upS
      · rw [gm_upN (by omega)]; exact g2 e (by omega) hne
    · show va_up (mi' 63) (4 * a + d) _ (4 * c + e) = _
      by_cases hced : 4 * c + e = 4 * a + d
      · have : c = a := by omega
        have : e = d := by omega
        exact absurd ⟨by omega, by rw [this]; exact hn, by omega⟩ hne
      · rw [gm_upN hced]; exact g3 c e he (fun q => hne ⟨q.1, q.2.1, by omega⟩)
  have keep : ∀ d (mi' : Mi), (∀ e, e < d → nbd β a e = b → mi' 63 (4 * a + e) = bI v) → (∀ c e, e < 4 → ¬ (c = a ∧ nbd β a e = b ∧ e < d) → mi' 63 (4 * c + e) = mi 63 (4 * c + e)) → nbd β a d ≠ b →
      (∀ e, e < d + 1 → nbd β a e = b → mi' 63 (4 * a + e) = bI v) ∧ (∀ c e, e < 4 → ¬ (c = a ∧ nbd β a e = b ∧ e < d + 1) → mi' 63 (4 * c + e) = mi 63 (4 * c + e)) := by
    intro d mi' g2 g3 hn
    refine ⟨fun e he hne => ?_, fun c e he hne => ?_⟩
    · rcases Nat.lt_succ_iff_lt_or_eq.mp he with r | r
      · exact g2 e r hne
      · subst r; exact absurd hne hn
    · exact g3 c e he (fun q => hne ⟨q.1, q.2.1, by omega⟩)
  have fin : ∀ mi', fr [63] mi mi' → (∀ e, e < 4 → nbd β a e = b → mi' 63 (4 * a + e) = bI v) → (∀ c e, e < 4 → ¬ (c = a ∧ nbd β a e = b ∧ e < 4) → mi' 63 (4 * c + e) = mi 63 (4 * c + e)) → F mi' ml :=
    fun mi' g1 g2 g3 => h mi' g1 g2 (fun c d hd hne => g3 c d hd (fun q => hne ⟨q.1, q.2.1⟩))
  have hle : ∀ d, d < 4 → nbd β a d ≤ 49 := fun d hd => nbd_le hβ ha hd
  cases v with
  | true =>
    have hx' : x = nI (2 * a + 1) := hx
    have hy' : y = nI (2 * b) := hy
    subst hx' hy'
    refine rg175_0 ?_
    rw [nI_half (by omega), nI_half (by omega), show (2 * a + 1) / 2 = a by omega, show 2 * b / 2 = b by omega]
    refine ⟨fun _ => ?_, fun q => absurd (fun e => hab ((nI_eq (by omega) (by omega)).mp e)) q⟩
    have key : ∀ d mi', d ≤ 4 → (fr [63] mi mi' ∧ (∀ e, e < d → nbd β a e = b → mi' 63 (4 * a + e) = bI true) ∧ ∀ c e, e < 4 → ¬ (c = a ∧ nbd β a e = b ∧ e < d) → mi' 63 (4 * c + e) = mi 63 (4 * c + e)) → Sg 175 36 [some (.ref 47), some (.int (nI (2 * a + 1))), some (.int (nI (2 * b))), some (.int (nI a)), some (.int (nI b)), some (.int (nI d))] [] mi' ml (qv F) := by
      refine upI 4 (fun d mi' => fr [63] mi mi' ∧ (∀ e, e < d → nbd β a e = b → mi' 63 (4 * a + e) = bI true) ∧ ∀ c e, e < 4 → ¬ (c = a ∧ nbd β a e = b ∧ e < d) → mi' 63 (4 * c + e) = mi 63 (4 * c + e)) (fun d mi' => Sg 175 36 [some (.ref 47), some (.int (nI (2 * a + 1))), some (.int (nI (2 * b))), some (.int (nI a)), some (.int (nI b)), some (.int (nI d))] [] mi' ml (qv F)) ?_ ?_
      · rintro mi' ⟨g1, g2, g3⟩
        exact rg175_36 (pk_le 4 4 (fun _ => fin mi' g1 g2 g3) (fun h1 => by omega))
      · rintro d mi' hd ⟨g1, g2, g3⟩ ih
        refine rg175_36 (pk_le 4 d (fun h1 => by omega) (fun _ => ?_))
        rw [nI_odd (by omega), show (2 * a + 1) % 2 = 1 by omega]
        refine ⟨fun q => absurd rfl q, fun _ => c171 (β := β) rfl rfl ((fq.fr g1 (by decide)).Md hM (by decide)) hβ ha hd ?_⟩
        rw [nb_eq b (by have := hle d hd; omega) (by omega), nI_1]
        have e1 : 4 * nI a + nI d = nI (4 * a + d) := by show nI 4 * nI a + nI d = _; rw [pk_mul, nI_add]
        refine ⟨fun hn => ?_, fun hn => ?_⟩
        · refine rg175_76 ?_
          rw [nI_odd (by omega), show (2 * a + 1) % 2 = 1 by omega, nI_1]
          exact ⟨fun _ => ih mi' ⟨g1, keep d mi' g2 g3 hn⟩, fun q => absurd (by decide) q⟩
        · rw [e1, nI_clamp (by omega)]
          exact ⟨pk_in (4 * a + d) 196 (by omega), ih _ (step d mi' hd g1 g2 g3 (Decidable.not_not.mp hn))⟩
    exact key 0 mi (by omega) ⟨fr.rf, fun e he => by omega, fun c e he _ => rfl⟩
  | false =>
    have hx' : x = nI (2 * b) := hx
    have hy' : y = nI (2 * a + 1) := hy
    subst hx' hy'
    refine rg175_0 ?_
    rw [nI_half (by omega), nI_half (by omega), show (2 * a + 1) / 2 = a by omega, show 2 * b / 2 = b by omega]
    refine ⟨fun _ => ?_, fun q => absurd (fun e => hab ((nI_eq (by omega) (by omega)).mp e).symm) q⟩
    have key : ∀ d mi', d ≤ 4 → (fr [63] mi mi' ∧ (∀ e, e < d → nbd β a e = b → mi' 63 (4 * a + e) = bI false) ∧ ∀ c e, e < 4 → ¬ (c = a ∧ nbd β a e = b ∧ e < d) → mi' 63 (4 * c + e) = mi 63 (4 * c + e)) → Sg 175 36 [some (.ref 47), some (.int (nI (2 * b))), some (.int (nI (2 * a + 1))), some (.int (nI b)), some (.int (nI a)), some (.int (nI d))] [] mi' ml (qv F) := by
      refine upI 4 (fun d mi' => fr [63] mi mi' ∧ (∀ e, e < d → nbd β a e = b → mi' 63 (4 * a + e) = bI false) ∧ ∀ c e, e < 4 → ¬ (c = a ∧ nbd β a e = b ∧ e < d) → mi' 63 (4 * c + e) = mi 63 (4 * c + e)) (fun d mi' => Sg 175 36 [some (.ref 47), some (.int (nI (2 * b))), some (.int (nI (2 * a + 1))), some (.int (nI b)), some (.int (nI a)), some (.int (nI d))] [] mi' ml (qv F)) ?_ ?_
      · rintro mi' ⟨g1, g2, g3⟩
        exact rg175_36 (pk_le 4 4 (fun _ => fin mi' g1 g2 g3) (fun h1 => by omega))
      · rintro d mi' hd ⟨g1, g2, g3⟩ ih
        refine rg175_36 (pk_le 4 d (fun h1 => by omega) (fun _ => ?_))
        rw [nI_odd (by omega), show 2 * b % 2 = 0 by omega]
        refine ⟨fun _ => rg175_76 ?_, fun q => absurd (by decide) q⟩
        rw [nI_odd (by omega), show 2 * b % 2 = 0 by omega]
        refine ⟨fun q => absurd rfl q, fun _ => c171 (β := β) rfl rfl ((fq.fr g1 (by decide)).Md hM (by decide)) hβ ha hd ?_⟩
        rw [nb_eq b (by have := hle d hd; omega) (by omega), nI_1]
        have e1 : 4 * nI a + nI d = nI (4 * a + d) := by show nI 4 * nI a + nI d = _; rw [pk_mul, nI_add]
        refine ⟨fun hn => ih mi' ⟨g1, keep d mi' g2 g3 hn⟩, fun hn => ?_⟩
        rw [e1, nI_clamp (by omega)]
        exact ⟨pk_in (4 * a + d) 196 (by omega), ih _ (step d mi' hd g1 g2 g3 (Decidable.not_not.mp hn))⟩
    exact key 0 mi (by omega) ⟨fr.rf, fun e he => by omega, fun c e he _ => rfl⟩
end C44
