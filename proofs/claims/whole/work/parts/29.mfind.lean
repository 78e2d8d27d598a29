/-! the model: broken, witness, least -/
/-- the first below M; M: none -/
def fsN (p : Nat → Bool) : Nat → Nat
  | 0 => 0
  | n + 1 => if fsN p n < n then fsN p n else if p n then n else n + 1
theorem fsN_le (p : Nat → Bool) : ∀ n, fsN p n ≤ n
  | 0 => Nat.le_refl _
  | n + 1 => by
    have := fsN_le p n
    rw [fsN]; split
    · omega
    · split <;> omega
theorem fsN_no {p : Nat → Bool} : ∀ {n : Nat}, (∀ j, j < n → p j = false) → fsN p n = n
  | 0, _ => rfl
  | n + 1, h => by
    rw [fsN, fsN_no (fun j hj => h j (by omega)), if_neg (Nat.lt_irrefl n), h n (by omega)]
    rfl
theorem fsN_eq {p : Nat → Bool} {k : Nat} : ∀ {n : Nat}, k < n → p k = true → (∀ j, j < k → p j = false) → fsN p n = k
  | 0, h, _, _ => absurd h (Nat.not_lt_zero k)
  | n + 1, h, h1, h2 => by
    rw [fsN]
    by_cases hk : k < n
    · rw [fsN_eq hk h1 h2, if_pos hk]
    · have : k = n := by omega
      subst this
      rw [fsN_no h2, if_neg (Nat.lt_irrefl _), h1]
      rfl
theorem fsN_lt {p : Nat → Bool} : ∀ {n : Nat}, fsN p n < n → p (fsN p n) = true ∧ ∀ j, j < fsN p n → p j = false := by
  intro n h
  by_cases he : ∃ k, k < n ∧ p k = true
  · obtain ⟨k, ⟨hk, hp⟩, hm⟩ := pk_least (fun k => k < n ∧ p k = true) he
    have hm' : ∀ j, j < k → p j = false := fun j hj => by
      cases hq : p j with
      | false => rfl
      | true => exact absurd ⟨by omega, hq⟩ (hm j hj)
    rw [fsN_eq hk hp hm']
    exact ⟨hp, hm'⟩
  · have : fsN p n = n := fsN_no fun j hj => by
      cases hq : p j with
      | false => rfl
      | true => exact absurd ⟨j, hj, hq⟩ he
    omega
theorem fsN_cong {p q : Nat → Bool} : ∀ {n : Nat}, (∀ j, j < n → p j = q j) → fsN p n = fsN q n
  | 0, _ => rfl
  | n + 1, h => by rw [fsN, fsN, fsN_cong (fun j hj => h j (by omega)), h n (by omega)]
/-- what is broken of task j of row y -/
def bkA (β : Bd) (g : Nat → Nat) (y j : Nat) : Nat := if (β (8 + y)).testBit (cn (g y) j) then 1 else 0
def bkB (β : Bd) (g : Nat → Nat) (y j : Nat) : Nat := if nrj (β 3) (g y) j then 0 else 1
def bkC (β : Bd) (g : Nat → Nat) (y j : Nat) : Nat := if y = 0 then 0 else if mtj (β 3) (g y) (g (y - 1)) j then 0 else 1
def bkr (β : Bd) (g : Nat → Nat) (y : Nat) : Nat := sm (fun j => bkA β g y j + bkB β g y j + bkC β g y j) (β 2)
def bk (β : Bd) (g : Nat → Nat) : Nat := sm (bkr β g) (β 0)
/-- the witness -/
def wtd (β : Bd) : Nat := fsN (fun d => !allB (fun y => wh β y (y + d)) (β 0 - d)) (β 0)
def wty (β : Bd) : Nat := fsN (fun y => !wh β y (y + wtd β)) (β 0 - wtd β)
def wt0 (β : Bd) : Int32 := if wtd β = β 0 then -1 else nI (wty β)
def wt1 (β : Bd) : Int32 := if wtd β = β 0 then -1 else nI (wty β + wtd β)
/-- the least length, the greatest wish -/
def lsv (β : Bd) : Nat := fsN (fun v => whole (va_up β 3 v)) 7
def ls0 (β : Bd) : Int32 := if lsv β = 7 then -1 else nI (lsv β)
def lsw (β : Bd) : Nat := fsN (fun v => whole (va_up β 2 (β 1 - v))) (β 1)
def ls1 (β : Bd) : Int32 := if lsw β = β 1 then -1 else nI (β 1 - lsw β)
section C29
variable {mi : Mi} {ml : Ml} {F : Int32 → Mi → Ml → Prop}
theorem c159n (h11 : mi 47 11 = 0) (h : F (-1) mi ml) : Sg 159 0 [some (.ref 47), none, none, none, none] [] mi ml (qi F) :=
  rg159_0 ⟨fun q => absurd h11 q, fun _ => h⟩
set_option maxHeartbeats 1000000 in
/-- brokenNow -/
theorem c159 {β : Bd} {g : Nat → Nat} (hM : Md β mi) (hβ : Wf β) (h3 : β 3 ≤ 7) (h11 : mi 47 11 = 1) (h53 : ∀ y, y < 7 → mi 53 y = nI (g y)) (hg : ∀ y, y < β 0 → g y < 128 ∧ pcn (g y) = β 2) (h : F (nI (bk β g)) mi ml) : Sg 159 0 [some (.ref 47), none, none, none, none] [] mi ml (qi F) := by
  refine rg159_0 ⟨fun _ => ?_, fun q => absurd (by rw [h11]; decide) q⟩
  have hH := hβ.1
  have hn : β 2 ≤ 7 := by have := hβ.2.2.1; have := hβ.2.1; omega
  refine upP (β 0) (fun y => Sg 159 13 [some (.ref 47), some (.int (nI (sm (bkr β g) y))), some (.int (nI y)), none, none] [] mi ml (qi F)) ?_ ?_ 0 (Nat.zero_le _)
  · exact rg159_13 (pk_le _ _ (fun _ => h) (fun h1 => by omega) hM.1.1 rfl)
  · intro y hy ihy
    refine rg159_13 (pk_le _ y (fun h1 => by omega) (fun _ => ?_) hM.1.1 rfl)
    have hy7 : y < 7 := by omega
    obtain ⟨g1, g2⟩ := hg y hy
    have hb := hβ.bd hy7
    obtain ⟨S, hS⟩ : ∃ S, S = sm (bkr β g) y := ⟨_, rfl⟩
    rw [← hS]
    rw [sm_s, ← hS] at ihy
    refine upP (β 2) (fun j => Sg 159 23 [some (.ref 47), some (.int (nI (S + sm (fun j => bkA β g y j + bkB β g y j + bkC β g y j) j))), some (.int (nI y)), some (.int (nI j)), none] [] mi ml (qi F)) ?_ ?_ 0 (Nat.zero_le _)
    · refine rg159_23 (pk_le _ _ (fun _ => ?_) (fun h1 => by omega) hM.1.2.2.1 rfl)
      rw [nI_1]; exact ihy
    · intro j hj ihj
      refine rg159_23 (pk_le _ j (fun h1 => by omega) (fun _ => ⟨pk_in y 7 hy7, ?_⟩) hM.1.2.2.1 rfl)
      rw [sm_s] at ihj
      obtain ⟨T, hT⟩ : ∃ T, T = S + sm (fun j => bkA β g y j + bkB β g y j + bkC β g y j) j := ⟨_, rfl⟩
      rw [← hT]
      rw [← Nat.add_assoc, ← hT] at ihj
      rw [nI_clamp (by omega), h53 y hy7]
      refine c140 rfl rfl (by omega) (by omega) ?_
      have hc := cn_lt (show j < pcn (g y) by omega)
      rw [cj_eq (by omega), hM.2 y hy7]
      refine c116 (nI_l (by omega)) rfl (by omega) (by omega) ?_
      -- the third
      have third : ∀ (x1 : Int32) (a b : Nat), a = bkA β g y j → b = bkB β g y j → Sg 159 100 [some (.ref 47), some (.int x1), some (.int (nI y)), some (.int (nI j)), some (.int (nI (cn (g y) j)))] [.int (nI b), .int (nI (T + a))] mi ml (qi F) := by
        intro x1 a b ha hb'
        refine rg159_100 (pk_le y 0 (fun h1 => ?_) (fun h1 => ⟨?_, ?_⟩))
        · have e : bkC β g y j = 0 := by unfold bkC; rw [if_pos (by omega)]
          rw [e, ← ha, ← hb'] at ihj
          rw [nI_1, show (0 : Int32) = nI 0 from rfl, nI_add, nI_add]
          have e2 : T + a + b + 0 = T + (a + b + 0) := by omega
          rw [e2]; exact ihj
        · exact pk_in (y - 1) 7 (by omega) (pk_sub (b := 1) (by omega))
        · have e1 : nI y - 1 = nI (y - 1) := pk_sub (b := 1) (by omega)
          obtain ⟨f1, f2⟩ := hg (y - 1) (by omega)
          rw [e1, nI_clamp (by omega), h53 (y - 1) (by omega)]
          refine c140 rfl rfl (by omega) (by omega) ?_
          rw [cj_eq (by omega)]
          refine c118 ?_
          rw [hM.1.2.2.2.1]
          have ad := absd (cn (g y) j) (cn_le _ _) (cn (g (y - 1)) j) (cn_le _ _) (β 3) h3
          have hC : bkC β g y j = if mtj (β 3) (g y) (g (y - 1)) j then 0 else 1 := by unfold bkC; rw [if_neg (by omega)]
          rw [nI_1]
          refine ⟨fun q => ?_, fun q => ?_⟩
          · have em : mtj (β 3) (g y) (g (y - 1)) j = true := by
              cases hz : mtj (β 3) (g y) (g (y - 1)) j with
              | true => rfl
              | false => have h2 := ad.mpr hz; rw [fa_lt] at h2; rw [fa_le] at q; omega
            rw [hC, em, if_pos rfl, ← ha, ← hb'] at ihj
            rw [show (0 : Int32) = nI 0 from rfl, nI_add, nI_add]
            have e2 : T + a + b + 0 = T + (a + b + 0) := by omega
            rw [e2]; exact ihj
          · have em : mtj (β 3) (g y) (g (y - 1)) j = false := ad.mp (fa_of_nle q)
            rw [hC, em, if_neg (by decide), ← ha, ← hb'] at ihj
            rw [show (1 : Int32) = nI 1 from rfl, nI_add, nI_add]
            have e2 : T + a + b + 1 = T + (a + b + 1) := by omega
            rw [e2]; exact ihj
      have second : ∀ a, a = bkA β g y j → Sg 159 64 [some (.ref 47), some (.int (nI T)), some (.int (nI y)), some (.int (nI j)), some (.int (nI (cn (g y) j)))] [.int (nI a), .int (nI T)] mi ml (qi F) := by
        intro a ha
        refine rg159_64 ?_
        rw [nI_add]
        refine pk_le j 0 (fun h1 => ?_) (fun h1 => ⟨pk_in y 7 hy7, ?_⟩)
        · refine third _ a 0 ha ?_
          unfold bkB nrj
          rw [show (j == 0) = true by simp; omega]; rfl
        · have e1 : nI j - 1 = nI (j - 1) := pk_sub (b := 1) (by omega)
          rw [nI_clamp (by omega), h53 y hy7, e1]
          refine c140 rfl rfl (by omega) (by omega) ?_
          have hm := cn_mono (b := g y) (i := j - 1) (j := j) (by omega) (by omega)
          rw [cj_eq (by omega), hM.1.2.2.2.1]
          have e3 : nI (cn (g y) j) - nI (cn (g y) (j - 1)) - 1 = nI (cn (g y) j - cn (g y) (j - 1) - 1) := by
            rw [pk_sub (by omega)]
            exact pk_sub (b := 1) (by omega)
          rw [e3]
          have ej : (j == 0) = false := by simp; omega
          refine pk_le (cn (g y) j - cn (g y) (j - 1) - 1) (β 3) (fun h2 => third _ a 0 ha ?_) (fun h2 => third _ a 1 ha ?_)
          · unfold bkB nrj; rw [ej, decide_eq_true h2]; rfl
          · unfold bkB nrj; rw [ej, decide_eq_false (by omega)]; rfl
      refine bq (fun hq => second 0 ?_) (fun hq => second 1 ?_)
      · unfold bkA; rw [hq]; rfl
      · unfold bkA; rw [hq]; rfl
set_option maxHeartbeats 1000000 in
/-- witnessBy -/
theorem c161 {x : Int32} {β : Bd} {p : Nat} (hx : x = nI p) (hp : p ≤ 1) (hM : Md β mi) (hβ : Wf β) (hT : MT β mi) (h : ∀ mi', fr [58, 59] mi mi' → F (if p = 0 then wt0 β else wt1 β) mi' ml) : Sg 161 0 [some (.ref 47), some (.int x), none, none] [] mi ml (qi F) := by
  subst hx
  refine rg161_0 ?_
  have hH := hβ.1
  have hn : β 2 ≤ 7 := by have := hβ.2.2.1; have := hβ.2.1; omega
  have key : ∀ d mi', d ≤ β 0 → (fr [58, 59] mi mi' ∧ ∀ e, e < d → allB (fun y => wh β y (y + e)) (β 0 - e) = true) → Sg 161 2 [some (.ref 47), some (.int (nI p)), some (.int (nI (d + 1))), none] [] mi' ml (qi F) := by
    refine upI (β 0) (fun d mi' => fr [58, 59] mi mi' ∧ ∀ e, e < d → allB (fun y => wh β y (y + e)) (β 0 - e) = true) (fun d mi' => Sg 161 2 [some (.ref 47), some (.int (nI p)), some (.int (nI (d + 1))), none] [] mi' ml (qi F)) ?_ ?_
    · rintro mi' ⟨g1, g2⟩
      have h5 : mi' 47 5 = nI (β 0) := by rw [g1 47 (by decide)]; exact hM.1.1
      refine rg161_2 (pk_lt (β 0) (β 0 + 1) (fun _ => ?_) (fun h1 => by omega) h5 rfl)
      have hd : wtd β = β 0 := fsN_no fun e he => by rw [g2 e he]; rfl
      have := h mi' g1
      unfold wt0 wt1 at this
      rw [if_pos hd, if_pos hd] at this
      rw [ite_self] at this
      exact this
    · rintro d mi' hd ⟨g1, g2⟩ ihd
      have h5 : mi' 47 5 = nI (β 0) := by rw [g1 47 (by decide)]; exact hM.1.1
      refine rg161_2 (pk_lt (β 0) (d + 1) (fun h1 => by omega) (fun _ => ?_) h5 rfl)
      have inner : ∀ y mi', y ≤ β 0 - d → (fr [58, 59] mi mi' ∧ ∀ z, z < y → wh β z (z + d) = true) → Sg 161 12 [some (.ref 47), some (.int (nI p)), some (.int (nI (d + 1))), some (.int (nI y))] [] mi' ml (qi F) := by
        refine upI (β 0 - d) (fun y mi' => fr [58, 59] mi mi' ∧ ∀ z, z < y → wh β z (z + d) = true) (fun y mi' => Sg 161 12 [some (.ref 47), some (.int (nI p)), some (.int (nI (d + 1))), some (.int (nI y))] [] mi' ml (qi F)) ?_ ?_
        · rintro mi2 ⟨f1, f2⟩
          have h5 : mi2 47 5 = nI (β 0) := by rw [f1 47 (by decide)]; exact hM.1.1
          refine rg161_12 (pk_lt (β 0) (β 0 - d + (d + 1)) (fun _ => ?_) (fun h1 => by omega) h5 (nI_add _ _))
          rw [nI_1]
          refine ihd mi2 ⟨f1, fun e he => ?_⟩
          rcases Nat.lt_succ_iff_lt_or_eq.mp he with q | q
          · exact g2 e q
          · subst q; exact allB_iff.mpr f2
        · rintro y mi2 hy ⟨f1, f2⟩ ihy
          have h5 : mi2 47 5 = nI (β 0) := by rw [f1 47 (by decide)]; exact hM.1.1
          refine rg161_12 (pk_lt (β 0) (y + (d + 1)) (fun h1 => by omega) (fun _ => ?_) h5 (nI_add _ _))
          have e1 : nI y + nI (d + 1) - 1 = nI (y + d) := by rw [nI_add]; exact nI_pred (y + d)
          have hT2 : MT β mi2 := hT.fr f1 (by decide) (by decide) (by decide) (by decide) (by decide)
          have hB2 : Mb β mi2 := fun z hz => by rw [f1 52 (by decide)]; exact hM.2 z hz
          rw [e1]
          refine c144 (f := y) (t := y + d) rfl rfl (by omega) (by omega) hβ.2.1.2 hn hT2 hB2 (fun z hz => hβ.bd hz) (fun mi3 q => ?_)
          have f1' : fr [58, 59] mi mi3 := f1.tr q
          rw [nI_1]
          refine bqn (fun hw => ihy mi3 ⟨f1', fun z hz => ?_⟩) (fun hw => ?_)
          · rcases Nat.lt_succ_iff_lt_or_eq.mp hz with r | r
            · exact f2 z r
            · subst r; exact hw
          · have hd' : wtd β = d := by
              refine fsN_eq hd ?_ (fun e he => by rw [g2 e he]; rfl)
              rw [Bool.not_eq_true']
              cases ha : allB (fun y => wh β y (y + d)) (β 0 - d) with
              | false => rfl
              | true => rw [allB_iff.mp ha y hy] at hw; cases hw
            have hy' : wty β = y := by
              unfold wty
              rw [hd']
              exact fsN_eq hy (by rw [hw]; rfl) (fun z hz => by rw [f2 z hz]; rfl)
            have := h mi3 f1'
            unfold wt0 wt1 at this
            rw [hd', hy', if_neg (show ¬ d = β 0 by omega), if_neg (show ¬ d = β 0 by omega)] at this
            refine pk_ne p 0 (fun h1 => ?_) (fun h1 => ?_)
            · rw [if_neg h1] at this; exact this
            · rw [if_pos h1] at this; exact this
      exact inner 0 mi' (Nat.zero_le _) ⟨g1, fun z hz => by omega⟩
  exact key 0 mi (Nat.zero_le _) ⟨fr.rf, fun e he => by omega⟩
theorem mk58 {mi mi' : Mi} (h : fr [58, 59] mi mi') : mk mi mi' := h.mk (by decide)
set_option maxHeartbeats 1000000 in
/-- leastBy -/
theorem c167 {x : Int32} {β : Bd} {p : Nat} (hx : x = nI p) (hp : p ≤ 1) (hM : Md β mi) (hβ : Wf β) (h3 : β 3 ≤ 7) (h : ∀ mi', mk mi mi' → MT β mi' → F (if p = 0 then ls0 β else ls1 β) mi' ml) : Sg 167 0 [some (.ref 47), some (.int x), none, none, none] [] mi ml (qi F) := by
  subst hx
  refine rg167_0 ?_
  have hH := hβ.1
  have hW := hβ.2.1
  have hn := hβ.2.2.1
  have fin : ∀ (z x3 : Int32) mi', mk mi mi' → (z = if p = 0 then ls0 β else ls1 β) → Sg 167 85 [some (.ref 47), some (.int (nI p)), some (.int z), some (.int x3), none] [] mi' ml (qi F) := by
    intro z x3 mi' k1 hz
    refine rg167_85 (c142 (hM.mk k1) hβ h3 (fun mi2 k2 k3 => ?_))
    rw [hz]; exact h mi2 (k1.tr k2) k3
  have found : ∀ (s : Nat) (x3 : Int32) mi', s < 100 → mk mi mi' → (nI s = if p = 0 then ls0 β else ls1 β) → Sg 167 4 [some (.ref 47), some (.int (nI p)), some (.int (nI s)), some (.int x3), none] [] mi' ml (qi F) := by
    intro s x3 mi' hs k1 hz
    refine rg167_4 ⟨fun _ => fin _ _ _ k1 hz, fun _ => ⟨fun _ => fin _ _ _ k1 hz, fun q => ?_⟩⟩
    refine absurd (Decidable.not_not.mp q) ?_
    intro e
    have := nI_toInt (n := s) (by omega)
    rw [e] at this
    rw [show (-1 : Int32).toInt = -1 from by decide] at this
    omega
  -- the board that is tried
  obtain ⟨γ, hγ⟩ : ∃ γ : Nat → Bd, γ = fun v => if p = 0 then va_up β 3 v else va_up β 2 (β 1 - v) := ⟨_, rfl⟩
  have g0 : ∀ v, γ v 0 = β 0 := fun v => by rw [hγ]; dsimp only; split <;> exact gm_upN (by decide)
  have g1 : ∀ v, γ v 1 = β 1 := fun v => by rw [hγ]; dsimp only; split <;> exact gm_upN (by decide)
  have g8 : ∀ v y, γ v (8 + y) = β (8 + y) := fun v y => by rw [hγ]; dsimp only; split <;> exact gm_upN (by omega)
  have key : ∀ v mi', v ≤ 7 → (mk mi mi' ∧ ∀ u, u < v → (p = 0 ∨ u < β 1) → whole (γ u) = false) → Sg 167 4 [some (.ref 47), some (.int (nI p)), some (.int (-1)), some (.int (nI v)), none] [] mi' ml (qi F) := by
    refine upI 7 (fun v mi' => mk mi mi' ∧ ∀ u, u < v → (p = 0 ∨ u < β 1) → whole (γ u) = false) (fun v mi' => Sg 167 4 [some (.ref 47), some (.int (nI p)), some (.int (-1)), some (.int (nI v)), none] [] mi' ml (qi F)) ?_ ?_
    · rintro mi' ⟨k1, k2⟩
      refine rg167_4 (pk_le 7 7 (fun _ => fin _ _ _ k1 ?_) (fun h1 => by omega))
      rw [hγ] at k2
      by_cases hp0 : p = 0
      · rw [if_pos hp0]
        have : lsv β = 7 := fsN_no fun u hu => by have := k2 u hu (Or.inl hp0); dsimp only at this; rw [if_pos hp0] at this; exact this
        unfold ls0; rw [if_pos this]
      · rw [if_neg hp0]
        have : lsw β = β 1 := fsN_no fun u hu => by have := k2 u (by omega) (Or.inr hu); dsimp only at this; rw [if_neg hp0] at this; exact this
        unfold ls1; rw [if_pos this]
    · rintro v mi' hv ⟨k1, k2⟩ ih
      have hM' := hM.mk k1
      have h6 : mi' 47 6 = nI (β 1) := hM'.1.2.1
      -- the trial
      have trial : ∀ n len : Nat, n ≤ 7 → len ≤ 7 → (p = 0 ∨ v < β 1) → γ v 2 = n → γ v 3 = len → (whole (γ v) = true → nI (if p = 0 then v else n) = if p = 0 then ls0 β else ls1 β) → Sg 167 54 [some (.ref 47), some (.int (nI p)), some (.int (-1)), some (.int (nI v)), some (.int (nI n))] [.int (nI len), .int (nI n), .ref 47] mi' ml (qi F) := by
        intro n len hn7 hl7 hpv e2 e3 hyes
        refine rg167_54 (c141 (w := β 1) rfl rfl h6 hW hn7 hl7 (fun mi2 q1 q2 => ?_))
        have k3 := k1.tr q1
        have hM2 := hM.mk k3
        have hT2 : MT (γ v) mi2 := by show MS mi2 (γ v 1) (γ v 2) (γ v 3); rw [g1, e2, e3]; exact q2
        have hB2 : Mb (γ v) mi2 := fun y hy => by rw [g8]; exact hM2.2 y hy
        refine c145 (β := γ v) (H := β 0) hM2.1.1 hH (g0 v).symm (by rw [g1]; exact hW.2) (by rw [e2]; exact hn7) hT2 hB2 (fun y hy => by rw [g8]; exact hβ.bd hy) (fun mi3 q3 => ?_)
        have k4 := k3.tr (mk58 q3)
        rw [nI_1]
        refine bq (fun hq => ih mi3 ⟨k4, fun u hu hpu => ?_⟩) (fun hq => ?_)
        · rcases Nat.lt_succ_iff_lt_or_eq.mp hu with r | r
          · exact k2 u r hpu
          · subst r; exact hq
        · have hy := hyes hq
          refine pk_ne p 0 (fun h1 => ?_) (fun h1 => ?_)
          · refine found n _ mi3 (by omega) k4 ?_
            rw [if_neg h1] at hy; exact hy
          · refine found v _ mi3 (by omega) k4 ?_
            rw [if_pos h1] at hy; exact hy
      refine rg167_4 (pk_le 7 v (fun h1 => by omega) (fun _ => ⟨fun q => absurd rfl q, fun _ => pk_ne p 0 (fun h1 => ?_) (fun h1 => ?_)⟩))
      · rw [h6]
        by_cases hvW : v < β 1
        · rw [pk_sub (by omega)]
          refine rg167_32 (pk_le (β 1 - v) 0 (fun h2 => by omega) (fun _ => ⟨fun _ => ?_, fun q => absurd h1 (fun e => q (fun e2 => ?_))⟩))
          · rw [hM'.1.2.2.2.1]
            refine trial (β 1 - v) (β 3) (by omega) h3 (Or.inr hvW) (by rw [hγ]; dsimp only; rw [if_neg h1, gm_upS]) (by rw [hγ]; dsimp only; rw [if_neg h1]; exact gm_upN (by decide)) (fun hq => ?_)
            rw [if_neg h1, if_neg h1]
            rw [hγ] at k2 hq
            dsimp only at hq
            rw [if_neg h1] at hq
            have : lsw β = v := fsN_eq hvW hq fun u hu => by have := k2 u hu (Or.inr (by omega)); dsimp only at this; rw [if_neg h1] at this; exact this
            unfold ls1; rw [this, if_neg (by omega)]
          · have : nI p = nI 0 := e2
            rw [nI_eq (by omega) (by decide)] at this
            exact e this
        · have hneg : nI (β 1) - nI v ≤ 0 := by
            rw [fa_le, pk_sub_toInt (by omega) (by omega)]
            rw [show (0 : Int32).toInt = 0 from by decide]
            omega
          refine rg167_32 ⟨fun _ => ?_, fun q => absurd hneg q⟩
          rw [nI_1]
          refine ih mi' ⟨k1, fun u hu hpu => ?_⟩
          rcases Nat.lt_succ_iff_lt_or_eq.mp hu with r | r
          · exact k2 u r hpu
          · subst r; rcases hpu with q | q
            · exact absurd q h1
            · omega
      · rw [hM'.1.2.2.1]
        refine rg167_32 (pk_le (β 2) 0 (fun h2 => by omega) (fun _ => ⟨fun q => absurd (by rw [h1]; rfl) q, fun _ => ?_⟩))
        refine trial (β 2) v (by omega) (by omega) (Or.inl h1) (by rw [hγ]; dsimp only; rw [if_pos h1]; exact gm_upN (by decide)) (by rw [hγ]; dsimp only; rw [if_pos h1, gm_upS]) (fun hq => ?_)
        rw [if_pos h1, if_pos h1]
        rw [hγ] at k2 hq
        dsimp only at hq
        rw [if_pos h1] at hq
        have : lsv β = v := fsN_eq hv hq fun u hu => by have := k2 u hu (Or.inl h1); dsimp only at this; rw [if_pos h1] at this; exact this
        unfold ls0; rw [this, if_neg (by omega)]
  exact key 0 mi (by omega) ⟨mk.rf, fun u hu => by omega⟩
end C29
