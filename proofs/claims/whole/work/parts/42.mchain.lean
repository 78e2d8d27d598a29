/-! the model's chains -/
/-- the cell on a side; 49: none -/
def nbw (H W k d : Nat) : Nat :=
  if d = 0 then (if k % W = 0 then 49 else k - 1) else
  if d = 1 then (if k / W = 0 then 49 else k - W) else
  if d = 2 then (if k % W + 1 = W then 49 else k + 1) else
  (if k / W + 1 = H then 49 else k + W)
def nbt (H W k d : Nat) : Bool := !decide (k < H * W) || ((nbw H W k d == 49) || (decide (nbw H W k d < H * W) && ((nbw H W (nbw H W k d) ((d + 2) % 4) == k) && !(nbw H W k d == k))))
def nbv (H W k : Nat) : Bool := !decide (k < H * W) || (((k % W == 0) || (nbw H W k 0 == k / W * W + (k % W - 1))) && (((k / W == 0) || (nbw H W k 1 == (k / W - 1) * W + k % W)) && (((k % W + 1 == W) || (nbw H W k 2 == k / W * W + (k % W + 1))) && ((k / W + 1 == H) || (nbw H W k 3 == (k / W + 1) * W + k % W)))))
theorem nbt_T : ∀ H, H < 8 → ∀ W, W < 8 → ∀ k, k < 49 → ∀ d, d < 4 → nbt H W k d = true := by decide +kernel
theorem nbv_T : ∀ H, H < 8 → ∀ W, W < 8 → ∀ k, k < 49 → nbv H W k = true := by decide +kernel
theorem nbw_ok (H : Nat) (hH : H ≤ 7) (W : Nat) (hW : W ≤ 7) (k : Nat) (hk : k < 49) (hkK : k < H * W) (d : Nat) (hd : d < 4) (h : nbw H W k d ≠ 49) : nbw H W k d < H * W ∧ nbw H W (nbw H W k d) ((d + 2) % 4) = k ∧ nbw H W k d ≠ k := by
  have := nbt_T H (by omega) W (by omega) k hk d hd
  unfold nbt at this
  rw [decide_eq_true hkK, beq_eq_false_iff_ne.mpr h] at this
  simp only [Bool.not_true, Bool.false_or, Bool.and_eq_true, decide_eq_true_eq, beq_iff_eq, Bool.not_eq_true', beq_eq_false_iff_ne] at this
  exact this
theorem nbv_S {H W k : Nat} (hH : H ≤ 7) (hW : W ≤ 7) (hk : k < 49) (hkK : k < H * W) : (k % W ≠ 0 → nbw H W k 0 = k / W * W + (k % W - 1)) ∧ (k / W ≠ 0 → nbw H W k 1 = (k / W - 1) * W + k % W) ∧ (k % W + 1 ≠ W → nbw H W k 2 = k / W * W + (k % W + 1)) ∧ (k / W + 1 ≠ H → nbw H W k 3 = (k / W + 1) * W + k % W) := by
  have := nbv_T H (by omega) W (by omega) k hk
  unfold nbv at this
  rw [decide_eq_true hkK] at this
  simp only [Bool.not_true, Bool.false_or, Bool.and_eq_true] at this
  obtain ⟨h1, h2, h3, h4⟩ := this
  refine ⟨fun q => ?_, fun q => ?_, fun q => ?_, fun q => ?_⟩
  · rw [beq_eq_false_iff_ne.mpr q, Bool.false_or, beq_iff_eq] at h1; exact h1
  · rw [beq_eq_false_iff_ne.mpr q, Bool.false_or, beq_iff_eq] at h2; exact h2
  · rw [beq_eq_false_iff_ne.mpr q, Bool.false_or, beq_iff_eq] at h3; exact h3
  · rw [beq_eq_false_iff_ne.mpr q, Bool.false_or, beq_iff_eq] at h4; exact h4
theorem nbw_0 (H : Nat) (hH : H ≤ 7) (W : Nat) (hW : W ≤ 7) (k : Nat) (hk : k < 49) (hkK : k < H * W) : k % W ≠ 0 → nbw H W k 0 = k / W * W + (k % W - 1) := (nbv_S hH hW hk hkK).1
theorem nbw_1 (H : Nat) (hH : H ≤ 7) (W : Nat) (hW : W ≤ 7) (k : Nat) (hk : k < 49) (hkK : k < H * W) : k / W ≠ 0 → nbw H W k 1 = (k / W - 1) * W + k % W := (nbv_S hH hW hk hkK).2.1
theorem nbw_2 (H : Nat) (hH : H ≤ 7) (W : Nat) (hW : W ≤ 7) (k : Nat) (hk : k < 49) (hkK : k < H * W) : k % W + 1 ≠ W → nbw H W k 2 = k / W * W + (k % W + 1) := (nbv_S hH hW hk hkK).2.2.1
theorem nbw_3 (H : Nat) (hH : H ≤ 7) (W : Nat) (hW : W ≤ 7) (k : Nat) (hk : k < 49) (hkK : k < H * W) : k / W + 1 ≠ H → nbw H W k 3 = (k / W + 1) * W + k % W := (nbv_S hH hW hk hkK).2.2.2
def nbd (β : Bd) (k d : Nat) : Nat := nbw (β 0) (β 1) k d
def ot (β : Bd) (k : Nat) : Bool := ((β 4).testBit 0 && (k % β 1 == 0)) || ((β 4).testBit 1 && (k / β 1 == 0)) || ((β 4).testBit 2 && (k % β 1 + 1 == β 1)) || ((β 4).testBit 3 && (k / β 1 + 1 == β 0))
def aj (β : Bd) (k b : Nat) : Bool := anyB (fun d => nbd β k d == b) 4 && decide (b < β 0 * β 1)
theorem aj_iff {β : Bd} {k b : Nat} : aj β k b = true ↔ (∃ d, d < 4 ∧ nbd β k d = b) ∧ b < β 0 * β 1 := by
  unfold aj
  rw [Bool.and_eq_true, anyB_iff, decide_eq_true_eq]
  simp
theorem nbd_ok {β : Bd} (hβ : Wf β) {k d : Nat} (hk : k < β 0 * β 1) (hd : d < 4) (h : nbd β k d ≠ 49) : nbd β k d < β 0 * β 1 ∧ nbd β (nbd β k d) ((d + 2) % 4) = k ∧ nbd β k d ≠ k :=
  nbw_ok _ hβ.1.2 _ hβ.2.1.2 k (by have := HW49 hβ; omega) hk d hd h
/-- no cell is beside itself, for cells -/
def aj' (β : Bd) (k b : Nat) : Bool := aj β k b && decide (k < β 0 * β 1)
theorem aj_irr {β : Bd} (hβ : Wf β) : ∀ k, aj' β k k = false := by
  intro k
  cases h : aj' β k k with
  | false => rfl
  | true =>
    unfold aj' at h
    rw [Bool.and_eq_true, aj_iff, decide_eq_true_eq] at h
    obtain ⟨⟨⟨d, hd, e⟩, h2⟩, h3⟩ := h
    have h49 := HW49 hβ
    exact absurd e (nbd_ok hβ h3 hd (by omega)).2.2
theorem aj'_iff {β : Bd} {k b : Nat} : aj' β k b = true ↔ (∃ d, d < 4 ∧ nbd β k d = b) ∧ b < β 0 * β 1 ∧ k < β 0 * β 1 := by
  unfold aj'
  rw [Bool.and_eq_true, aj_iff, decide_eq_true_eq]
  exact ⟨fun h => ⟨h.1.1, h.1.2, h.2⟩, fun h => ⟨⟨h.1, h.2.1⟩, h.2.2⟩⟩
theorem n1_ne (s : Nat) (h : s < 2 ^ 31) : nI s ≠ -1 := by
  intro e
  have := nI_toInt h
  rw [e, show (-1 : Int32).toInt = -1 from by decide] at this
  omega
theorem n2_ne (s : Nat) (h : s < 2 ^ 31) : nI s ≠ -2 := by
  intro e
  have := nI_toInt h
  rw [e, show (-2 : Int32).toInt = -2 from by decide] at this
  omega
/-- flows and what is reached, for a board -/
abbrev FlB (β : Bd) (P : Nat → Nat) : Prop := Flw (β 0 * β 1) (bt β) (ot β) (aj' β) P
abbrev RsB (β : Bd) (P : Nat → Nat) (v w : Nat) : Prop := Rs (β 0 * β 1) (bt β) (aj' β) P v w
abbrev BfB (β : Bd) (P cf q : Nat → Nat) (c : Nat) : Prop := Bfs (β 0 * β 1) (bt β) (aj' β) P cf q c
abbrev CrB (β : Bd) (P : Nat → Nat) (R : Nat → Bool) : Prop := Crt (β 0 * β 1) (bt β) (ot β) (aj' β) P R
section C42a
variable {mi : Mi} {ml : Ml} {F : Int32 → Mi → Ml → Prop}
theorem c170 {β : Bd} {x : Int32} {k : Nat} (hx : x = nI k) (hM : Md β mi) (hβ : Wf β) (hk : k < β 0 * β 1) (h : F (bI (bt β k)) mi ml) : Sg 170 0 [some (.ref 47), some (.int x)] [] mi ml (qi F) := by
  subst hx
  have h49 := HW49 hβ
  have hH := hβ.1
  have hW := hβ.2.1
  have hy := kH hk
  have hx := kW (k := k) hW.1
  have hbd := hβ.bd (show k / β 1 < 7 by omega)
  refine rg170_0 ?_
  rw [hM.1.2.1, pk_rem (a := k) (d := β 1) (by omega) (by omega) (by omega), pk_div (a := k) (d := β 1) (by omega) (by omega) (by omega), nI_clamp (by omega), hM.2 _ (by omega)]
  refine ⟨fun q => ?_, pk_in (k / β 1) 7 (by omega), c116 (nI_l (by omega)) rfl (by omega) (by omega) ⟨bI_01 _, h⟩⟩
  rw [show (0 : Int32) = nI 0 from rfl, nI_eq (by omega) (by omega)] at q; omega
theorem c169 {β : Bd} {x : Int32} {k : Nat} (hx : x = nI k) (hM : Md β mi) (hβ : Wf β) (hk : k < β 0 * β 1) (h : F (bI (ot β k)) mi ml) : Sg 169 0 [some (.ref 47), some (.int x), none, none] [] mi ml (qi F) := by
  subst hx
  have h49 := HW49 hβ
  have hH := hβ.1
  have hW := hβ.2.1
  have hS := hβ.2.2.2.1
  have hy := kH hk
  have hx := kW (k := k) hW.1
  have e9 : mi 47 9 = nI (β 4) := hM.1.2.2.2.2
  have e6 : mi 47 6 - 1 = nI (β 1 - 1) := by rw [hM.1.2.1]; exact pk_sub (b := 1) hW.1
  have e5 : mi 47 5 - 1 = nI (β 0 - 1) := by rw [hM.1.1]; exact pk_sub (b := 1) hH.1
  refine rg169_0 ?_
  rw [hM.1.2.1, pk_rem (a := k) (d := β 1) (by omega) (by omega) (by omega), pk_div (a := k) (d := β 1) (by omega) (by omega) (by omega), e9]
  refine ⟨fun q => ?_, ?_⟩
  · rw [show (0 : Int32) = nI 0 from rfl, nI_eq (by omega) (by omega)] at q; omega
  have hot : ot β k = (((β 4).testBit 0 && (k % β 1 == 0)) || ((β 4).testBit 1 && (k / β 1 == 0)) || ((β 4).testBit 2 && (k % β 1 + 1 == β 1)) || ((β 4).testBit 3 && (k / β 1 + 1 == β 0))) := rfl
  have s4 : ((β 4).testBit 0 && (k % β 1 == 0)) = false → ((β 4).testBit 1 && (k / β 1 == 0)) = false → ((β 4).testBit 2 && (k % β 1 + 1 == β 1)) = false → Sg 169 68 [some (.ref 47), some (.int (nI k)), some (.int (nI (k % β 1))), some (.int (nI (k / β 1)))] [] mi ml (qi F) := by
    intro a1 a2 a3
    refine rg169_68 ?_
    rw [e9]
    refine c116 (nI_l (by omega)) (k := 3) rfl (by omega) (by omega) ?_
    rw [hot, a1, a2, a3, Bool.false_or, Bool.false_or, Bool.false_or] at h
    rw [e5]
    refine bq (fun hq => ?_) (fun hq => pk_ne (k / β 1) (β 0 - 1) (fun h1 => ?_) (fun h1 => ?_))
    · rw [hq] at h; exact h
    · rw [hq, show (k / β 1 + 1 == β 0) = false by simp; omega] at h; exact h
    · rw [hq, show (k / β 1 + 1 == β 0) = true by simp; omega] at h; exact h
  have s3 : ((β 4).testBit 0 && (k % β 1 == 0)) = false → ((β 4).testBit 1 && (k / β 1 == 0)) = false → Sg 169 46 [some (.ref 47), some (.int (nI k)), some (.int (nI (k % β 1))), some (.int (nI (k / β 1)))] [] mi ml (qi F) := by
    intro a1 a2
    refine rg169_46 ?_
    rw [e9]
    refine c116 (nI_l (by omega)) (k := 2) rfl (by omega) (by omega) ?_
    rw [e6]
    refine bq (fun hq => s4 a1 a2 ?_) (fun hq => pk_eq (k % β 1) (β 1 - 1) (fun h1 => ?_) (fun h1 => s4 a1 a2 ?_))
    · rw [hq]; rfl
    · rw [hot, hq, show (k % β 1 + 1 == β 1) = true by simp; omega] at h
      simpa [bI] using h
    · rw [hq, show (k % β 1 + 1 == β 1) = false by simp; omega]; rfl
  have s2 : ((β 4).testBit 0 && (k % β 1 == 0)) = false → Sg 169 30 [some (.ref 47), some (.int (nI k)), some (.int (nI (k % β 1))), some (.int (nI (k / β 1)))] [] mi ml (qi F) := by
    intro a1
    refine rg169_30 ?_
    rw [e9]
    refine c116 (nI_l (by omega)) (k := 1) rfl (by omega) (by omega) ?_
    refine bq (fun hq => s3 a1 ?_) (fun hq => pk_eq (k / β 1) 0 (fun h1 => ?_) (fun h1 => s3 a1 ?_))
    · rw [hq]; rfl
    · rw [hot, hq, show (k / β 1 == 0) = true from beq_iff_eq.mpr h1] at h
      simpa [bI] using h
    · rw [hq, show (k / β 1 == 0) = false from beq_eq_false_iff_ne.mpr h1]; rfl
  refine c116 (nI_l (by omega)) (k := 0) rfl (by omega) (by omega) ?_
  refine bq (fun hq => s2 ?_) (fun hq => pk_eq (k % β 1) 0 (fun h1 => ?_) (fun h1 => s2 ?_))
  · rw [hq]; rfl
  · rw [hot, hq, show (k % β 1 == 0) = true from beq_iff_eq.mpr h1] at h
    simpa [bI] using h
  · rw [hq, show (k % β 1 == 0) = false from beq_eq_false_iff_ne.mpr h1]; rfl
theorem c171i {β : Bd} {x1 x2 x3 s0 s1 : Int32} {a b : Nat} (hM : Md β mi) (hβ : Wf β) (h3 : x3 = nI a) (hs : s1 + s0 = nI b) (ha : a < β 1) (hb : b < β 0) (h : F (nI (b * β 1 + a)) mi ml) : Sg 171 51 [some (.ref 47), some (.int x1), some (.int x2), some (.int x3), none] [.int s0, .int s1] mi ml (qi F) := by
  refine rg171_51 (c130 hM.1.1 hβ.1 hM.1.2.1 hβ.2.1 (fun s t _ _ e1 e2 => ⟨fun q => absurd q (by decide), fun _ => ?_⟩) (fun q => absurd (q a b ha hb h3 hs) id))
  rw [hs, hM.1.2.1, h3, pk_mul, nI_add]
  exact h
theorem c171o {β : Bd} {x1 x2 x3 s0 s1 : Int32} (hM : Md β mi) (hβ : Wf β) (ho : ∀ s t, s < β 1 → t < β 0 → x3 = nI s → s1 + s0 = nI t → False) (h : F (-1) mi ml) : Sg 171 51 [some (.ref 47), some (.int x1), some (.int x2), some (.int x3), none] [.int s0, .int s1] mi ml (qi F) :=
  rg171_51 (c130 hM.1.1 hβ.1 hM.1.2.1 hβ.2.1 (fun s t h1 h2 e1 e2 => absurd (ho s t h1 h2 e1 e2) id) (fun _ => ⟨fun _ => h, fun q => absurd rfl q⟩))
theorem nI_m1 {a : Nat} (h : 1 ≤ a) : nI a + (-1) = nI (a - 1) := by
  have := pk_m1 (a - 1)
  rw [← this]; congr 2; omega
set_option maxHeartbeats 1000000 in
/-- beside -/
theorem c171 {β : Bd} {x y : Int32} {k d : Nat} (hx : x = nI k) (hy : y = nI d) (hM : Md β mi) (hβ : Wf β) (hk : k < β 0 * β 1) (hd : d < 4) (h : F (if nbd β k d = 49 then -1 else nI (nbd β k d)) mi ml) : Sg 171 0 [some (.ref 47), some (.int x), some (.int y), none, none] [] mi ml (qi F) := by
  subst hx hy
  have h49 := HW49 hβ
  have hH := hβ.1
  have hW := hβ.2.1
  have hyy := kH hk
  have hxx := kW (k := k) hW.1
  have hW0 : ¬ nI (β 1) = 0 := fun q => by rw [show (0 : Int32) = nI 0 from rfl, nI_eq (by omega) (by omega)] at q; omega
  refine rg171_0 ?_
  rw [hM.1.2.1, pk_rem (a := k) (d := β 1) (by omega) (by omega) (by omega)]
  refine ⟨hW0, ?_⟩
  have e0 : ∀ a : Nat, nI a + 0 = nI a := fun a => nI_add a 0
  have hk49 : k < 49 := by omega
  unfold nbd at h
  have hd4 : d = 0 ∨ d = 1 ∨ d = 2 ∨ d = 3 := by omega
  rcases hd4 with rfl | rfl | rfl | rfl
  · refine ⟨fun q => absurd rfl q, fun _ => rg171_24 ?_⟩
    rw [hM.1.2.1, pk_div (a := k) (d := β 1) (by omega) (by omega) (by omega)]
    refine ⟨hW0, fun _ => ⟨fun _ => ?_, fun q => absurd (by decide) q⟩, fun q => absurd (by decide) q⟩
    by_cases hz : k % β 1 = 0
    · have e : nbw (β 0) (β 1) k 0 = 49 := by unfold nbw; rw [if_pos rfl, if_pos hz]
      rw [if_pos e] at h
      refine c171o hM hβ (fun s t h1 h2 e1 e2 => ?_) h
      rw [hz] at e1
      exact n1_ne s (by omega) e1.symm
    · have e := nbw_0 _ hH.2 _ hW.2 k hk49 hk hz
      have hne : nbw (β 0) (β 1) k 0 ≠ 49 := by unfold nbw; rw [if_pos rfl, if_neg hz]; omega
      rw [if_neg hne, e] at h
      exact c171i hM hβ (nI_m1 (by omega)) (e0 _) (by omega) hyy h
  · refine ⟨fun _ => ⟨fun _ => rg171_24 ?_, fun q => absurd (by decide) q⟩, fun q => absurd (by decide) q⟩
    rw [hM.1.2.1, pk_div (a := k) (d := β 1) (by omega) (by omega) (by omega)]
    refine ⟨hW0, fun q => absurd rfl q, fun _ => ?_⟩
    by_cases hz : k / β 1 = 0
    · have e : nbw (β 0) (β 1) k 1 = 49 := by unfold nbw; rw [if_neg (by decide), if_pos rfl, if_pos hz]
      rw [if_pos e] at h
      refine c171o hM hβ (fun s t h1 h2 e1 e2 => ?_) h
      rw [hz] at e2
      exact n1_ne t (by omega) e2.symm
    · have e := nbw_1 _ hH.2 _ hW.2 k hk49 hk hz
      have hne : nbw (β 0) (β 1) k 1 ≠ 49 := by unfold nbw; rw [if_neg (by decide), if_pos rfl, if_neg hz]; omega
      rw [if_neg hne, e] at h
      exact c171i hM hβ (e0 _) (nI_m1 (Nat.pos_of_ne_zero hz)) hxx (by omega) h
  · refine ⟨fun _ => ⟨fun q => absurd rfl q, fun _ => rg171_24 ?_⟩, fun q => absurd (by decide) q⟩
    rw [hM.1.2.1, pk_div (a := k) (d := β 1) (by omega) (by omega) (by omega)]
    refine ⟨hW0, fun _ => ⟨fun _ => ?_, fun q => absurd (by decide) q⟩, fun q => absurd (by decide) q⟩
    by_cases hz : k % β 1 + 1 = β 1
    · have e : nbw (β 0) (β 1) k 2 = 49 := by unfold nbw; rw [if_neg (by decide), if_neg (by decide), if_pos rfl, if_pos hz]
      rw [if_pos e] at h
      refine c171o hM hβ (fun s t h1 h2 e1 e2 => ?_) h
      rw [nI_1, nI_eq (by omega) (by omega)] at e1
      omega
    · have e := nbw_2 _ hH.2 _ hW.2 k hk49 hk hz
      have hlt : k / β 1 * β 1 + (k % β 1 + 1) < β 0 * β 1 := by
        have := Nat.mul_le_mul_right (β 1) (show k / β 1 + 1 ≤ β 0 from hyy)
        rw [Nat.succ_mul] at this; omega
      have hne : nbw (β 0) (β 1) k 2 ≠ 49 := by omega
      rw [if_neg hne, e] at h
      exact c171i hM hβ (nI_1 _) (e0 _) (by omega) hyy h
  · refine ⟨fun _ => ⟨fun _ => rg171_24 ?_, fun q => absurd (by decide) q⟩, fun q => absurd (by decide) q⟩
    rw [hM.1.2.1, pk_div (a := k) (d := β 1) (by omega) (by omega) (by omega)]
    refine ⟨hW0, fun _ => ⟨fun q => absurd rfl q, fun _ => ?_⟩, fun q => absurd (by decide) q⟩
    by_cases hz : k / β 1 + 1 = β 0
    · have e : nbw (β 0) (β 1) k 3 = 49 := by unfold nbw; rw [if_neg (by decide), if_neg (by decide), if_neg (by decide), if_pos hz]
      rw [if_pos e] at h
      refine c171o hM hβ (fun s t h1 h2 e1 e2 => ?_) h
      rw [nI_1, nI_eq (by omega) (by omega)] at e2
      omega
    · have e := nbw_3 _ hH.2 _ hW.2 k hk49 hk hz
      have hlt : (k / β 1 + 1) * β 1 + k % β 1 < β 0 * β 1 := by
        have := Nat.mul_le_mul_right (β 1) (show k / β 1 + 1 + 1 ≤ β 0 by omega)
        rw [Nat.succ_mul] at this; omega
      have hne : nbw (β 0) (β 1) k 3 ≠ 49 := by omega
      rw [if_neg hne, e] at h
      exact c171i hM hβ (e0 _) (nI_1 _) hxx (by omega) h
end C42a
