/-! the class: board, layings, sheets -/
section C62
variable {mi : Mi} {ml : Ml} {F : Int32 → Mi → Ml → Prop} {β : Bd}
/-- hasRow -/
theorem c6 {x : Int32} {H : Nat} (h0 : mi 1 0 = nI H) (hH : H ≤ 7) (hy : ∀ s, s < H → x = nI s → F 1 mi ml) (hn : (∀ s, s < H → x ≠ nI s) → F 0 mi ml) : Sg 6 0 [some (.ref 1), some (.int x)] [] mi ml (qi F) := by
  refine rg6_0 ⟨fun q => hn fun s hs e => ?_, fun q => ?_⟩
  · rw [e] at q; exact nI_pos (by omega) q
  · obtain ⟨j, hj, rfl⟩ := nI_of q
    refine pk_le H j (fun q2 => hn fun s hs e => ?_) (fun q2 => hy j q2 rfl) h0 rfl
    have := (nI_eq hj (by omega)).mp e
    omega
/-- hasCell -/
theorem c7 {x y : Int32} {H W : Nat} (h0 : mi 1 0 = nI H) (hH : H ≤ 7) (h1 : mi 1 1 = nI W) (hW : W ≤ 7) (hy : ∀ s t, s < W → t < H → x = nI s → y = nI t → F 1 mi ml) (hn : (∀ s t, s < W → t < H → x = nI s → y = nI t → False) → F 0 mi ml) : Sg 7 0 [some (.ref 1), some (.int x), some (.int y)] [] mi ml (qi F) := by
  refine rg7_0 ⟨fun q => hn fun s t hs ht e _ => ?_, fun q => ?_⟩
  · rw [e] at q; exact nI_pos (by omega) q
  · obtain ⟨j, hj, rfl⟩ := nI_of q
    refine pk_le W j (fun q2 => hn fun s t hs ht e _ => ?_) (fun q2 => ?_) h1 rfl
    · have := (nI_eq hj (by omega)).mp e
      omega
    · refine c6 h0 hH (fun s hs e => ⟨fun r => absurd r (by decide), fun _ => hy j s q2 hs rfl e⟩) (fun hno => ⟨fun _ => hn fun s t hs ht _ e => hno t ht e, fun r => absurd rfl r⟩)
/-- cellCount -/
theorem c10 (h0 : mi 1 0 = nI (β 0)) (h1 : mi 1 1 = nI (β 1)) (h : F (nI (β 0 * β 1)) mi ml) : Sg 10 0 [some (.ref 1)] [] mi ml (qi F) := by
  refine rg10_0 ?_
  rw [h0, h1, pk_mul]; exact h
/-- numberOf -/
theorem c9 {x y : Int32} {s t : Nat} (hx : x = nI s) (hy : y = nI t) (h1 : mi 1 1 = nI (β 1)) (h : F (nI (t * β 1 + s)) mi ml) : Sg 9 0 [some (.ref 1), some (.int x), some (.int y)] [] mi ml (qi F) := by
  subst hx hy
  refine rg9_0 ?_
  rw [h1, pk_mul, nI_add]; exact h
/-- faultyCount -/
theorem c11 (hC : Cd β mi) (hβ : Wf β) (h : F (nI (sm (fun y => pcn (β (8 + y))) (β 0))) mi ml) : Sg 11 0 [some (.ref 1), none, none] [] mi ml (qi F) := by
  have hH := hβ.1
  refine rg11_0 ?_
  refine upP (β 0) (fun y => Sg 11 4 [some (.ref 1), some (.int (nI (sm (fun y => pcn (β (8 + y))) y))), some (.int (nI y))] [] mi ml (qi F)) ?_ ?_ 0 (Nat.zero_le _)
  · exact rg11_4 (pk_le (β 0) (β 0) (fun _ => h) (fun q => by omega) hC.1.1 rfl)
  · intro y hy ih
    refine rg11_4 (pk_le (β 0) y (fun q => by omega) (fun _ => ⟨pk_in y 7 (by omega), ?_⟩) hC.1.1 rfl)
    rw [nI_clamp (by omega), hC.2 y (by omega)]
    refine c194 rfl (hβ.bd (by omega)) ?_
    rw [nI_1, nI_add]
    exact ih
/-- changeRow -/
theorem c5 {F : Mi → Ml → Prop} {x z : Int32} {y : Nat} (hx : x = nI y) (hy : y < 7) (h : F (va_up (va_up mi 2 (va_up (mi 2) y z)) 1 (va_up (mi 1) 5 (mi 1 5 + 1))) ml) : Sg 5 0 [some (.ref 1), some (.int x), some (.int z)] [] mi ml (qv F) := by
  subst hx
  refine rg5_0 ⟨pk_in y 7 hy, ?_⟩
  rw [nI_clamp (by omega)]; exact h
theorem absf : ∀ a, a ≤ 7 → ∀ b, b ≤ 7 → ∀ len, len ≤ 7 → ((if 0 ≤ nI a - nI b then nI a - nI b else 0 - (nI a - nI b)) ≤ nI len ↔ (decide (a ≤ b + len) && decide (b ≤ a + len)) = true) := by decide +kernel
/-- wideGaps -/
theorem c30 {x : Int32} {a : Nat} (hx : x = nI a) (ha : a < 128) (hp : pcn a = β 2) (hn : 1 ≤ β 2 ∧ β 2 ≤ 7) (h3 : β 3 ≤ 7) (hC : Cd β mi) (h : F (nI (sm (fun j => if nrj (β 3) a j then 0 else 1) (β 2))) mi ml) : Sg 30 0 [some (.int x), some (.ref 1), none, none] [] mi ml (qi F) := by
  subst hx
  refine rg30_0 ?_
  have key := upP (β 2) (fun j => 1 ≤ j → Sg 30 4 [some (.int (nI a)), some (.ref 1), some (.int (nI (sm (fun j => if nrj (β 3) a j then 0 else 1) j))), some (.int (nI j))] [] mi ml (qi F)) ?_ ?_ 1 hn.1
  · exact key (Nat.le_refl 1)
  · intro _
    exact rg30_4 (pk_le (β 2) (β 2) (fun _ => h) (fun q => by omega) hC.1.2.2.1 rfl)
  · intro j hj ih h1
    have ih := ih (by omega)
    refine rg30_4 (pk_le (β 2) j (fun q => by omega) (fun _ => ?_) hC.1.2.2.1 rfl)
    refine c110 rfl rfl (by omega) (by omega) ?_
    have ej : nI j - 1 = nI (j - 1) := pk_sub (b := 1) h1
    rw [ej]
    refine c110 rfl rfl (by omega) (by omega) ?_
    have hm := cn_mono (b := a) (i := j - 1) (j := j) (by omega) (by omega)
    have hc := cn_le a j
    have e1 : nI (cn a j) - nI (cn a (j - 1)) - 1 = nI (cn a j - cn a (j - 1) - 1) := by
      rw [pk_sub (by omega)]
      exact pk_sub (b := 1) (by omega)
    rw [cj_eq (by omega), cj_eq (by omega), e1, nI_1, nI_1]
    have es : sm (fun j => if nrj (β 3) a j then 0 else 1) (j + 1) = sm (fun j => if nrj (β 3) a j then 0 else 1) j + (if nrj (β 3) a j then 0 else 1) := rfl
    rw [es] at ih
    have ej0 : (j == 0) = false := by simp; omega
    refine pk_le (cn a j - cn a (j - 1) - 1) (β 3) (fun q => ?_) (fun q => ?_) rfl hC.1.2.2.2.1
    · have : nrj (β 3) a j = true := by unfold nrj; rw [ej0]; simpa using q
      rw [if_pos this] at ih; exact ih
    · have : nrj (β 3) a j = false := by unfold nrj; rw [ej0, Bool.false_or, decide_eq_false_iff_not]; omega
      rw [if_neg (by rw [this]; decide)] at ih; exact ih
/-- farTasks -/
theorem c31 {x y : Int32} {a c : Nat} (hx : x = nI a) (hy : y = nI c) (ha : a < 128) (hc : c < 128) (hpa : pcn a = β 2) (hpc : pcn c = β 2) (hn : β 2 ≤ 7) (h3 : β 3 ≤ 7) (hC : Cd β mi) (h : F (nI (sm (fun j => if mtj (β 3) c a j then 0 else 1) (β 2))) mi ml) : Sg 31 0 [some (.int x), some (.int y), some (.ref 1), none, none] [] mi ml (qi F) := by
  subst hx hy
  refine rg31_0 ?_
  refine upP (β 2) (fun j => Sg 31 5 [some (.int (nI a)), some (.int (nI c)), some (.ref 1), some (.int (nI (sm (fun j => if mtj (β 3) c a j then 0 else 1) j))), some (.int (nI j))] [] mi ml (qi F)) ?_ ?_ 0 (Nat.zero_le _)
  · exact rg31_5 (pk_le (β 2) (β 2) (fun _ => h) (fun q => by omega) hC.1.2.2.1 rfl)
  · intro j hj ih
    refine rg31_5 (pk_le (β 2) j (fun q => by omega) (fun _ => ?_) hC.1.2.2.1 rfl)
    refine c110 rfl rfl (by omega) (by omega) ?_
    refine c110 rfl rfl (by omega) (by omega) ?_
    rw [cj_eq (by omega), cj_eq (by omega), nI_1, nI_1, hC.1.2.2.2.1, absf _ (cn_le a j) _ (cn_le c j) _ h3]
    have es : sm (fun j => if mtj (β 3) c a j then 0 else 1) (j + 1) = sm (fun j => if mtj (β 3) c a j then 0 else 1) j + (if mtj (β 3) c a j then 0 else 1) := rfl
    rw [es, mtj_sym] at ih
    refine ⟨fun q => ?_, fun q => ?_⟩
    · have : mtj (β 3) a c j = true := q
      rw [if_pos this] at ih; exact ih
    · have : ¬ mtj (β 3) a c j = true := q
      rw [if_neg this] at ih; exact ih
/-- faulty cells under a seat, by tasks -/
theorem pcn_and {a f n : Nat} (hp : pcn a = n) : pcn (a &&& f) = fb_ct (fun j => f.testBit (cn a j)) n := by
  have := cmp_ct (p := fun x => a.testBit x) (f := fun j => f.testBit (cn a j)) (Q := fun x => f.testBit x) (M := 7) (fun x hx h => by rw [cn_eq hx h rfl])
  have e : fb_ct (fun x => a.testBit x) 7 = n := hp
  rw [e] at this
  rw [this]
  exact fb_ct_cong fun x _ => Nat.testBit_and a f x
variable {g : Nat → Nat}
/-- brokenOn -/
theorem c29 {r : Nat} (hr : isY r) (hC : Cd β mi) (hβ : Wf β) (h3 : β 3 ≤ 7) (hg : ∀ y, y < β 0 → mi (r + 1) y = nI (g y) ∧ g y < 128 ∧ pcn (g y) = β 2) (h : F (nI (bk β g)) mi ml) : Sg 29 0 [some (.ref r), some (.ref 1), none, none] [] mi ml (qi F) := by
  have hH := hβ.1
  have hn : 1 ≤ β 2 ∧ β 2 ≤ 7 := by have := hβ.2.2.1; have := hβ.2.1; omega
  refine rg29_0 hr ?_
  refine upP (β 0) (fun y => Sg 29 4 [some (.ref r), some (.ref 1), some (.int (nI (sm (bkr β g) y))), some (.int (nI y))] [] mi ml (qi F)) ?_ ?_ 0 (Nat.zero_le _)
  · exact rg29_4 hr (pk_le (β 0) (β 0) (fun _ => h) (fun q => by omega) hC.1.1 rfl)
  · intro y hy ih
    obtain ⟨g1, g2, g3⟩ := hg y hy
    have hb := hβ.bd (show y < 7 by omega)
    refine rg29_4 hr (pk_le (β 0) y (fun q => by omega) (fun _ => ⟨pk_in y 7 (by omega), ?_⟩) hC.1.1 rfl)
    have hand : g y &&& β (8 + y) < 128 := and_lt g2
    rw [nI_clamp (by omega), g1, hC.2 y (by omega), fa_and]
    refine c194 rfl hand ?_
    rw [g1]
    refine c30 rfl g2 g3 hn h3 hC ?_
    have er : bkr β g y = pcn (g y &&& β (8 + y)) + sm (fun j => if nrj (β 3) (g y) j then 0 else 1) (β 2) + sm (fun j => bkC β g y j) (β 2) := by
      unfold bkr
      rw [sm_add, sm_add, pcn_and g3]
      congr 2
      exact sm_ct (p := fun j => (β (8 + y)).testBit (cn (g y) j))
    rw [sm_s, er] at ih
    rw [nI_1]
    refine pk_le y 0 (fun q => ?_) (fun q => ?_)
    · have hy0 : y = 0 := by omega
      have e0 : sm (fun j => bkC β g y j) (β 2) = 0 := by
        have : sm (fun j => bkC β g y j) (β 2) = sm (fun _ => 0) (β 2) := sm_cong fun k _ => by unfold bkC; rw [if_pos hy0]
        rw [this]
        have := sm_le (f := fun _ => 0) (c := 0) (fun _ => Nat.le_refl _) (β 2)
        omega
      rw [e0, Nat.add_zero, ← Nat.add_assoc] at ih
      rw [nI_add, nI_add]
      exact ih
    · have ey : nI y - 1 = nI (y - 1) := pk_sub (b := 1) (by omega)
      obtain ⟨k1, k2, k3⟩ := hg (y - 1) (by omega)
      rw [ey, nI_clamp (by omega), k1, g1]
      refine ⟨pk_in (y - 1) 7 (by omega), c31 rfl rfl k2 g2 k3 g3 hn.2 h3 hC ?_⟩
      have e1 : sm (fun j => bkC β g y j) (β 2) = sm (fun j => if mtj (β 3) (g y) (g (y - 1)) j then 0 else 1) (β 2) := sm_cong fun k _ => by unfold bkC; rw [if_neg (by omega)]
      rw [e1, ← Nat.add_assoc, ← Nat.add_assoc] at ih
      rw [nI_add, nI_add, nI_add]
      exact ih
/-- suits -/
theorem c27 {r a0 a1 a2 : Nat} (hr : isY r) (hC : Cd β mi) (hβ : Wf β) (h1 : mi r 1 = nI a0) (h2 : mi r 2 = nI a1) (h3 : mi r 3 = nI a2) (ha0 : a0 < 8) (ha1 : a1 < 8) (ha2 : a2 < 8) (hy : (a0 = β 0 ∧ a1 = β 1 ∧ a2 = β 2) → F 1 mi ml) (hn : ¬ (a0 = β 0 ∧ a1 = β 1 ∧ a2 = β 2) → F 0 mi ml) : Sg 27 0 [some (.ref r), some (.ref 1)] [] mi ml (qi F) := by
  have hH := hβ.1
  have hW := hβ.2.1
  have hn2 := hβ.2.2.1
  refine rg27_0 hr (pk_ne a0 (β 0) (fun q => hn fun e => q e.1) (fun e0 => ?_) h1 hC.1.1)
  refine pk_ne a1 (β 1) (fun q => hn fun e => q e.2.1) (fun e1 => ?_) h2 hC.1.2.1
  exact pk_ne a2 (β 2) (fun q => hn fun e => q e.2.2) (fun e2 => hy ⟨e0, e1, e2⟩) h3 hC.1.2.2.1
/-- become -/
theorem c25 {F : Mi → Ml → Prop} {r w : Nat} (hr : isY r) (hw : isY w) (hrw : w ≠ r) (hrw1 : w ≠ r + 1) (hrw2 : w + 1 ≠ r) (hrw3 : w + 1 ≠ r + 1) (h01 : mi w 0 = 0 ∨ mi w 0 = 1)
    (h : ∀ mi', (∀ c, c ≠ r → c ≠ r + 1 → mi' c = mi c) → (mi' r 0 = mi w 0 ∧ mi' r 1 = mi w 1 ∧ mi' r 2 = mi w 2 ∧ mi' r 3 = mi w 3) → (∀ y, y < 7 → mi' (r + 1) y = mi (w + 1) y) → F mi' ml) : Sg 25 0 [some (.ref r), some (.ref w)] [] mi ml (qv F) := by
  refine rg25_0 hr hw ⟨h01, ?_⟩
  simp only [gm_upN hrw]
  have e7 : (Int32.toNatClampNeg 7) = 7 := by decide
  have e0 : (Int32.toNatClampNeg 0) = 0 := by decide
  rw [e7, e0, gm_upN hrw2, gm_upN (show r + 1 ≠ r by omega)]
  refine h _ (fun c h1 h2 => by rw [gm_upN h2, gm_upN h1]) ?_ (fun y hy => ?_)
  · rw [gm_upN (show r ≠ r + 1 by omega), gm_upS]
    exact ⟨by rw [gm_upN (by decide), gm_upN (by decide), gm_upN (by decide), gm_upS], by rw [gm_upN (by decide), gm_upN (by decide), gm_upS], by rw [gm_upN (by decide), gm_upS], by rw [gm_upS]⟩
  · rw [gm_upS, pk_cpy_in (Nat.zero_le y) (by omega), Nat.zero_add, Nat.sub_zero]
/-- isForm -/
theorem c108 {x : Int32} (hy : ∀ f, f ≤ 2 → x = nI f → F 1 mi ml) (hn : (∀ f, f ≤ 2 → x ≠ nI f) → F 0 mi ml) : Sg 108 0 [some (.int x)] [] mi ml (qi F) := by
  refine rg108_0 ⟨fun q => hy 0 (by decide) q, fun q0 => ⟨fun q => hy 1 (by decide) q, fun q1 => ⟨fun q2 => hn fun f hf e => ?_, fun q2 => hy 2 (by decide) (Decidable.not_not.mp q2)⟩⟩⟩
  rcases (by omega : f = 0 ∨ f = 1 ∨ f = 2) with r | r | r <;> subst r
  · exact q0 e
  · exact q1 e
  · exact q2 e
/-- found -/
theorem c104 {x : Int32} (h : F ((-10) - x) (va_up mi 0 (va_up (mi 0) 7 x)) ml) : Sg 104 0 [some (.ref 0), some (.int x)] [] mi ml (qi F) := rg104_0 h
theorem MRs : ∀ s, s < 6 → MR 25 s = some (27 + 2 * s) ∧ isY (27 + 2 * s) := by
  intro s hs
  rcases (by omega : s = 0 ∨ s = 1 ∨ s = 2 ∨ s = 3 ∨ s = 4 ∨ s = 5) with r | r | r | r | r | r <;> subst r <;> exact ⟨rfl, rfl, rfl, rfl⟩
theorem MRt : ∀ s, s < 4 → MR 26 s = some (39 + 2 * s) ∧ isS (39 + 2 * s) := by
  intro s hs
  rcases (by omega : s = 0 ∨ s = 1 ∨ s = 2 ∨ s = 3) with r | r | r | r <;> subst r <;> exact ⟨rfl, rfl, rfl, rfl⟩
/-- slotAt, sheetAt -/
theorem c105 {F : Option Nat → Mi → Ml → Prop} {x : Int32} (hy : ∀ s, s ≤ 5 → x = nI s → F (some (27 + 2 * s)) mi ml) (hn : (∀ s, s ≤ 5 → x ≠ nI s) → F none mi ml) : Sg 105 0 [some (.ref 0), some (.int x)] [] mi ml (qr F) := by
  refine rg105_0 ⟨fun q => hn fun s hs e => ?_, fun q => ?_⟩
  · rw [e] at q; exact nI_pos (by omega) q
  · obtain ⟨j, hj, rfl⟩ := nI_of q
    refine pk_le 6 j (fun q2 => hn fun s hs e => ?_) (fun q2 => ⟨pk_in j 6 q2, ?_⟩)
    · have := (nI_eq hj (by omega)).mp e
      omega
    · rw [nI_clamp (by omega), (MRs j q2).1]
      exact hy j (by omega) rfl
theorem c106 {F : Option Nat → Mi → Ml → Prop} {x : Int32} (hy : ∀ s, s ≤ 3 → x = nI s → F (some (39 + 2 * s)) mi ml) (hn : (∀ s, s ≤ 3 → x ≠ nI s) → F none mi ml) : Sg 106 0 [some (.ref 0), some (.int x)] [] mi ml (qr F) := by
  refine rg106_0 ⟨fun q => hn fun s hs e => ?_, fun q => ?_⟩
  · rw [e] at q; exact nI_pos (by omega) q
  · obtain ⟨j, hj, rfl⟩ := nI_of q
    refine pk_le 4 j (fun q2 => hn fun s hs e => ?_) (fun q2 => ⟨pk_in j 4 q2, ?_⟩)
    · have := (nI_eq hj (by omega)).mp e
      omega
    · rw [nI_clamp (by omega), (MRt j q2).1]
      exact hy j (by omega) rfl
/-- filledSlots -/
theorem c107 {full : Nat} (hf : ∀ s, s < 6 → mi (27 + 2 * s) 0 = bI (full.testBit s)) (h : F (nI (ct full 6)) mi ml) : Sg 107 0 [some (.ref 0), none, none] [] mi ml (qi F) := by
  refine rg107_0 ?_
  refine upP 6 (fun s => Sg 107 4 [some (.ref 0), some (.int (nI (ct full s))), some (.int (nI s))] [] mi ml (qi F)) ?_ ?_ 0 (by decide)
  · exact rg107_4 (pk_le 6 6 (fun _ => h) (fun q => by omega))
  · intro s hs ih
    refine rg107_4 (pk_le 6 s (fun q => by omega) (fun _ => ⟨pk_in s 6 hs, 27 + 2 * s, ?_, (MRs s hs).2, ?_⟩))
    · rw [nI_clamp (by omega)]; exact (MRs s hs).1
    · rw [hf s hs, nI_1, nI_1]
      rw [ct_succ] at ih
      refine bq (fun q => ?_) (fun q => ?_)
      · rw [q] at ih; exact ih
      · rw [q] at ih; exact ih
end C62
