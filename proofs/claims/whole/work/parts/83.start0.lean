/-! the heap behind the constructors -/
theorem gcR_out : ∀ {t : List (Nat × Nat × Nat)}, (t.all fun e => Nat.blt e.1 70 && Nat.blt e.2.1 40) = true → ∀ r k, (70 ≤ r ∨ 40 ≤ k) → gcR t r k = none
  | [], _, _, _, _ => rfl
  | e :: t, h, r, k, hrk => by
    rw [List.all_cons, Bool.and_eq_true, Bool.and_eq_true] at h
    have h1 : e.1 < 70 := Nat.le_of_ble_eq_true h.1.1
    have h2 : e.2.1 < 40 := Nat.le_of_ble_eq_true h.1.2
    have ih := gcR_out h.2 r k hrk
    rw [gcR]
    by_cases hr : r = e.1
    · subst hr
      rw [gm_upS, gm_upN (by omega)]; exact ih
    · rw [gm_upN hr]; exact ih
theorem MR_out (r k : Nat) (h : 70 ≤ r ∨ 40 ≤ k) : MR r k = none := by
  unfold MR
  split <;> first | rfl | (split <;> first | rfl | omega)
theorem MR_in : ∀ r, r < 70 → ∀ k, k < 40 → gcR tR0 r k = MR r k := by decide +kernel
theorem tR_MR : gcR tR0 = MR := by
  funext r k
  by_cases h : r < 70 ∧ k < 40
  · exact MR_in r h.1 k h.2
  · rw [gcR_out (by decide) r k (by omega), MR_out r k (by omega)]
theorem SH_all : SH.take 70 = SH := rfl
/-- the board at the start -/
def b0 : Bd := fun k => if k = 0 then 5 else if k = 1 then 6 else if k = 2 then 4 else if k = 3 then 1 else if k = 4 then 4 else 0
theorem b0_8 (y : Nat) : b0 (8 + y) = 0 := by
  unfold b0
  rw [if_neg (by omega), if_neg (by omega), if_neg (by omega), if_neg (by omega), if_neg (by omega)]
def mi0 : Mi := gcI tI0
theorem z2_0 : ∀ y, y < 7 → mi0 2 y = 0 := by decide +kernel
theorem z24_0 : ∀ y, y < 7 → mi0 24 y = 0 := by decide +kernel
theorem z52_0 : ∀ y, y < 7 → mi0 52 y = 0 := by decide +kernel
theorem z53_0 : ∀ y, y < 7 → mi0 53 y = 0 := by decide +kernel
theorem zs_0 : ∀ s, s < 6 → (mi0 (27 + 2 * s) 0 = 0 ∧ mi0 (27 + 2 * s) 1 = 0 ∧ mi0 (27 + 2 * s) 2 = 0 ∧ mi0 (27 + 2 * s) 3 = 0 ∧ ∀ y, y < 7 → mi0 (27 + 2 * s + 1) y = 0) ∧ mi0 67 s = 0 ∧ mi0 68 s = 0 ∧ mi0 69 s = 0 ∧ ∀ y, y < 7 → mi0 66 (7 * s + y) = 0 := by decide +kernel
theorem zt_0 : ∀ s, s < 4 → mi0 (39 + 2 * s) 0 = 1 ∧ mi0 48 s = -1 ∧ mi0 (39 + 2 * s) 2 = 0 ∧ mi0 49 s = 0 := by decide +kernel
theorem zm_0 : (mi0 1 0 = 5 ∧ mi0 1 1 = 6 ∧ mi0 1 2 = 4 ∧ mi0 1 3 = 1 ∧ mi0 1 4 = 4 ∧ mi0 1 5 = 1) ∧ (mi0 3 12 = 0 ∧ mi0 3 13 = 0 ∧ mi0 18 6 = 0 ∧ mi0 4 4 = 0 ∧ mi0 9 4 = 0 ∧ mi0 23 0 = 0) ∧ (mi0 47 5 = 5 ∧ mi0 47 6 = 6 ∧ mi0 47 7 = 4 ∧ mi0 47 8 = 1 ∧ mi0 47 9 = 4 ∧ mi0 47 11 = 0 ∧ mi0 47 28 = 0) ∧ mi0 0 6 = 0 ∧ mi0 47 13 = 0 ∧ mi0 0 7 = 0 ∧ mi0 47 4 = 0 := by decide +kernel
theorem rel0 : Rel 1 mi0 zL := by
  obtain ⟨⟨a0, a1, a2, a3, a4, a5⟩, ⟨c1, c2, c3, c4, c5, c6⟩, ⟨d5, d6, d7, d8, d9, d11, d28⟩, e1, e2, e3, e4⟩ := zm_0
  have hw : Wf b0 := ⟨by decide, by decide, by decide, by decide, fun y _ => by rw [b0_8]; decide⟩
  have n01 : ¬ (0 : Int32) = 1 := by decide
  refine ⟨b0, false, fun _ => 0, 0, fun _ _ => 0, fun _ _ => 0, ⟨⟨⟨hw, by decide, fun _ _ => (show 0 < 128 by decide), fun h => (by cases h), by decide, fun s _ => ⟨⟨show 0 < 8 by decide, show 0 < 8 by decide, show 0 < 8 by decide⟩, fun _ _ => (show 0 < 128 by decide), fun h => ?_⟩⟩, ⟨hw, by decide, ⟨⟨a0, a1, a2, a3, a4⟩, fun y hy => ?_⟩, ⟨1, Nat.le_refl 1, a5, ⟨0, by decide, c1⟩, ⟨0, by decide, c2⟩, ⟨0, by decide, c3⟩⟩, ⟨fun h => ?_, fun h => ?_, fun h => ?_⟩, Or.inl c4, Or.inl c5⟩, ⟨c6, fun y hy => ?_, fun h => (by cases h)⟩, fun s hs => ?_⟩, ⟨⟨⟨d5, d6, d7, d8, d9⟩, fun y hy => ?_⟩, ⟨d11, fun y hy => ?_⟩, d28, fun s hs => ?_⟩, fun s hs => ?_, e1.trans e2.symm, e3.trans e4.symm⟩⟩
  · rw [Nat.zero_testBit] at h; cases h
  · rw [b0_8]; exact z2_0 y hy
  · rw [c1, a5] at h; exact absurd h n01
  · rw [c2, a5] at h; exact absurd h n01
  · rw [c3, a5] at h; exact absurd h n01
  · exact z24_0 y hy
  · obtain ⟨⟨h0, h1, h2, h3, h4⟩, _⟩ := zs_0 s hs
    rw [Nat.zero_testBit]
    exact ⟨h0, ⟨h1, h2, h3⟩, h4⟩
  · rw [b0_8]; exact z52_0 y hy
  · exact z53_0 y hy
  · obtain ⟨_, h1, h2, h3, h4⟩ := zs_0 s hs
    exact ⟨⟨h1, h2, h3⟩, h4⟩
  · obtain ⟨h0, h1, h2, h3⟩ := zt_0 s hs
    exact ⟨Or.inl ⟨h0, h1⟩, 0, by decide, h2, h3, fun i hi => by omega⟩
