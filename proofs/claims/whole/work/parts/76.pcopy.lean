/-! pairs: copy -/
section C76
variable {b : Nat} {mi : Mi} {ml : Ml} {F : Int32 → Mi → Ml → Prop}
/-- hasItems -/
theorem c68 {r z : Nat} {x v : Int32} (hr : isS r) (hz : mi r 2 = nI z) (hz6 : z ≤ 60) (hy : ∀ i n, i + n ≤ z → x = nI i → v = nI n → F 1 mi ml) (hn : (∀ i n, i + n ≤ z → x = nI i → v = nI n → False) → F 0 mi ml) : Sg 68 0 [some (.ref r), some (.int x), some (.int v)] [] mi ml (qi F) := by
  refine rg68_0 hr ⟨fun q => hn fun i n h1 e1 e2 => ?_, fun q => ?_⟩
  · rw [e1] at q; exact nI_pos (by omega) q
  · obtain ⟨i, hi, rfl⟩ := nI_of q
    refine ⟨fun q2 => hn fun i n h1 e1 e2 => ?_, fun q2 => ?_⟩
    · rw [e2] at q2; exact nI_pos (by omega) q2
    · obtain ⟨n, hn2, rfl⟩ := nI_of q2
      have no : z < i + n → F 0 mi ml := fun hlt => hn fun i' n' h1 e1 e2 => by
        have a1 := (nI_eq hi (by omega)).mp e1
        have a2 := (nI_eq hn2 (by omega)).mp e2
        omega
      refine pk_lt z i (fun r => no (by omega)) (fun r => ?_) hz rfl
      have es : mi (39 - 39 + 0) 0 = mi 0 0 := rfl
      clear es
      rw [hz, pk_sub r]
      exact pk_lt (z - i) n (fun r2 => no (by omega)) (fun r2 => hy i n (by omega) rfl rfl)
/-- the same of the model, in longs -/
theorem lcg {i n z : Nat} (hi : i < 2 ^ 31) (hn : n < 2 ^ 31) (hz : z < 2 ^ 31) : 0 < lg_cmp (Int32.toInt64 (nI i) + Int32.toInt64 (nI n)) (Int32.toInt64 (nI z)) ↔ z < i + n := by
  rw [lgG, nI_l hi, nI_l hn, nI_l hz, lN_add, pk_lLT (by omega) (by omega)]
theorem lcl {i n z : Nat} (hi : i < 2 ^ 31) (hn : n < 2 ^ 31) (hz : z < 2 ^ 31) : lg_cmp (Int32.toInt64 (nI i) + Int32.toInt64 (nI n)) (Int32.toInt64 (nI z)) ≤ 0 ↔ i + n ≤ z := by
  have h := lcg hi hn hz
  have e : lg_cmp (Int32.toInt64 (nI i) + Int32.toInt64 (nI n)) (Int32.toInt64 (nI z)) ≤ 0 ↔ ¬ 0 < lg_cmp (Int32.toInt64 (nI i) + Int32.toInt64 (nI n)) (Int32.toInt64 (nI z)) := by
    rw [fa_le, fa_lt]; omega
  rw [e, h]; omega
set_option maxHeartbeats 1000000 in
theorem p100 {x1 x2 x3 x4 x5 : Int32} (hR : Rel b mi ml) : Sg 100 0 [some (.ref 0), some (.int x1), some (.int x2), some (.int x3), some (.int x4), some (.int x5), none, none] [] mi ml (qi fun v m l => Sg 128 0 [some (.ref 47), some (.int x1), some (.int x2), some (.int x3), some (.int x4), some (.int x5), none] [] m l (qi (eqR b v))) := by
  obtain ⟨β, lp, q, fu, sd, sq, h⟩ := hR
  have fin : Rel b mi ml := ⟨β, lp, q, fu, sd, sq, h⟩
  have n0 : ∀ k, k ≤ 2 → ¬ nI k < 0 := fun k hk => nI_pos (by omega)
  by_cases hcs : ∃ s, s ≤ 3 ∧ x1 = nI s
  · obtain ⟨s, hs, rfl⟩ := hcs
    by_cases hct : ∃ t, t ≤ 3 ∧ x3 = nI t
    · obtain ⟨t, ht, rfl⟩ := hct
      obtain ⟨hfs, zs, hzs, a1, a2, a3⟩ := h.2.2.1 s (by omega)
      obtain ⟨hft, zt, hzt, b1, b2, b3⟩ := h.2.2.1 t (by omega)
      have hSs := (MRt s (by omega)).2
      have hSt := (MRt t (by omega)).2
      refine rg100_0 (c106 (fun s' hs' e => ?_) (fun hno => absurd rfl (hno s hs)))
      have es : s' = s := ((nI_eq (by omega) (by omega)).mp e).symm
      subst es
      refine c106 (fun t' ht' e => ?_) (fun hno => absurd rfl (hno t ht))
      have et : t' = t := ((nI_eq (by omega) (by omega)).mp e).symm
      subst et
      refine ⟨fun r => (by cases r), fun r hr => ?_⟩
      cases hr
      refine ⟨hSs, fun r => (by cases r), fun r hr => ?_⟩
      cases hr
      refine ⟨hSt, ?_⟩
      -- the model behind its first tests
      have head : ∀ (m : Mi) (A : Int32), (∀ c, c = 48 ∨ c = 49 → m c = mi c) → (((mi 48 s') < 0) → eqR b A ((-10) - 1) (va_up m 47 (va_up (m 47) 4 1)) ml) → (¬ ((mi 48 s') < 0) → ((mi 48 t') < 0 → eqR b A ((-10) - 1) (va_up m 47 (va_up (m 47) 4 1)) ml) ∧ (¬ ((mi 48 t') < 0) → (¬ (mi 48 s' = mi 48 t') → eqR b A ((-10) - 4) (va_up m 47 (va_up (m 47) 4 4)) ml) ∧ ((mi 48 s' = mi 48 t') → ((∀ i j n, i + n ≤ zs → j + n ≤ zt → x2 = nI i → x4 = nI j → x5 = nI n → False) → eqR b A ((-10) - 2) (va_up m 47 (va_up (m 47) 4 2)) ml) ∧ (∀ i j n, i + n ≤ zs → j + n ≤ zt → x2 = nI i → x4 = nI j → x5 = nI n → Sg 128 120 [some (.ref 47), some (.int (nI s')), some (.int x2), some (.int (nI t')), some (.int x4), some (.int x5), some (.int 0)] [] m ml (qi (eqR b A)))))) → Sg 128 0 [some (.ref 47), some (.int (nI s')), some (.int x2), some (.int (nI t')), some (.int x4), some (.int x5), none] [] m ml (qi (eqR b A)) := by
        intro m A e g1 g2
        refine rg128_0 (c121 (fun _ _ _ => ⟨fun r => absurd r (by decide), fun _ => ?_⟩) (fun hno => absurd rfl (hno s' hs)))
        refine c121 (fun _ _ _ => ⟨fun _ => ⟨pk_in s' 4 (by omega), ?_⟩, fun r => absurd (by decide) r⟩) (fun hno => absurd rfl (hno t' ht))
        rw [nI_clamp (by omega), nI_clamp (by omega), e 48 (Or.inl rfl), e 49 (Or.inr rfl), a2, b2]
        refine ⟨fun r => rg128_35 (c120 (g1 r)), fun r => ⟨pk_in t' 4 (by omega), ?_⟩⟩
        have g3 := g2 r
        refine ⟨fun r2 => ⟨fun r3 => ?_, fun r3 => c120 ((g3.2 (fun w => by rw [fa_lt] at w; rw [fa_le] at r2; omega)).1 r3)⟩, fun r2 => rg128_35 (c120 (g3.1 (by rw [fa_le] at r2; rw [fa_lt]; omega)))⟩
        have g4 := (g3.2 (fun w => by rw [fa_lt] at w; rw [fa_le] at r2; omega)).2 r3
        have bad : (∀ i j n, i + n ≤ zs → j + n ≤ zt → x2 = nI i → x4 = nI j → x5 = nI n → False) → Sg 128 111 [some (.ref 47), some (.int (nI s')), some (.int x2), some (.int (nI t')), some (.int x4), some (.int x5), none] [] m ml (qi (eqR b A)) := fun w => rg128_111 (c120 (g4.1 w))
        refine ⟨fun q2 => bad fun i j n _ _ e1 _ _ => ?_, fun q2 => ⟨fun q4 => bad fun i j n _ _ _ e2 _ => ?_, fun q4 => ⟨fun q5 => bad fun i j n _ _ _ _ e3 => ?_, fun q5 => ?_⟩⟩⟩
        · rw [e1] at q2; exact nI_pos (by omega) q2
        · rw [e2] at q4; exact nI_pos (by omega) q4
        · rw [e3] at q5; exact nI_pos (by omega) q5
        · obtain ⟨i, hi, rfl⟩ := nI_of q2
          obtain ⟨j, hj, rfl⟩ := nI_of q4
          obtain ⟨n, hn, rfl⟩ := nI_of q5
          rw [lcg hi hn (by omega), lcl hj hn (by omega)]
          have bad2 : ¬ (i + n ≤ zs ∧ j + n ≤ zt) → Sg 128 111 [some (.ref 47), some (.int (nI s')), some (.int (nI i)), some (.int (nI t')), some (.int (nI j)), some (.int (nI n)), none] [] m ml (qi (eqR b A)) := fun w => bad fun i' j' n' w1 w2 e1 e2 e3 => w (by
            have c1 := (nI_eq hi (by omega)).mp e1
            have c2 := (nI_eq hj (by omega)).mp e2
            have c3 := (nI_eq hn (by omega)).mp e3
            omega)
          exact ⟨fun w => bad2 (by omega), fun w => ⟨fun w2 => g4.2 i j n (by omega) w2 rfl rfl rfl, fun w2 => bad2 (by omega)⟩⟩
      have neg1 : (-1 : Int32) < 0 := by decide
      rcases hfs with ⟨l1, l2⟩ | ⟨l1, f, hf, l2, l3⟩
      · rw [l1]
        refine ⟨fun _ => rg100_43 hSs hSt (c104 (head _ _ (fun c hc => gm_upN (by omega)) (fun _ => ⟨rfl, β, lp, q, fu, sd, sq, h.fnd⟩) (fun r => absurd (by rw [l2]; exact neg1) r))), fun r => absurd (by decide) r⟩
      · rw [l1]
        refine ⟨fun r => absurd rfl r, fun _ => ?_⟩
        rcases hft with ⟨k1, k2⟩ | ⟨k1, f', hf', k2, k3⟩
        · rw [k1]
          refine ⟨fun r => absurd r (by decide), fun _ => rg100_43 hSs hSt (c104 (head _ _ (fun c hc => gm_upN (by omega)) (fun r => absurd r (by rw [l3]; exact n0 f hf)) (fun _ => ⟨fun _ => ⟨rfl, β, lp, q, fu, sd, sq, h.fnd⟩, fun r => absurd (by rw [k2]; exact neg1) r⟩)))⟩
        · rw [k1, l2, k2]
          refine ⟨fun _ => pk_eq f f' (fun eff => ?_) (fun eff => ?_), fun r => absurd rfl r⟩
          · subst eff
            have bad : (∀ i j n, i + n ≤ zs → j + n ≤ zt → x2 = nI i → x4 = nI j → x5 = nI n → False) → Sg 100 91 [some (.ref 0), some (.int (nI s')), some (.int x2), some (.int (nI t')), some (.int x4), some (.int x5), some (.ref (39 + 2 * s')), some (.ref (39 + 2 * t'))] [] mi ml (qi fun v m l => Sg 128 0 [some (.ref 47), some (.int (nI s')), some (.int x2), some (.int (nI t')), some (.int x4), some (.int x5), none] [] m l (qi (eqR b v))) := fun w => rg100_91 hSs hSt (c104 (head _ _ (fun c hc => gm_upN (by omega)) (fun r => absurd r (by rw [l3]; exact n0 f hf)) (fun _ => ⟨fun r => absurd r (by rw [k3]; exact n0 f hf), fun _ => ⟨fun r => absurd (l3.trans k3.symm) r, fun _ => ⟨fun _ => ⟨rfl, β, lp, q, fu, sd, sq, h.fnd⟩, fun i j n w1 w2 e1 e2 e3 => absurd (w i j n w1 w2 e1 e2 e3) not_false⟩⟩⟩)))
            refine c68 hSs a1 hzs (fun i n hin e1 e3 => ⟨fun r => absurd r (by decide), fun _ => ?_⟩) (fun hno => ⟨fun _ => bad fun i j n w1 _ e1 _ e3 => hno i n w1 e1 e3, fun r => absurd rfl r⟩)
            refine c68 hSt b1 hzt (fun j n' hjn e2 e3' => ⟨fun _ => ?_, fun r => absurd (by decide) r⟩) (fun hno => ⟨fun r => absurd rfl r, fun _ => bad fun i j n _ w2 _ e2 e3 => hno j n w2 e2 e3⟩)
            have enn : n' = n := ((nI_eq (by omega) (by omega)).mp (e3.symm.trans e3')).symm
            subst enn
            subst e1 e2 e3
            rw [nI_clamp (by omega), nI_clamp (by omega), nI_clamp (by omega)]
            refine ⟨nI_pos (by omega), nI_pos (by omega), nI_pos (by omega), by omega, by omega, ?_⟩
            obtain ⟨m1, hm1⟩ : ∃ m1, m1 = va_up mi (39 + 2 * t' + 1) (va_cpy (mi (39 + 2 * s' + 1)) (mi (39 + 2 * t' + 1)) i j n') := ⟨_, rfl⟩
            rw [← hm1]
            have e1 : ∀ c, c ≠ 39 + 2 * t' + 1 → m1 c = mi c := fun c hc => by rw [hm1, gm_upN hc]
            refine head m1 1 (fun c hc => e1 c (by omega)) (fun r => absurd r (by rw [l3]; exact n0 f hf)) (fun _ => ⟨fun r => absurd r (by rw [k3]; exact n0 f hf), fun _ => ⟨fun r => absurd (l3.trans k3.symm) r, fun _ => ⟨fun w => absurd (w i j n' hin hjn rfl rfl rfl) not_false, fun _ _ _ _ _ _ _ _ => ?_⟩⟩⟩)
            have es60 : (60 : Int32) * nI s' = nI (60 * s') := pk_mul 60 s'
            have et60 : (60 : Int32) * nI t' = nI (60 * t') := pk_mul 60 t'
            have key := upI n' (fun a (m2 : Mi) => fr [51] m1 m2 ∧ ∀ c, c < a → m2 51 c = mi 50 (60 * s' + (i + c))) (fun a m2 => Sg 128 120 [some (.ref 47), some (.int (nI s')), some (.int (nI i)), some (.int (nI t')), some (.int (nI j)), some (.int (nI n')), some (.int (nI a))] [] m2 ml (qi (eqR b (1 : Int32)))) ?_ ?_
            · exact key 0 m1 (Nat.zero_le _) ⟨fr.rf, fun c hc => by omega⟩
            · rintro m2 ⟨f2, g2⟩
              refine rg128_120 (pk_le n' n' (fun _ => ?_) (fun r => by omega))
              have key2 := upI n' (fun a (m3 : Mi) => fr [50] m2 m3 ∧ (∀ c, c < a → m3 50 (60 * t' + (j + c)) = mi 50 (60 * s' + (i + c))) ∧ ∀ k, (k < 60 * t' + j ∨ 60 * t' + (j + a) ≤ k) → m3 50 k = mi 50 k) (fun a m3 => Sg 128 157 [some (.ref 47), some (.int (nI s')), some (.int (nI i)), some (.int (nI t')), some (.int (nI j)), some (.int (nI n')), some (.int (nI a))] [] m3 ml (qi (eqR b (1 : Int32)))) ?_ ?_
              · exact key2 0 m2 (Nat.zero_le _) ⟨fr.rf, fun c hc => by omega, fun k _ => by rw [f2 50 (by decide), e1 50 (by omega)]⟩
              · rintro m3 ⟨f3, g3, o3⟩
                refine rg128_157 (pk_le n' n' (fun _ => ⟨rfl, β, lp, q, fu, sd, sq, h.xi (fun c c1 c2 c3 c4 c5 => ?_) (h.2.2.1.one (s := t') (fun c c1 c2 c3 c4 => ?_) (fun w hw => ?_) (fun w hw => ?_) (fun k hk => ?_) ⟨Or.inr ⟨?_, f, hf, ?_, ?_⟩, zt, hzt, ?_, ?_, fun k hk => ?_⟩)⟩) (fun r => by omega))
                · rw [f3 c (by simp [c4]), f2 c (by simp [c5]), e1 c (by omega)]
                · rw [f3 c (by simp; omega), f2 c (by simp; omega), e1 c c2]
                · rw [f3 48 (by decide), f2 48 (by decide), e1 48 (by omega)]
                · rw [f3 49 (by decide), f2 49 (by decide), e1 49 (by omega)]
                · exact o3 k (by omega)
                · rw [f3 _ (by simp; omega), f2 _ (by simp; omega), e1 _ (by omega)]; exact k1
                · rw [f3 _ (by simp; omega), f2 _ (by simp; omega), e1 _ (by omega)]; exact k2
                · rw [f3 48 (by decide), f2 48 (by decide), e1 48 (by omega)]; exact k3
                · rw [f3 _ (by simp; omega), f2 _ (by simp; omega), e1 _ (by omega)]; exact b1
                · rw [f3 49 (by decide), f2 49 (by decide), e1 49 (by omega)]; exact b2
                · rw [f3 _ (by simp; omega), f2 _ (by simp; omega), hm1, gm_upS]
                  by_cases hkj : j ≤ k ∧ k < j + n'
                  · rw [pk_cpy_in hkj.1 hkj.2, a3 _ (by omega)]
                    have := g3 (k - j) (by omega)
                    rw [show j + (k - j) = k by omega] at this
                    exact this.symm
                  · rw [pk_cpy_out (by omega), o3 _ (by omega)]
                    exact b3 k hk
              · rintro a m3 ha ⟨f3, g3, o3⟩ ih
                refine rg128_157 (pk_le n' a (fun r => by omega) (fun _ => ⟨pk_in a 60 (by omega), ?_⟩))
                rw [et60, nI_add, nI_add, nI_1, nI_clamp (by omega), nI_clamp (by omega), f3 51 (by decide), g2 a ha]
                refine ⟨pk_in (60 * t' + j + a) 240 (by omega), ih _ ⟨f3.up (by decide), fun c hc => ?_, fun k hk => ?_⟩⟩
                · rw [gm_upS]
                  by_cases hca : c = a
                  · subst hca
                    rw [Nat.add_assoc, gm_upS]
                  · rw [gm_upN (by omega)]; exact g3 c (by omega)
                · rw [gm_upS, gm_upN (by omega)]; exact o3 k (by omega)
            · rintro a m2 ha ⟨f2, g2⟩ ih
              refine rg128_120 (pk_le n' a (fun r => by omega) (fun _ => ?_))
              rw [es60, nI_add, nI_add, nI_1, nI_clamp (by omega), nI_clamp (by omega), f2 50 (by decide), e1 50 (by omega)]
              refine ⟨pk_in (60 * s' + i + a) 240 (by omega), pk_in a 60 (by omega), ih _ ⟨f2.up (by decide), fun c hc => ?_⟩⟩
              rw [gm_upS]
              by_cases hca : c = a
              · subst hca
                rw [gm_upS, Nat.add_assoc]
              · rw [gm_upN hca]; exact g2 c (by omega)
          · exact c104 (head _ _ (fun c hc => gm_upN (by omega)) (fun r => absurd r (by rw [l3]; exact n0 f hf)) (fun _ => ⟨fun r => absurd r (by rw [k3]; exact n0 f' hf'), fun _ => ⟨fun _ => ⟨rfl, β, lp, q, fu, sd, sq, h.fnd⟩, fun r => absurd ((nI_eq (by omega) (by omega)).mp (l3.symm.trans (r.trans k3))) eff⟩⟩))
    · have no : Sg 128 0 [some (.ref 47), some (.int (nI s)), some (.int x2), some (.int x3), some (.int x4), some (.int x5), none] [] mi ml (qi (eqR b (-2 : Int32))) := by
        refine rg128_0 (c121 (fun _ _ _ => ⟨fun r => absurd r (by decide), fun _ => ?_⟩) (fun hno => absurd rfl (hno s hs)))
        exact c121 (fun t ht e => absurd ⟨t, ht, e⟩ hct) (fun _ => ⟨fun r => absurd rfl r, fun _ => ⟨rfl, fin⟩⟩)
      refine rg100_0 (c106 (fun s' hs' e => ?_) (fun hno => absurd rfl (hno s hs)))
      have es : s' = s := ((nI_eq (by omega) (by omega)).mp e).symm
      subst es
      refine c106 (fun t ht e => absurd ⟨t, ht, e⟩ hct) (fun _ => ⟨fun r => (by cases r), fun r hr => ?_⟩)
      cases hr
      exact ⟨(MRt s' (by omega)).2, fun _ => no, fun r hr => (by cases hr)⟩
  · have no : Sg 128 0 [some (.ref 47), some (.int x1), some (.int x2), some (.int x3), some (.int x4), some (.int x5), none] [] mi ml (qi (eqR b (-2 : Int32))) :=
      rg128_0 (c121 (fun s hs e => absurd ⟨s, hs, e⟩ hcs) (fun _ => ⟨fun _ => ⟨rfl, fin⟩, fun r => absurd rfl r⟩))
    refine rg100_0 (c106 (fun t ht e => absurd ⟨t, ht, e⟩ hcs) (fun _ => ?_))
    refine c106 (fun t ht e => ⟨fun _ => no, fun r hr => (by cases hr)⟩) (fun _ => ⟨fun _ => no, fun r hr => (by cases hr)⟩)
end C76
