/-! pairs: lay, get, write, copy -/
section C75
variable {b : Nat} {mi : Mi} {ml : Ml}
theorem p98 {x y z w : Int32} (hR : Rel b mi ml) : Sg 98 0 [some (.ref 0), some (.int x), some (.int y), some (.int z), some (.int w), none, none] [] mi ml (qi fun v m l => Sg 126 0 [some (.ref 47), some (.int x), some (.int y), some (.int z), some (.int w), none] [] m l (qi (eqR b v))) := by
  obtain ⟨β, lp, q, fu, sd, sq, h⟩ := hR
  have fin : Rel b mi ml := ⟨β, lp, q, fu, sd, sq, h⟩
  by_cases hcs : ∃ s, s ≤ 3 ∧ x = nI s
  · obtain ⟨s, hs, rfl⟩ := hcs
    obtain ⟨hform, sz, hz, z1, z2, z3⟩ := h.2.2.1 s (by omega)
    by_cases hcf : ∃ f, f ≤ 2 ∧ y = nI f
    · obtain ⟨f, hf, rfl⟩ := hcf
      refine rg98_0 (c106 (fun t ht e => ?_) (fun hno => absurd rfl (hno s hs)))
      have et : t = s := ((nI_eq (by omega) (by omega)).mp e).symm
      subst et
      refine ⟨fun r => (by cases r), fun r hr => ?_⟩
      cases hr
      have hS := (MRt t (by omega)).2
      refine ⟨hS, c108 (fun _ _ _ => ⟨fun _ => ?_, fun r => absurd (by decide) r⟩) (fun hno => absurd rfl (hno f hf))⟩
      have head : ∀ (m : Mi) (A : Int32), Sg 124 0 [some (.ref 47), some (.int (nI t)), some (.int (nI f)), some (.int z)] [] m ml (qi fun y7 mi8 ml9 => ((y7 = 0) → Sg 125 0 [some (.int (nI f)), some (.int w)] [] mi8 ml9 (qi fun y10 mi11 ml12 => (vp_in ((60 * nI t) + z) 240) ∧ (eqR b A 1 (va_up mi11 50 (va_up (mi11 50) (Int32.toNatClampNeg ((60 * nI t) + z)) y10)) ml12))) ∧ (¬ (y7 = 0) → eqR b A y7 mi8 ml9)) → Sg 126 0 [some (.ref 47), some (.int (nI t)), some (.int (nI f)), some (.int z), some (.int w), none] [] m ml (qi (eqR b A)) := fun m A g => by
        refine rg126_0 (c121 (fun _ _ _ => ⟨fun r => absurd r (by decide), fun _ => ?_⟩) (fun hno => absurd rfl (hno t hs)))
        exact c114c 0 2 (fun _ _ _ _ => ⟨fun _ => g, fun r => absurd (by decide) r⟩) (fun hno => absurd rfl (hno f (Nat.zero_le _) hf))
      obtain ⟨fs, hfs⟩ : ∃ fs, (mi (39 + 2 * t) 0 = 1 ∧ mi 48 t = -1) ∨ (mi (39 + 2 * t) 0 = 0 ∧ fs ≤ 2 ∧ mi (39 + 2 * t) 1 = nI fs ∧ mi 48 t = nI fs) := by
        rcases hform with r | ⟨r1, fs, r2, r3, r4⟩
        · exact ⟨0, Or.inl r⟩
        · exact ⟨fs, Or.inr ⟨r1, r2, r3, r4⟩⟩
      have hl : mi (39 + 2 * t) 0 = 1 ∨ mi (39 + 2 * t) 0 = 0 := by rcases hfs with r | r; exact Or.inl r.1; exact Or.inr r.1
      have hl0 : mi (39 + 2 * t) 0 = 0 → fs ≤ 2 ∧ mi (39 + 2 * t) 1 = nI fs ∧ mi 48 t = nI fs := fun r0 => by
        rcases hfs with r | r
        · rw [r.1] at r0; exact absurd r0 (by decide)
        · exact r.2
      have hl1 : mi (39 + 2 * t) 0 = 1 → mi 48 t = -1 := fun r0 => by
        rcases hfs with r | r
        · exact r.2
        · rw [r.1] at r0; exact absurd r0 (by decide)
      have n1 : ∀ k, k ≤ 2 → ¬ nI k = -1 := fun k hk r => by
        have h0 : ¬ nI k < 0 := nI_pos (by omega)
        rw [r] at h0; exact h0 (by decide)
      refine c67 (f := fs) hS hl z1 hz (fun r => (hl0 r).2.1) (fun r => ?_) (fun r rx => ?_) (fun r rx rv => ?_) (fun r rx i hi ei => ?_)
      · refine ⟨fun r => absurd r (by decide), fun _ => c104 (head _ _ (n124 (f := 0) (z := sz) rfl (by omega) (Or.inl ?_) ?_ hz (fun _ => ⟨fun r => absurd r (by decide), fun _ => ⟨rfl, β, lp, q, fu, sd, sq, h.fnd⟩⟩) (fun r2 => ?_) (fun r2 => ?_) (fun r2 => ?_)))⟩
        · rw [gm_upN (by decide)]; exact hl1 r
        · rw [gm_upN (by decide)]; exact z2
        · rw [gm_upN (by decide), hl1 r] at r2; exact absurd r2 (by decide)
        · rw [gm_upN (by decide), hl1 r] at r2; exact absurd r2 (by decide)
        · rw [gm_upN (by decide), hl1 r] at r2; exact absurd r2 (by decide)
      · refine ⟨fun r => absurd r (by decide), fun _ => c104 (head _ _ (n124 (f := fs) (z := sz) rfl (by omega) (Or.inr ⟨?_, (hl0 r).1⟩) ?_ hz (fun r2 => ?_) (fun _ _ => ⟨fun r => absurd r (by decide), fun _ => ⟨rfl, β, lp, q, fu, sd, sq, h.fnd⟩⟩) (fun _ r2 => absurd r2 rx) (fun _ r2 => absurd r2 rx)))⟩
        · rw [gm_upN (by decide)]; exact (hl0 r).2.2
        · rw [gm_upN (by decide)]; exact z2
        · rw [gm_upN (by decide), (hl0 r).2.2] at r2; exact absurd r2 (n1 fs (hl0 r).1)
      · refine ⟨fun r => absurd r (by decide), fun _ => c104 (head _ _ (n124 (f := fs) (z := sz) rfl (by omega) (Or.inr ⟨?_, (hl0 r).1⟩) ?_ hz (fun r2 => ?_) (fun _ r2 => absurd rx r2) (fun _ _ _ => ⟨fun r => absurd r (by decide), fun _ => ⟨rfl, β, lp, q, fu, sd, sq, h.fnd⟩⟩) (fun _ _ i hi ei => absurd ei (rv i hi))))⟩
        · rw [gm_upN (by decide)]; exact (hl0 r).2.2
        · rw [gm_upN (by decide)]; exact z2
        · rw [gm_upN (by decide), (hl0 r).2.2] at r2; exact absurd r2 (n1 fs (hl0 r).1)
      · have efs : fs = f := ((nI_eq (by omega) (by have := (hl0 r).1; omega)).mp rx).symm
        subst efs
        subst ei
        refine ⟨fun _ => c69 hS rfl (by omega) (hl0 r).2.1 hf ?_, fun r => absurd rfl r⟩
        obtain ⟨m1, hm1⟩ : ∃ m1, m1 = va_up mi (39 + 2 * t + 1) (va_up (mi (39 + 2 * t + 1)) i (cutv fs w)) := ⟨_, rfl⟩
        rw [← hm1]
        have f1 : ∀ c, c ≠ 39 + 2 * t + 1 → m1 c = mi c := fun c c1 => by rw [hm1, gm_upN c1]
        refine head _ _ (n124 (f := fs) (z := sz) rfl (by omega) (Or.inr ⟨by rw [f1 48 (by omega)]; exact (hl0 r).2.2, hf⟩) (by rw [f1 49 (by omega)]; exact z2) hz (fun r2 => ?_) (fun _ r2 => absurd rfl r2) (fun _ _ r2 => absurd rfl (r2 i hi)) (fun _ _ j hj ej => ⟨fun _ => n125 rfl hf ?_, fun r => absurd rfl r⟩))
        · rw [f1 48 (by omega), (hl0 r).2.2] at r2; exact absurd r2 (n1 fs hf)
        · have e60 : (60 : Int32) * nI t = nI (60 * t) := pk_mul 60 t
          rw [e60, nI_add, nI_clamp (by omega)]
          refine ⟨pk_in (60 * t + i) 240 (by omega), rfl, β, lp, q, fu, sd, sq, h.xi (fun c c1 c2 c3 c4 c5 => ?_) (h.2.2.1.one (s := t) (fun c c1 c2 c3 c4 => ?_) (fun w hw => ?_) (fun w hw => ?_) (fun k hk => ?_) ⟨Or.inr ⟨?_, fs, hf, ?_, ?_⟩, sz, hz, ?_, ?_, fun j hj => ?_⟩)⟩
          · rw [gm_upN c4, f1 c (by omega)]
          · rw [gm_upN (by omega), f1 c c2]
          · rw [gm_upN (by decide), f1 48 (by omega)]
          · rw [gm_upN (by decide), f1 49 (by omega)]
          · rw [gm_upS, gm_upN (by omega), f1 50 (by omega)]
          · rw [gm_upN (by omega), f1 _ (by omega)]; exact r
          · rw [gm_upN (by omega), f1 _ (by omega)]; exact (hl0 r).2.1
          · rw [gm_upN (by decide), f1 48 (by omega)]; exact (hl0 r).2.2
          · rw [gm_upN (by omega), f1 _ (by omega)]; exact z1
          · rw [gm_upN (by decide), f1 49 (by omega)]; exact z2
          · rw [gm_upN (by omega), gm_upS, hm1, gm_upS]
            by_cases hji : j = i
            · subst hji; rw [gm_upS, gm_upS]
            · rw [gm_upN hji, gm_upN (by omega), gm_upN (by omega)]; exact z3 j hj
    · refine rg98_0 (c106 (fun t ht e => ?_) (fun hno => absurd rfl (hno s hs)))
      have et : t = s := ((nI_eq (by omega) (by omega)).mp e).symm
      subst et
      refine ⟨fun r => (by cases r), fun r hr => ?_⟩
      cases hr
      refine ⟨(MRt t (by omega)).2, c108 (fun f hf e => absurd ⟨f, hf, e⟩ hcf) (fun _ => ⟨fun r => absurd rfl r, fun _ => ?_⟩)⟩
      refine rg126_0 (c121 (fun _ _ _ => ⟨fun r => absurd r (by decide), fun _ => ?_⟩) (fun hno => absurd rfl (hno t hs)))
      exact c114c 0 2 (fun f _ hf e => absurd ⟨f, hf, e⟩ hcf) (fun _ => ⟨fun r => absurd rfl r, fun _ => ⟨rfl, fin⟩⟩)
  · exact rg98_0 (c106 (fun t ht e => absurd ⟨t, ht, e⟩ hcs) (fun _ => ⟨fun _ => rg126_0 (c121 (fun s hs e => absurd ⟨s, hs, e⟩ hcs) (fun _ => ⟨fun _ => ⟨rfl, fin⟩, fun r => absurd rfl r⟩)), fun r hr => (by cases hr)⟩))
theorem p99 {x y z : Int32} (hR : Rel b mi ml) : Sg 99 0 [some (.ref 0), some (.int x), some (.int y), some (.int z), none, none] [] mi ml (qi fun v m l => Sg 127 0 [some (.ref 47), some (.int x), some (.int y), some (.int z)] [] m l (qi (eqR b v))) := by
  obtain ⟨β, lp, q, fu, sd, sq, h⟩ := hR
  have fin : Rel b mi ml := ⟨β, lp, q, fu, sd, sq, h⟩
  by_cases hcs : ∃ s, s ≤ 3 ∧ x = nI s
  · obtain ⟨s, hs, rfl⟩ := hcs
    obtain ⟨hform, sz, hz, z1, z2, z3⟩ := h.2.2.1 s (by omega)
    by_cases hcf : ∃ f, f ≤ 2 ∧ y = nI f
    · obtain ⟨f, hf, rfl⟩ := hcf
      refine rg99_0 (c106 (fun t ht e => ?_) (fun hno => absurd rfl (hno s hs)))
      have et : t = s := ((nI_eq (by omega) (by omega)).mp e).symm
      subst et
      refine ⟨fun r => (by cases r), fun r hr => ?_⟩
      cases hr
      have hS := (MRt t (by omega)).2
      refine ⟨hS, c108 (fun _ _ _ => ⟨fun _ => ?_, fun r => absurd (by decide) r⟩) (fun hno => absurd rfl (hno f hf))⟩
      have head : ∀ (m : Mi) (A : Int32), Sg 124 0 [some (.ref 47), some (.int (nI t)), some (.int (nI f)), some (.int z)] [] m ml (qi fun y7 mi8 ml9 => ((y7 = 0) → (vp_in ((60 * nI t) + z) 240) ∧ (eqR b A (mi8 50 (Int32.toNatClampNeg ((60 * nI t) + z))) mi8 ml9)) ∧ (¬ (y7 = 0) → eqR b A (-2147483648) mi8 ml9)) → Sg 127 0 [some (.ref 47), some (.int (nI t)), some (.int (nI f)), some (.int z)] [] m ml (qi (eqR b A)) := fun m A g => by
        refine rg127_0 (c121 (fun _ _ _ => ⟨fun r => absurd r (by decide), fun _ => ?_⟩) (fun hno => absurd rfl (hno t hs)))
        exact c114c 0 2 (fun _ _ _ _ => ⟨fun r => absurd r (by decide), fun _ => g⟩) (fun hno => absurd rfl (hno f (Nat.zero_le _) hf))
      obtain ⟨fs, hfs⟩ : ∃ fs, (mi (39 + 2 * t) 0 = 1 ∧ mi 48 t = -1) ∨ (mi (39 + 2 * t) 0 = 0 ∧ fs ≤ 2 ∧ mi (39 + 2 * t) 1 = nI fs ∧ mi 48 t = nI fs) := by
        rcases hform with r | ⟨r1, fs, r2, r3, r4⟩
        · exact ⟨0, Or.inl r⟩
        · exact ⟨fs, Or.inr ⟨r1, r2, r3, r4⟩⟩
      have hl : mi (39 + 2 * t) 0 = 1 ∨ mi (39 + 2 * t) 0 = 0 := by rcases hfs with r | r; exact Or.inl r.1; exact Or.inr r.1
      have hl0 : mi (39 + 2 * t) 0 = 0 → fs ≤ 2 ∧ mi (39 + 2 * t) 1 = nI fs ∧ mi 48 t = nI fs := fun r0 => by
        rcases hfs with r | r
        · rw [r.1] at r0; exact absurd r0 (by decide)
        · exact r.2
      have hl1 : mi (39 + 2 * t) 0 = 1 → mi 48 t = -1 := fun r0 => by
        rcases hfs with r | r
        · exact r.2
        · rw [r.1] at r0; exact absurd r0 (by decide)
      have n1 : ∀ k, k ≤ 2 → ¬ nI k = -1 := fun k hk r => by
        have h0 : ¬ nI k < 0 := nI_pos (by omega)
        rw [r] at h0; exact h0 (by decide)
      refine c67 (f := fs) hS hl z1 hz (fun r => (hl0 r).2.1) (fun r => ?_) (fun r rx => ?_) (fun r rx rv => ?_) (fun r rx i hi ei => ?_)
      · refine ⟨fun r => absurd r (by decide), fun _ => head _ _ (n124 (f := 0) (z := sz) rfl (by omega) (Or.inl ?_) ?_ hz (fun _ => ⟨fun r => absurd r (by decide), fun _ => ⟨rfl, β, lp, q, fu, sd, sq, h.fnd⟩⟩) (fun r2 => ?_) (fun r2 => ?_) (fun r2 => ?_))⟩
        · rw [gm_upN (by decide)]; exact hl1 r
        · rw [gm_upN (by decide)]; exact z2
        · rw [gm_upN (by decide), hl1 r] at r2; exact absurd r2 (by decide)
        · rw [gm_upN (by decide), hl1 r] at r2; exact absurd r2 (by decide)
        · rw [gm_upN (by decide), hl1 r] at r2; exact absurd r2 (by decide)
      · refine ⟨fun r => absurd r (by decide), fun _ => head _ _ (n124 (f := fs) (z := sz) rfl (by omega) (Or.inr ⟨?_, (hl0 r).1⟩) ?_ hz (fun r2 => ?_) (fun _ _ => ⟨fun r => absurd r (by decide), fun _ => ⟨rfl, β, lp, q, fu, sd, sq, h.fnd⟩⟩) (fun _ r2 => absurd r2 rx) (fun _ r2 => absurd r2 rx))⟩
        · rw [gm_upN (by decide)]; exact (hl0 r).2.2
        · rw [gm_upN (by decide)]; exact z2
        · rw [gm_upN (by decide), (hl0 r).2.2] at r2; exact absurd r2 (n1 fs (hl0 r).1)
      · refine ⟨fun r => absurd r (by decide), fun _ => head _ _ (n124 (f := fs) (z := sz) rfl (by omega) (Or.inr ⟨?_, (hl0 r).1⟩) ?_ hz (fun r2 => ?_) (fun _ r2 => absurd rx r2) (fun _ _ _ => ⟨fun r => absurd r (by decide), fun _ => ⟨rfl, β, lp, q, fu, sd, sq, h.fnd⟩⟩) (fun _ _ i hi ei => absurd ei (rv i hi)))⟩
        · rw [gm_upN (by decide)]; exact (hl0 r).2.2
        · rw [gm_upN (by decide)]; exact z2
        · rw [gm_upN (by decide), (hl0 r).2.2] at r2; exact absurd r2 (n1 fs (hl0 r).1)
      · have efs : fs = f := ((nI_eq (by omega) (by have := (hl0 r).1; omega)).mp rx).symm
        subst efs
        subst ei
        refine ⟨fun _ => ⟨pk_in i 60 (by omega), ?_⟩, fun r => absurd rfl r⟩
        refine head _ _ (n124 (f := fs) (z := sz) rfl (by omega) (Or.inr ⟨(hl0 r).2.2, hf⟩) z2 hz (fun r2 => ?_) (fun _ r2 => absurd rfl r2) (fun _ _ r2 => absurd rfl (r2 i hi)) (fun _ _ j hj ej => ⟨fun _ => ?_, fun r => absurd rfl r⟩))
        · rw [(hl0 r).2.2] at r2; exact absurd r2 (n1 fs hf)
        · have e60 : (60 : Int32) * nI t = nI (60 * t) := pk_mul 60 t
          rw [e60, nI_add, nI_clamp (by omega), nI_clamp (by omega)]
          exact ⟨pk_in (60 * t + i) 240 (by omega), z3 i hi, fin⟩
    · refine rg99_0 (c106 (fun t ht e => ?_) (fun hno => absurd rfl (hno s hs)))
      have et : t = s := ((nI_eq (by omega) (by omega)).mp e).symm
      subst et
      refine ⟨fun r => (by cases r), fun r hr => ?_⟩
      cases hr
      refine ⟨(MRt t (by omega)).2, c108 (fun f hf e => absurd ⟨f, hf, e⟩ hcf) (fun _ => ⟨fun r => absurd rfl r, fun _ => ?_⟩)⟩
      refine rg127_0 (c121 (fun _ _ _ => ⟨fun r => absurd r (by decide), fun _ => ?_⟩) (fun hno => absurd rfl (hno t hs)))
      exact c114c 0 2 (fun f _ hf e => absurd ⟨f, hf, e⟩ hcf) (fun _ => ⟨fun _ => ⟨rfl, fin⟩, fun r => absurd rfl r⟩)
  · exact rg99_0 (c106 (fun t ht e => absurd ⟨t, ht, e⟩ hcs) (fun _ => ⟨fun _ => rg127_0 (c121 (fun s hs e => absurd ⟨s, hs, e⟩ hcs) (fun _ => ⟨fun _ => ⟨rfl, fin⟩, fun r => absurd rfl r⟩)), fun r hr => (by cases hr)⟩))
set_option maxHeartbeats 1000000 in
theorem p101 {x z : Int32} (hR : Rel b mi ml) : Sg 101 0 [some (.ref 0), some (.int x), some (.int z), none, none, none] [] mi ml (qi fun v m l => Sg 189 0 [some (.ref 47), some (.int x), some (.int z), none, none] [] m l (qi (eqR b v))) := by
  obtain ⟨β, lp, q, fu, sd, sq, h⟩ := hR
  have hp := h.1.1
  have hH := hp.1.1
  have hn7 := hp.n7
  have hC := h.1.cd
  have hM := h.2.1.1
  have fin : Rel b mi ml := ⟨β, lp, q, fu, sd, sq, h⟩
  by_cases hcy : ∃ y, y < β 0 ∧ x = nI y
  · obtain ⟨y, hy, rfl⟩ := hcy
    by_cases hcs : ∃ s, s ≤ 3 ∧ z = nI s
    · obtain ⟨s, hs, rfl⟩ := hcs
      obtain ⟨hform, sz, hz, z1, z2, z3⟩ := h.2.2.1 s (by omega)
      refine rg101_0 (c106 (fun t ht e => ?_) (fun hno => absurd rfl (hno s hs)))
      have et : t = s := ((nI_eq (by omega) (by omega)).mp e).symm
      subst et
      refine c6 hC.1.1 hH.2 (fun _ _ _ => ⟨fun r => absurd r (by decide), fun _ => ⟨fun r => (by cases r), fun r hr => ?_⟩⟩) (fun hno => absurd rfl (hno y hy))
      cases hr
      have hS := (MRt t (by omega)).2
      refine ⟨hS, ?_⟩
      rcases hform with ⟨l1, l2⟩ | ⟨l1, f, hf, l2, l3⟩
      · rw [l1]
        refine ⟨fun r => absurd r (by decide), fun _ => c104 (rg189_0 (c129 (H := β 0) (by rw [gm_upN (by decide)]; exact hM.1.1) hH (fun _ _ _ => ⟨fun r => absurd r (by decide), fun _ => ?_⟩) (fun hno => absurd rfl (hno y hy))))⟩
        refine c121 (fun _ _ _ => ⟨fun _ => ⟨pk_in t 4 (by omega), ?_⟩, fun r => absurd (by decide) r⟩) (fun hno => absurd rfl (hno t hs))
        have e48 : (va_up mi 0 (va_up (mi 0) 7 1)) 48 t = -1 := by rw [gm_upN (by decide)]; exact l2
        rw [nI_clamp (by omega), e48]
        refine ⟨fun r => absurd r (by decide), fun _ => c120 ⟨rfl, β, lp, q, fu, sd, sq, h.fnd⟩⟩
      · rw [l1, h.1.2.2.1.1]
        refine ⟨fun _ => bqn (fun hl => ?_) (fun hl => ?_), fun r => absurd rfl r⟩
        · have emin : (if mi 1 2 < mi (39 + 2 * t) 2 then mi 1 2 else mi (39 + 2 * t) 2) = nI (min sz (β 2)) := by
            rw [hC.1.2.2.1, z1]
            by_cases hlt : β 2 < sz
            · rw [if_pos ((nI_ltI (by omega) (by omega)).mpr hlt), Nat.min_eq_right (by omega)]
            · rw [if_neg (fun r => hlt ((nI_ltI (by omega) (by omega)).mp r)), Nat.min_eq_left (by omega)]
          rw [emin]
          obtain ⟨n, hn⟩ : ∃ n, n = min sz (β 2) := ⟨_, rfl⟩
          rw [← hn]
          have hnW : n ≤ β 2 := by rw [hn]; exact Nat.min_le_right _ _
          have hnz : n ≤ sz := by rw [hn]; exact Nat.min_le_left _ _
          have hqy := hp.2.2.1 y (by omega)
          have key := upI n (fun j (m1 : Mi) => fr [39 + 2 * t + 1] mi m1 ∧ (∀ i, i < j → m1 (39 + 2 * t + 1) i = cutv f (cj (q y) i)) ∧ ∀ i, j ≤ i → m1 (39 + 2 * t + 1) i = mi (39 + 2 * t + 1) i) (fun j m1 => Sg 101 68 [some (.ref 0), some (.int (nI y)), some (.int (nI t)), some (.ref (39 + 2 * t)), some (.int (nI n)), some (.int (nI j))] [] m1 ml (qi fun v m l => Sg 189 0 [some (.ref 47), some (.int (nI y)), some (.int (nI t)), none, none] [] m l (qi (eqR b v)))) ?_ ?_
          · exact key 0 mi (Nat.zero_le _) ⟨fr.rf, fun i hi => by omega, fun _ _ => rfl⟩
          · rintro m1 ⟨f1, g1, o1⟩
            refine rg101_68 hS (pk_le n n (fun _ => ?_) (fun r => by omega))
            have e1 : ∀ c, c ≠ 39 + 2 * t + 1 → m1 c = mi c := fun c hc => f1 c (by simp; exact hc)
            have k47 : m1 47 = mi 47 := e1 47 (by omega)
            refine rg189_0 (c129 (H := β 0) (by rw [k47]; exact hM.1.1) hH (fun _ _ _ => ⟨fun r => absurd r (by decide), fun _ => ?_⟩) (fun hno => absurd rfl (hno y hy)))
            refine c121 (fun _ _ _ => ⟨fun _ => ⟨pk_in t 4 (by omega), ?_⟩, fun r => absurd (by decide) r⟩) (fun hno => absurd rfl (hno t hs))
            rw [nI_clamp (by omega), e1 48 (by omega), l3, k47, h.2.1.2.1.1, hl]
            refine ⟨fun _ => ⟨fun r => absurd r (by decide), fun _ => ?_⟩, fun r => absurd (nI_pos' (by omega)) r⟩
            refine c117n (a := sz) (b := β 2) (by rw [e1 49 (by omega)]; exact z2) hM.1.2.2.1 (by omega) (by omega) ?_
            rw [← hn]
            have e60 : (60 : Int32) * nI t = nI (60 * t) := pk_mul 60 t
            have key2 := upI n (fun j (m2 : Mi) => fr [50] m1 m2 ∧ (∀ i, i < j → m2 50 (60 * t + i) = cutv f (cj (q y) i)) ∧ ∀ k, (k < 60 * t ∨ 60 * t + j ≤ k) → m2 50 k = m1 50 k) (fun j m2 => Sg 189 61 [some (.ref 47), some (.int (nI y)), some (.int (nI t)), some (.int (nI n)), some (.int (nI j))] [] m2 ml (qi (eqR b (nI n)))) ?_ ?_
            · exact key2 0 m1 (Nat.zero_le _) ⟨fr.rf, fun i hi => by omega, fun _ _ => rfl⟩
            · rintro m2 ⟨f2, g2, o2⟩
              refine rg189_61 (pk_le n n (fun _ => ⟨rfl, β, lp, q, fu, sd, sq, h.xi (fun c c1 c2 c3 c4 c5 => ?_) (h.2.2.1.one (s := t) (fun c c1 c2 c3 c4 => ?_) (fun w hw => ?_) (fun w hw => ?_) (fun k hk => ?_) ⟨Or.inr ⟨?_, f, hf, ?_, ?_⟩, sz, hz, ?_, ?_, fun j hj => ?_⟩)⟩) (fun r => by omega))
              · rw [f2 c (by simp [c4]), e1 c (by omega)]
              · rw [f2 c (by simp; omega), e1 c c2]
              · rw [f2 48 (by decide), e1 48 (by omega)]
              · rw [f2 49 (by decide), e1 49 (by omega)]
              · rw [o2 k (by omega), e1 50 (by omega)]
              · rw [f2 _ (by simp; omega), e1 _ (by omega)]; exact l1
              · rw [f2 _ (by simp; omega), e1 _ (by omega)]; exact l2
              · rw [f2 48 (by decide), e1 48 (by omega)]; exact l3
              · rw [f2 _ (by simp; omega), e1 _ (by omega)]; exact z1
              · rw [f2 49 (by decide), e1 49 (by omega)]; exact z2
              · rw [f2 _ (by simp; omega)]
                by_cases hjn : j < n
                · rw [g1 j hjn, g2 j hjn]
                · rw [o1 j (by omega), o2 _ (by omega), e1 50 (by omega)]; exact z3 j hj
            · rintro j m2 hj ⟨f2, g2, o2⟩ ih
              refine rg189_61 (pk_le n j (fun r => by omega) (fun _ => ⟨pk_in t 4 (by omega), pk_in y 7 (by omega), ?_⟩))
              rw [e60, nI_add, nI_1, nI_clamp (by omega), nI_clamp (by omega), nI_clamp (by omega), f2 53 (by decide), e1 53 (by omega), h.2.1.2.1.2 y (by omega), f2 48 (by decide), e1 48 (by omega), l3]
              refine c140 rfl rfl (by omega) (by omega) ?_
              refine n125 rfl hf ⟨pk_in (60 * t + j) 240 (by omega), ih _ ⟨f2.up (by decide), fun i hi => ?_, fun k hk => ?_⟩⟩
              · rw [gm_upS]
                by_cases hij : i = j
                · subst hij; exact gm_upS
                · rw [gm_upN (by omega)]; exact g2 i (by omega)
              · rw [gm_upS, gm_upN (by omega)]; exact o2 k (by omega)
          · rintro j m1 hj ⟨f1, g1, o1⟩ ih
            have e1 : ∀ c, c ≠ 39 + 2 * t + 1 → m1 c = mi c := fun c hc => f1 c (by simp; exact hc)
            refine rg101_68 hS (pk_le n j (fun r => by omega) (fun _ => ⟨pk_in y 7 (by omega), ?_⟩))
            rw [nI_clamp (by omega), e1 24 (by omega), h.1.2.2.1.2.1 y (by omega), nI_1]
            refine c110 rfl rfl (by omega) (by omega) ?_
            refine c69 (f := f) hS rfl (by omega) (by rw [e1 _ (by omega)]; exact l2) hf ?_
            refine ih _ ⟨f1.up (by simp), fun i hi => ?_, fun i hi => ?_⟩
            · rw [gm_upS]
              by_cases hij : i = j
              · subst hij; exact gm_upS
              · rw [gm_upN hij]; exact g1 i (by omega)
            · rw [gm_upS, gm_upN (by omega)]; exact o1 i (by omega)
        · refine rg189_0 (c129 hM.1.1 hH (fun _ _ _ => ⟨fun r => absurd r (by decide), fun _ => ?_⟩) (fun hno => absurd rfl (hno y hy)))
          refine c121 (fun _ _ _ => ⟨fun _ => ⟨pk_in t 4 (by omega), ?_⟩, fun r => absurd (by decide) r⟩) (fun hno => absurd rfl (hno t hs))
          rw [nI_clamp (by omega), l3, h.2.1.2.1.1, hl]
          refine ⟨fun _ => ⟨fun _ => rg189_61 (pk_le 0 0 (fun _ => ⟨rfl, fin⟩) (fun r => by omega)), fun r => absurd rfl r⟩, fun r => absurd (nI_pos' (by omega)) r⟩
    · refine rg101_0 (c106 (fun t ht e => absurd ⟨t, ht, e⟩ hcs) (fun _ => ?_))
      refine c6 hC.1.1 hH.2 (fun _ _ _ => ⟨fun r => absurd r (by decide), fun _ => ⟨fun _ => ?_, fun r hr => (by cases hr)⟩⟩) (fun hno => absurd rfl (hno y hy))
      refine rg189_0 (c129 hM.1.1 hH (fun _ _ _ => ⟨fun r => absurd r (by decide), fun _ => ?_⟩) (fun hno => absurd rfl (hno y hy)))
      exact c121 (fun s hs e => absurd ⟨s, hs, e⟩ hcs) (fun _ => ⟨fun r => absurd rfl r, fun _ => ⟨rfl, fin⟩⟩)
  · have no : Sg 189 0 [some (.ref 47), some (.int x), some (.int z), none, none] [] mi ml (qi (eqR b (-2 : Int32))) :=
      rg189_0 (c129 hM.1.1 hH (fun s hs e => absurd ⟨s, hs, e⟩ hcy) (fun _ => ⟨fun _ => ⟨rfl, fin⟩, fun r => absurd rfl r⟩))
    refine rg101_0 (c106 (fun t ht e => ?_) (fun _ => ?_))
    · exact c6 hC.1.1 hH.2 (fun s hs e => absurd ⟨s, hs, e⟩ hcy) (fun _ => ⟨fun _ => no, fun r => absurd rfl r⟩)
    · exact c6 hC.1.1 hH.2 (fun s hs e => absurd ⟨s, hs, e⟩ hcy) (fun _ => ⟨fun _ => no, fun r => absurd rfl r⟩)
end C75
