/-! pairs: sheets -/
def cutv (f : Nat) (v : Int32) : Int32 := if f = 0 then v &&& 1 else if f = 1 then v &&& 65535 else v
theorem i2ch_and (x : Int32) : i2ch x = x &&& 65535 := by
  unfold i2ch
  rw [pk_char, pk_and x (m := 65535) 16 (by decide)]
section C74
variable {b : Nat} {β : Bd} {lp : Bool} {q : Nat → Nat} {fu : Nat} {sd sq : Nat → Nat → Nat} {mi m2 : Mi} {ml : Ml}
/-- only sheets change -/
theorem RX.xi (h : RX b β lp q fu sd sq mi ml) (e : ∀ c, (c < 39 ∨ 47 ≤ c) → c ≠ 48 → c ≠ 49 → c ≠ 50 → c ≠ 51 → m2 c = mi c) (hX : XI m2) : RX b β lp q fu sd sq m2 ml := by
  obtain ⟨⟨p, ci, cl, cs⟩, ⟨md, mL, ms⟩, xi, e6, e7⟩ := h
  have k47 : m2 47 = mi 47 := e 47 (by omega) (by decide) (by decide) (by decide) (by decide)
  refine ⟨⟨p, ci.m (fun c hc => e c (by omega) (by omega) (by omega) (by omega) (by omega)), cl.m (e 23 (by omega) (by decide) (by decide) (by decide) (by decide)) (e 24 (by omega) (by decide) (by decide) (by decide) (by decide)), cs.m (fun c c1 c2 => e c (by omega) (by omega) (by omega) (by omega) (by omega))⟩, ⟨md.m (by rw [k47]) (by rw [k47]) (by rw [k47]) (by rw [k47]) (by rw [k47]) (e 52 (by omega) (by decide) (by decide) (by decide) (by decide)), mL.m (by rw [k47]) (e 53 (by omega) (by decide) (by decide) (by decide) (by decide)), ms.m (by rw [k47]) (e 66 (by omega) (by decide) (by decide) (by decide) (by decide)) (e 67 (by omega) (by decide) (by decide) (by decide) (by decide)) (e 68 (by omega) (by decide) (by decide) (by decide) (by decide)) (e 69 (by omega) (by decide) (by decide) (by decide) (by decide))⟩, hX, ?_, ?_⟩
  · rw [e 0 (by omega) (by decide) (by decide) (by decide) (by decide), k47]; exact e6
  · rw [e 0 (by omega) (by decide) (by decide) (by decide) (by decide), k47]; exact e7
theorem shN {s t : Nat} (h : t ≠ s) : 39 + 2 * t ≠ 39 + 2 * s ∧ 39 + 2 * t ≠ 39 + 2 * s + 1 ∧ 39 + 2 * t + 1 ≠ 39 + 2 * s ∧ 39 + 2 * t + 1 ≠ 39 + 2 * s + 1 := by omega
/-- one sheet changes: s; the others stay -/
theorem XI.one (h : XI mi) {s : Nat} (e : ∀ c, c ≠ 39 + 2 * s → c ≠ 39 + 2 * s + 1 → 39 ≤ c → c < 47 → m2 c = mi c) (e48 : ∀ t, t ≠ s → m2 48 t = mi 48 t) (e49 : ∀ t, t ≠ s → m2 49 t = mi 49 t) (e50 : ∀ k, (k < 60 * s ∨ 60 * s + 60 ≤ k) → m2 50 k = mi 50 k)
    (hs : ((m2 (39 + 2 * s) 0 = 1 ∧ m2 48 s = -1) ∨ (m2 (39 + 2 * s) 0 = 0 ∧ ∃ f, f ≤ 2 ∧ m2 (39 + 2 * s) 1 = nI f ∧ m2 48 s = nI f)) ∧ ∃ z, z ≤ 60 ∧ m2 (39 + 2 * s) 2 = nI z ∧ m2 49 s = nI z ∧ ∀ i, i < z → m2 (39 + 2 * s + 1) i = m2 50 (60 * s + i)) : XI m2 := fun t ht => by
  by_cases hts : t = s
  · subst hts; exact hs
  · have hne := shN hts
    obtain ⟨a1, z, hz, z1, z2, z3⟩ := h t ht
    rw [e _ hne.1 hne.2.1 (by omega) (by omega), e _ hne.2.2.1 hne.2.2.2 (by omega) (by omega), e48 t hts, e49 t hts]
    refine ⟨a1, z, hz, z1, z2, fun i hi => ?_⟩
    rw [e50 _ (by omega)]; exact z3 i hi
variable {F : Int32 → Mi → Ml → Prop}
/-- put -/
theorem c69 {G : Mi → Ml → Prop} {r f i : Nat} {x v : Int32} (hr : isS r) (hx : x = nI i) (hi : i < 60) (hf : mi r 1 = nI f) (hf2 : f ≤ 2) (h : G (va_up mi (r + 1) (va_up (mi (r + 1)) i (cutv f v))) ml) : Sg 69 0 [some (.ref r), some (.int x), some (.int v)] [] mi ml (qv G) := by
  subst hx
  refine rg69_0 hr ?_
  rw [nI_clamp (by omega)]
  unfold cutv at h
  refine pk_ne f 0 (fun f0 => ?_) (fun f0 => ⟨pk_in i 60 hi, by rw [if_pos f0] at h; exact h⟩) hf rfl
  rw [if_neg f0] at h
  exact pk_ne f 1 (fun f1 => ⟨pk_in i 60 hi, by rw [if_neg f1] at h; exact h⟩) (fun f1 => ⟨pk_in i 60 hi, by rw [if_pos f1] at h; exact h⟩) hf rfl
/-- cutTo -/
theorem n125 {f : Nat} {x v : Int32} (hx : x = nI f) (hf2 : f ≤ 2) (h : F (cutv f v) mi ml) : Sg 125 0 [some (.int x), some (.int v)] [] mi ml (qi F) := by
  subst hx
  refine rg125_0 ?_
  rw [i2ch_and]
  unfold cutv at h
  refine pk_ne f 0 (fun f0 => ?_) (fun f0 => by rw [if_pos f0] at h; exact h)
  rw [if_neg f0] at h
  exact pk_ne f 1 (fun f1 => by rw [if_neg f1] at h; exact h) (fun f1 => by rw [if_pos f1] at h; exact h)
/-- findingAt -/
theorem c67 {r f z : Nat} {x v : Int32} (hr : isS r) (hl : mi r 0 = 1 ∨ mi r 0 = 0) (hz : mi r 2 = nI z) (hz6 : z ≤ 60) (hf : mi r 0 = 0 → mi r 1 = nI f)
    (h1 : mi r 0 = 1 → F 1 mi ml) (h3 : mi r 0 = 0 → x ≠ nI f → F 3 mi ml) (h2 : mi r 0 = 0 → x = nI f → (∀ i, i < z → v ≠ nI i) → F 2 mi ml) (h0 : mi r 0 = 0 → x = nI f → ∀ i, i < z → v = nI i → F 0 mi ml) : Sg 67 0 [some (.ref r), some (.int x), some (.int v)] [] mi ml (qi F) := by
  refine rg67_0 hr ⟨fun l0 => ?_, fun l1 => h1 (by rcases hl with q | q; exact q; exact absurd q l1)⟩
  rw [hf l0]
  refine ⟨fun e => ⟨fun r => h2 l0 e.symm fun i hi ei => ?_, fun r => ?_⟩, fun e => h3 l0 fun q => e q.symm⟩
  · rw [ei] at r; exact nI_pos (by omega) r
  · obtain ⟨j, hj, rfl⟩ := nI_of r
    refine pk_lt j z (fun q => h0 l0 e.symm j q rfl) (fun q => h2 l0 e.symm fun i hi ei => ?_) rfl hz
    have := (nI_eq hj (by omega)).mp ei
    omega
theorem inz {z : Nat} {v : Int32} (hz : z ≤ 60) : (decide ((0 : Int32) ≤ v) && decide (v ≤ nI z - 1)) = true ↔ ∃ i, i < z ∧ v = nI i := by
  have ez : (nI z - 1).toInt = (z : Int) - 1 := pk_sub_toInt (a := z) (b := 1) (by omega) (by decide)
  rw [Bool.and_eq_true, decide_eq_true_eq, decide_eq_true_eq, fa_le, fa_le, ez]
  have e0 : (0 : Int32).toInt = 0 := rfl
  rw [e0]
  constructor
  · rintro ⟨h1, h2⟩
    obtain ⟨j, hj, rfl⟩ := nI_of (x := v) (fun r => by rw [fa_lt, e0] at r; omega)
    rw [nI_toInt hj] at h2
    exact ⟨j, by omega, rfl⟩
  · rintro ⟨i, hi, rfl⟩
    rw [nI_toInt (by omega)]
    omega
/-- lacks -/
theorem n124 {s f z : Nat} {x1 x v : Int32} (h1x : x1 = nI s) (hs : s < 4) (hl : mi 48 s = -1 ∨ (mi 48 s = nI f ∧ f ≤ 2)) (hz : mi 49 s = nI z) (hz6 : z ≤ 60)
    (h1 : mi 48 s = -1 → F ((-10) - 1) (va_up mi 47 (va_up (mi 47) 4 1)) ml) (h3 : mi 48 s = nI f → x ≠ nI f → F ((-10) - 3) (va_up mi 47 (va_up (mi 47) 4 3)) ml) (h2 : mi 48 s = nI f → x = nI f → (∀ i, i < z → v ≠ nI i) → F ((-10) - 2) (va_up mi 47 (va_up (mi 47) 4 2)) ml) (h0 : mi 48 s = nI f → x = nI f → ∀ i, i < z → v = nI i → F 0 mi ml) : Sg 124 0 [some (.ref 47), some (.int x1), some (.int x), some (.int v)] [] mi ml (qi F) := by
  subst h1x
  refine rg124_0 ⟨pk_in s 4 hs, ?_⟩
  rw [nI_clamp (by omega), hz]
  rcases hl with l | ⟨l, hf⟩
  · rw [l]
    exact ⟨fun r => absurd r (by decide), fun _ => c120 (h1 l)⟩
  · rw [l]
    refine ⟨fun _ => ⟨fun e => ?_, fun e => c120 (h3 l fun q => e q.symm)⟩, fun r => absurd (nI_pos' (by omega)) r⟩
    refine c114i (lo := 0) (hi := nI z - 1) rfl rfl ?_
    refine bq (fun q => c120 (h2 l e.symm fun i hi ei => ?_)) (fun q => ?_)
    · have := (inz hz6).mpr ⟨i, hi, ei⟩
      rw [q] at this; cases this
    · obtain ⟨i, hi, ei⟩ := (inz hz6).mp q
      exact h0 l e.symm i hi ei
end C74
section C74b
variable {b : Nat} {mi : Mi} {ml : Ml}
theorem p96 {x y z : Int32} (hR : Rel b mi ml) : Sg 96 0 [some (.ref 0), some (.int x), some (.int y), some (.int z), none] [] mi ml (qi fun v m l => Sg 122 0 [some (.ref 47), some (.int x), some (.int y), some (.int z), none] [] m l (qi (eqR b v))) := by
  obtain ⟨β, lp, q, fu, sd, sq, h⟩ := hR
  have fin : Rel b mi ml := ⟨β, lp, q, fu, sd, sq, h⟩
  by_cases hcs : ∃ s, s ≤ 3 ∧ x = nI s
  · obtain ⟨s, hs, rfl⟩ := hcs
    by_cases hcf : ∃ f, f ≤ 2 ∧ y = nI f
    · obtain ⟨f, hf, rfl⟩ := hcf
      have mo : ∀ (m : Mi) (A : Int32), (¬ z ≤ 60 → eqR b A (-2) m ml) → (z ≤ 60 → ((0 ≤ z) → Sg 122 55 [some (.ref 47), some (.int (nI s)), some (.int (nI f)), some (.int z), some (.int 0)] [] (va_up (va_up m 48 (va_up (m 48) s (nI f))) 49 (va_up (m 49) s z)) ml (qi (eqR b A))) ∧ (¬ (0 ≤ z) → eqR b A ((-10) - 5) (va_up m 47 (va_up (m 47) 4 5)) ml)) → Sg 122 0 [some (.ref 47), some (.int (nI s)), some (.int (nI f)), some (.int z), none] [] m ml (qi (eqR b A)) := by
        intro m A g1 g2
        refine rg122_0 (c121 (fun _ _ _ => ⟨fun r => absurd r (by decide), fun _ => ?_⟩) (fun hno => absurd rfl (hno s hs)))
        refine c114c 0 2 (fun _ _ _ _ => ⟨fun r => absurd r (by decide), fun _ => ?_⟩) (fun hno => absurd rfl (hno f (Nat.zero_le _) hf))
        rw [nI_clamp (by omega)]
        exact ⟨fun r => ⟨fun r2 => ⟨pk_in s 4 (by omega), (g2 r).1 r2⟩, fun r2 => c120 ((g2 r).2 r2)⟩, fun r => g1 r⟩
      refine rg96_0 (c106 (fun t ht e => ?_) (fun hno => absurd rfl (hno s hs)))
      have et : t = s := ((nI_eq (by omega) (by omega)).mp e).symm
      subst et
      refine ⟨fun r => (by cases r), fun r hr => ?_⟩
      cases hr
      have hS := (MRt t (by omega)).2
      refine ⟨hS, c108 (fun _ _ _ => ⟨fun r => absurd r (by decide), fun _ => ⟨fun r60 => ⟨fun r0 => rg66_0 hS ?_, fun r0 => ?_⟩, fun r60 => ?_⟩⟩) (fun hno => absurd rfl (hno f hf))⟩
      · obtain ⟨n, hn, rfl⟩ := nI_of (x := z) (fun r => by
          rw [fa_lt] at r
          rw [fa_le] at r0
          omega)
        have hn60 : n ≤ 60 := (nI_leI (b := 60) hn (by decide)).mp r60
        refine c198 (n := 60) hS.2.2 (by decide) ?_
        obtain ⟨m1, hm1⟩ : ∃ m1, m1 = va_up (va_up mi (39 + 2 * t) (va_up (va_up (va_up (mi (39 + 2 * t)) 0 0) 1 (nI f)) 2 (nI n))) (39 + 2 * t + 1) (fl ((va_up mi (39 + 2 * t) (va_up (va_up (va_up (mi (39 + 2 * t)) 0 0) 1 (nI f)) 2 (nI n))) (39 + 2 * t + 1)) 60 0) := ⟨_, rfl⟩
        rw [← hm1]
        have f1 : ∀ c, c ≠ 39 + 2 * t → c ≠ 39 + 2 * t + 1 → m1 c = mi c := fun c c1 c2 => by rw [hm1, gm_upN c2, gm_upN c1]
        have a1 : m1 (39 + 2 * t) = va_up (va_up (va_up (mi (39 + 2 * t)) 0 0) 1 (nI f)) 2 (nI n) := by rw [hm1, gm_upN (by omega), gm_upS]
        have a2 : ∀ i, i < 60 → m1 (39 + 2 * t + 1) i = 0 := fun i hi => by rw [hm1, gm_upS]; exact if_pos hi
        refine mo m1 (nI n) (fun r => absurd r60 r) (fun _ => ⟨fun _ => ?_, fun r => absurd r0 r⟩)
        obtain ⟨m2, hm2⟩ : ∃ m2, m2 = va_up (va_up m1 48 (va_up (m1 48) t (nI f))) 49 (va_up (m1 49) t (nI n)) := ⟨_, rfl⟩
        rw [← hm2]
        have f2 : ∀ c, c ≠ 48 → c ≠ 49 → m2 c = m1 c := fun c c1 c2 => by rw [hm2, gm_upN c2, gm_upN c1]
        have k48 : m2 48 = va_up (mi 48) t (nI f) := by rw [hm2, gm_upN (by decide), gm_upS, f1 48 (by omega) (by omega)]
        have k49 : m2 49 = va_up (mi 49) t (nI n) := by rw [hm2, gm_upS, f1 49 (by omega) (by omega)]
        have e60 : (60 : Int32) * nI t = nI (60 * t) := pk_mul 60 t
        have key := upI n (fun i (m3 : Mi) => fr [50] m2 m3 ∧ (∀ j, j < i → m3 50 (60 * t + j) = 0) ∧ ∀ k, (k < 60 * t ∨ 60 * t + 60 ≤ k) → m3 50 k = mi 50 k) (fun i m3 => Sg 122 55 [some (.ref 47), some (.int (nI t)), some (.int (nI f)), some (.int (nI n)), some (.int (nI i))] [] m3 ml (qi (eqR b (nI n)))) ?_ ?_
        · exact key 0 m2 (Nat.zero_le _) ⟨fr.rf, fun j hj => by omega, fun k _ => by rw [f2 50 (by decide) (by decide), f1 50 (by omega) (by omega)]⟩
        · rintro m3 ⟨f3, g3, o3⟩
          refine rg122_55 (pk_le n n (fun _ => ⟨rfl, β, lp, q, fu, sd, sq, h.xi (fun c c1 c2 c3 c4 c5 => ?_) (h.2.2.1.one (s := t) (fun c c1 c2 c3 c4 => ?_) (fun w hw => ?_) (fun w hw => ?_) o3 ⟨Or.inr ⟨?_, f, hf, ?_, ?_⟩, n, hn60, ?_, ?_, fun i hi => ?_⟩)⟩) (fun r => by omega))
          · rw [f3 c (by simp [c4]), f2 c c2 c3, f1 c (by omega) (by omega)]
          · rw [f3 c (by simp; omega), f2 c (by omega) (by omega), f1 c c1 c2]
          · rw [f3 48 (by decide), k48, gm_upN hw]
          · rw [f3 49 (by decide), k49, gm_upN hw]
          · rw [f3 _ (by simp; omega), f2 _ (by omega) (by omega), a1]; rfl
          · rw [f3 _ (by simp; omega), f2 _ (by omega) (by omega), a1]; rfl
          · rw [f3 48 (by decide), k48, gm_upS]
          · rw [f3 _ (by simp; omega), f2 _ (by omega) (by omega), a1]; rfl
          · rw [f3 49 (by decide), k49, gm_upS]
          · rw [f3 _ (by simp; omega), f2 _ (by omega) (by omega), a2 i (by omega), g3 i hi]
        · rintro i m3 hi ⟨f3, g3, o3⟩ ih
          refine rg122_55 (pk_le n i (fun r => by omega) (fun _ => ?_))
          rw [e60, nI_add, nI_1, nI_clamp (by omega)]
          refine ⟨pk_in (60 * t + i) 240 (by omega), ih _ ⟨f3.up (by decide), fun j hj => ?_, fun k hk => ?_⟩⟩
          · rw [gm_upS]
            by_cases hji : j = i
            · subst hji; exact gm_upS
            · rw [gm_upN (by omega)]; exact g3 j (by omega)
          · rw [gm_upS, gm_upN (by omega)]; exact o3 k hk
      · exact c104 (mo _ _ (fun r => absurd r60 r) (fun _ => ⟨fun r => absurd r r0, fun _ => ⟨rfl, β, lp, q, fu, sd, sq, h.fnd⟩⟩))
      · exact mo mi (-2) (fun _ => ⟨rfl, fin⟩) (fun r => absurd r r60)
    · refine rg96_0 (c106 (fun t ht e => ?_) (fun hno => absurd rfl (hno s hs)))
      have et : t = s := ((nI_eq (by omega) (by omega)).mp e).symm
      subst et
      refine ⟨fun r => (by cases r), fun r hr => ?_⟩
      cases hr
      refine ⟨(MRt t (by omega)).2, c108 (fun f hf e => absurd ⟨f, hf, e⟩ hcf) (fun _ => ⟨fun _ => ?_, fun r => absurd rfl r⟩)⟩
      refine rg122_0 (c121 (fun _ _ _ => ⟨fun r => absurd r (by decide), fun _ => ?_⟩) (fun hno => absurd rfl (hno t hs)))
      exact c114c 0 2 (fun f _ hf e => absurd ⟨f, hf, e⟩ hcf) (fun _ => ⟨fun _ => ⟨rfl, fin⟩, fun r => absurd rfl r⟩)
  · exact rg96_0 (c106 (fun t ht e => absurd ⟨t, ht, e⟩ hcs) (fun _ => ⟨fun _ => rg122_0 (c121 (fun s hs e => absurd ⟨s, hs, e⟩ hcs) (fun _ => ⟨fun _ => ⟨rfl, fin⟩, fun r => absurd rfl r⟩)), fun r hr => (by cases hr)⟩))
theorem p97 {x : Int32} (hR : Rel b mi ml) : Sg 97 0 [some (.ref 0), some (.int x), none] [] mi ml (qi fun v m l => Sg 123 0 [some (.ref 47), some (.int x)] [] m l (qi (eqR b v))) := by
  obtain ⟨β, lp, q, fu, sd, sq, h⟩ := hR
  have fin : Rel b mi ml := ⟨β, lp, q, fu, sd, sq, h⟩
  by_cases hcs : ∃ s, s ≤ 3 ∧ x = nI s
  · obtain ⟨s, hs, rfl⟩ := hcs
    obtain ⟨hform, sz, hz, z1, z2, z3⟩ := h.2.2.1 s (by omega)
    refine rg97_0 (c106 (fun t ht e => ?_) (fun hno => absurd rfl (hno s hs)))
    have et : t = s := ((nI_eq (by omega) (by omega)).mp e).symm
    subst et
    refine ⟨fun r => (by cases r), fun r hr => ?_⟩
    cases hr
    refine ⟨(MRt t (by omega)).2, ?_⟩
    rcases hform with ⟨l1, l2⟩ | ⟨l1, f, hf, l2, l3⟩
    · rw [l1]
      refine ⟨fun r => absurd r (by decide), fun _ => c104 (rg123_0 (c121 (fun _ _ _ => ⟨fun _ => ⟨pk_in t 4 (by omega), ?_⟩, fun r => absurd (by decide) r⟩) (fun hno => absurd rfl (hno t hs))))⟩
      have e48 : (va_up mi 0 (va_up (mi 0) 7 1)) 48 t = -1 := by rw [gm_upN (by decide)]; exact l2
      rw [nI_clamp (by omega), e48]
      exact ⟨fun r => absurd r (by decide), fun _ => c120 ⟨rfl, β, lp, q, fu, sd, sq, h.fnd⟩⟩
    · rw [l1]
      refine ⟨fun _ => rg123_0 (c121 (fun _ _ _ => ⟨fun _ => ⟨pk_in t 4 (by omega), ?_⟩, fun r => absurd (by decide) r⟩) (fun hno => absurd rfl (hno t hs))), fun r => absurd rfl r⟩
      obtain ⟨m1, hm1⟩ : ∃ m1, m1 = va_up mi (39 + 2 * t) (va_up (mi (39 + 2 * t)) 0 1) := ⟨_, rfl⟩
      rw [← hm1]
      have f1 : ∀ c, c ≠ 39 + 2 * t → m1 c = mi c := fun c c1 => by rw [hm1, gm_upN c1]
      have a1 : m1 (39 + 2 * t) = va_up (mi (39 + 2 * t)) 0 1 := by rw [hm1, gm_upS]
      rw [nI_clamp (by omega), f1 48 (by omega), f1 49 (by omega), l3, z1, z2]
      refine ⟨fun _ => ⟨rfl, β, lp, q, fu, sd, sq, h.xi (fun c c1 c2 c3 c4 c5 => ?_) (h.2.2.1.one (s := t) (fun c c1 c2 c3 c4 => ?_) (fun w hw => ?_) (fun w hw => ?_) (fun k _ => ?_) ⟨Or.inl ⟨?_, ?_⟩, sz, hz, ?_, ?_, fun i hi => ?_⟩)⟩, fun r => absurd (nI_pos' (by omega)) r⟩
      · rw [gm_upN c2, f1 c (by omega)]
      · rw [gm_upN (by omega), f1 c c1]
      · rw [gm_upS, gm_upN hw]
      · rw [gm_upN (by decide), f1 49 (by omega)]
      · rw [gm_upN (by decide), f1 50 (by omega)]
      · rw [gm_upN (by omega), a1]; rfl
      · rw [gm_upS, gm_upS]
      · rw [gm_upN (by omega), a1, gm_upN (by decide)]; exact z1
      · rw [gm_upN (by decide), f1 49 (by omega)]; exact z2
      · rw [gm_upN (by omega), gm_upN (by decide), f1 _ (by omega), f1 50 (by omega)]; exact z3 i hi
  · exact rg97_0 (c106 (fun t ht e => absurd ⟨t, ht, e⟩ hcs) (fun _ => ⟨fun _ => rg123_0 (c121 (fun s hs e => absurd ⟨s, hs, e⟩ hcs) (fun _ => ⟨fun r => absurd rfl r, fun _ => ⟨rfl, fin⟩⟩)), fun r hr => (by cases hr)⟩))
end C74b
