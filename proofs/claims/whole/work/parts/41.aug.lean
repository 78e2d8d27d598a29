/-! chains: one more along a path; what is reached, step by step -/
section Aug
variable {K : Nat} {bad out : Nat → Bool} {adj : Nat → Nat → Bool}
theorem Rs.x {P : Nat → Nat} {v b : Nat} (h : Rs K bad adj P v (2 * b + 1)) : b < K ∧ ((v = 2 * b ∧ P b = 0) ∨ ∃ k, k < K ∧ v = 2 * k ∧ P k = 2 + b) := by
  rcases h with ⟨k, hk, h1, h2, h3⟩ | ⟨k, c, hk, hc, h1, h2, h3⟩ | ⟨k, hk, h1, h2, h3, h4⟩ | ⟨k, c, hk, hc, h1, h2, h3, h4⟩
  · have : k = b := by omega
    subst this; exact ⟨hk, Or.inl ⟨h1, h3⟩⟩
  · have : c = b := by omega
    subst this; exact ⟨hc, Or.inr ⟨k, hk, h1, h3⟩⟩
  · omega
  · omega
theorem Rs.e {P : Nat → Nat} {v k : Nat} (h : Rs K bad adj P v (2 * k)) : k < K ∧ bad k = false ∧ ((v = 2 * k + 1 ∧ P k ≠ 0) ∨ ∃ b, b < K ∧ v = 2 * b + 1 ∧ adj b k = true) := by
  rcases h with ⟨l, hk, h1, h2, h3⟩ | ⟨l, c, hk, hc, h1, h2, h3⟩ | ⟨l, hk, h1, h2, h3, h4⟩ | ⟨l, c, hk, hc, h1, h2, h3, h4⟩
  · omega
  · omega
  · have : l = k := by omega
    subst this; exact ⟨hk, h4, Or.inl ⟨h1, h3⟩⟩
  · have : c = k := by omega
    subst this; exact ⟨hc, h4, Or.inr ⟨l, hk, h1, h3⟩⟩
theorem Rs.en {P : Nat → Nat} {w k : Nat} (h : Rs K bad adj P (2 * k) w) : (w = 2 * k + 1 ∧ P k = 0) ∨ ∃ b, b < K ∧ w = 2 * b + 1 ∧ P k = 2 + b := by
  rcases h with ⟨l, hk, h1, h2, h3⟩ | ⟨l, c, hk, hc, h1, h2, h3⟩ | ⟨l, hk, h1, h2, h3, h4⟩ | ⟨l, c, hk, hc, h1, h2, h3, h4⟩
  · have : l = k := by omega
    subst this; exact Or.inl ⟨h2, h3⟩
  · have : l = k := by omega
    subst this; exact Or.inr ⟨c, hc, h2, h3⟩
  · omega
  · omega
theorem Rs.xn {P : Nat → Nat} {w b : Nat} (h : Rs K bad adj P (2 * b + 1) w) : (w = 2 * b ∧ P b ≠ 0) ∨ ∃ k, k < K ∧ w = 2 * k ∧ adj b k = true := by
  rcases h with ⟨l, hk, h1, h2, h3⟩ | ⟨l, c, hk, hc, h1, h2, h3⟩ | ⟨l, hk, h1, h2, h3, h4⟩ | ⟨l, c, hk, hc, h1, h2, h3, h4⟩
  · omega
  · omega
  · have : l = b := by omega
    subst this; exact Or.inl ⟨h2, h3⟩
  · have : l = b := by omega
    subst this; exact Or.inr ⟨c, hc, h2, h3⟩
/-- a path along which one chain more gets out, from its end -/
def Pth (K : Nat) (bad out : Nat → Bool) (adj : Nat → Nat → Bool) (P : Nat → Nat) (u : Nat → Nat) (m : Nat) : Prop :=
  (∃ e, e < K ∧ out e = true ∧ u 0 = 2 * e + 1) ∧ (∃ k, k < K ∧ bad k = true ∧ u m = 2 * k) ∧ (∀ i j, i ≤ m → j ≤ m → u i = u j → i = j) ∧ ∀ t, t < m → Rs K bad adj P (u (t + 1)) (u t)
/-- what becomes of the flow -/
def Nxt (P P' : Nat → Nat) (u : Nat → Nat) (m : Nat) : Prop :=
  (∀ t k, t < m → u t = 2 * k → P' k = if u (t + 1) = 2 * k + 1 then 0 else 2 + u (t + 1) / 2) ∧ (∀ k, u m = 2 * k → P' k = 1) ∧ ∀ k, (∀ t, t ≤ m → u t ≠ 2 * k) → P' k = P k
/-- facts of a path -/
theorem Pth.X {P u : Nat → Nat} {m t b : Nat} (h : Pth K bad out adj P u m) (ht : t ≤ m) (hu : u t = 2 * b + 1) : t < m ∧ b < K ∧ ((u (t + 1) = 2 * b ∧ P b = 0) ∨ ∃ k, k < K ∧ u (t + 1) = 2 * k ∧ P k = 2 + b) := by
  obtain ⟨-, ⟨k0, h1, h2, h3⟩, h4, h5⟩ := h
  have hlt : t < m := by
    rcases Nat.lt_or_ge t m with q | q
    · exact q
    · have : t = m := by omega
      subst this; omega
  have := h5 t hlt
  rw [hu] at this
  have := this.x
  exact ⟨hlt, this.1, this.2⟩
theorem Pth.E {P u : Nat → Nat} {m t k : Nat} (h : Pth K bad out adj P u m) (ht : t < m) (hu : u t = 2 * k) : k < K ∧ bad k = false ∧ ((u (t + 1) = 2 * k + 1 ∧ P k ≠ 0) ∨ ∃ b, b < K ∧ u (t + 1) = 2 * b + 1 ∧ adj b k = true) := by
  have := h.2.2.2 t ht
  rw [hu] at this
  exact this.e
theorem Pth.N {P u : Nat → Nat} {m t k : Nat} (h : Pth K bad out adj P u m) (ht : t ≤ m) (hu : u t = 2 * k) : 1 ≤ t ∧ ((u (t - 1) = 2 * k + 1 ∧ P k = 0) ∨ ∃ b, b < K ∧ u (t - 1) = 2 * b + 1 ∧ P k = 2 + b) := by
  obtain ⟨⟨e, h1, h2, h3⟩, -, h4, h5⟩ := h
  have hpos : 1 ≤ t := by
    rcases Nat.lt_or_ge 0 t with q | q
    · exact q
    · have : t = 0 := by omega
      subst this; omega
  have := h5 (t - 1) (by omega)
  rw [show t - 1 + 1 = t by omega, hu] at this
  exact ⟨hpos, this.en⟩
theorem Pth.M {P u : Nat → Nat} {m k : Nat} (h : Pth K bad out adj P u m) (hu : u m = 2 * k) : k < K ∧ bad k = true := by
  obtain ⟨-, ⟨k0, h1, h2, h3⟩, -, -⟩ := h
  have : k0 = k := by omega
  subst this; exact ⟨h1, h2⟩
theorem onp (u : Nat → Nat) (m v : Nat) : (∃ t, t ≤ m ∧ u t = v) ∨ ∀ t, t ≤ m → u t ≠ v := by
  by_cases h : ∃ t, t ≤ m ∧ u t = v
  · exact Or.inl h
  · exact Or.inr fun t ht e => h ⟨t, ht, e⟩
set_option maxHeartbeats 1000000 in
theorem aug {P P' u : Nat → Nat} {m : Nat} (hF : Flw K bad out adj P) (irr : ∀ k, adj k k = false) (hp : Pth K bad out adj P u m) (hn : Nxt P P' u m) : Flw K bad out adj P' ∧ val K P' = val K P + 1 := by
  obtain ⟨f1, f2, f3, f4⟩ := hF
  obtain ⟨n1, n2, n3⟩ := hn
  have hd := hp.2.2.1
  -- an entry on the way
  have ent : ∀ t k, t < m → u t = 2 * k → (u (t + 1) = 2 * k + 1 ∧ P' k = 0 ∧ P k ≠ 0) ∨ ∃ b, b < K ∧ u (t + 1) = 2 * b + 1 ∧ adj b k = true ∧ P' k = 2 + b := by
    intro t k ht hu
    have hP := n1 t k ht hu
    obtain ⟨g1, g2, g3⟩ := hp.E ht hu
    rcases g3 with ⟨g3, g4⟩ | ⟨b, g3, g4, g5⟩
    · rw [if_pos g3] at hP; exact Or.inl ⟨g3, hP, g4⟩
    · have hne : b ≠ k := fun e => by subst e; rw [irr] at g5; cases g5
      rw [if_neg (by omega)] at hP
      exact Or.inr ⟨b, g3, g4, g5, by omega⟩
  -- what comes from b newly
  have new : ∀ k b, k < K → P' k = 2 + b → (∃ t, t < m ∧ u t = 2 * k ∧ u (t + 1) = 2 * b + 1 ∧ adj b k = true ∧ b < K ∧ bad k = false) ∨ ((∀ t, t ≤ m → u t ≠ 2 * k) ∧ P k = 2 + b) := by
    intro k b hk hP
    rcases onp u m (2 * k) with ⟨t, ht, hu⟩ | hno
    · rcases Nat.lt_or_ge t m with q | q
      · have hb := (hp.E q hu).2.1
        rcases ent t k q hu with ⟨_, g2, _⟩ | ⟨c, g1, g2, g3, g4⟩
        · omega
        · have : c = b := by omega
          subst this
          exact Or.inl ⟨t, q, hu, g2, g3, g1, hb⟩
      · have : t = m := by omega
        subst this
        have := n2 k hu
        omega
    · exact Or.inr ⟨hno, by rw [← n3 k hno]; exact hP⟩
  refine ⟨⟨?_, ?_, ?_, ?_⟩, ?_⟩
  · intro k hk h1
    rcases onp u m (2 * k) with ⟨t, ht, hu⟩ | hno
    · rcases Nat.lt_or_ge t m with q | q
      · rcases ent t k q hu with ⟨_, g2, _⟩ | ⟨c, g1, g2, g3, g4⟩ <;> omega
      · have : t = m := by omega
        subst this
        exact (hp.M hu).2
    · rw [n3 k hno] at h1; exact f1 k hk h1
  · intro k b hk h1
    rcases new k b hk h1 with ⟨t, ht, hu, hx, ha, hbK, hbad⟩ | ⟨hno, hP⟩
    · refine ⟨hbK, ha, ?_, hbad⟩
      have hkb : b ≠ k := fun e => by subst e; rw [irr] at ha; cases ha
      -- b is of a chain
      intro h0
      obtain ⟨g1, g2, g3⟩ := hp.X (t := t + 1) (by omega) hx
      rcases g3 with ⟨g3, g4⟩ | ⟨k2, g3, g4, g5⟩
      · -- it was entered just before
        rcases Nat.lt_or_ge (t + 1 + 1) m with q | q
        · rcases ent (t + 1 + 1) b q g3 with ⟨e1, _, _⟩ | ⟨c, _, _, _, e4⟩
          · have := hd (t + 1 + 1 + 1) (t + 1) (by omega) (by omega) (by rw [e1, hx]); omega
          · omega
        · have e : t + 1 + 1 = m := by omega
          rw [e] at g3
          have := n2 b g3
          omega
      · have hb0 := (f2 k2 b g3 g5).2.2.1
        rcases onp u m (2 * b) with ⟨s, hs, hus⟩ | hno
        · rcases Nat.lt_or_ge s m with q | q
          · rcases ent s b q hus with ⟨e1, _, _⟩ | ⟨c, _, _, _, e4⟩
            · have e5 := hd (s + 1) (t + 1) (by omega) (by omega) (by rw [e1, hx])
              have e6 : s = t := by omega
              subst e6; omega
            · omega
          · have : s = m := by omega
            subst this
            have := n2 b hus
            omega
        · rw [n3 b hno] at h0; exact hb0 h0
    · obtain ⟨g1, g2, g3, g4⟩ := f2 k b hk hP
      refine ⟨g1, g2, ?_, g4⟩
      intro h0
      rcases onp u m (2 * b) with ⟨s, hs, hus⟩ | hno2
      · rcases Nat.lt_or_ge s m with q | q
        · rcases ent s b q hus with ⟨e1, _, _⟩ | ⟨c, _, _, _, e4⟩
          · obtain ⟨i1, i2, i3⟩ := hp.X (t := s + 1) (by omega) e1
            rcases i3 with ⟨i3, i4⟩ | ⟨k2, i3, i4, i5⟩
            · exact g3 i4
            · have : k2 = k := f3 k2 k b i3 hk i5 hP
              subst this
              exact hno (s + 1 + 1) (by omega) i4
          · omega
        · have : s = m := by omega
          subst this
          have := n2 b hus
          omega
      · rw [n3 b hno2] at h0; exact g3 h0
  · intro k l b hk hl h1 h2
    have mixed : ∀ k l, k < K → l < K → (∃ t, t < m ∧ u t = 2 * k ∧ u (t + 1) = 2 * b + 1 ∧ adj b k = true ∧ b < K ∧ bad k = false) → ((∀ t, t ≤ m → u t ≠ 2 * l) ∧ P l = 2 + b) → False := by
      rintro k l hk hl ⟨t, ht, hu, hx, -, -, -⟩ ⟨hno, hP⟩
      obtain ⟨i1, i2, i3⟩ := hp.X (t := t + 1) (by omega) hx
      rcases i3 with ⟨i3, i4⟩ | ⟨k2, i3, i4, i5⟩
      · exact (f2 l b hl hP).2.2.1 i4
      · have : k2 = l := f3 k2 l b i3 hl i5 hP
        subst this
        exact hno (t + 1 + 1) (by omega) i4
    rcases new k b hk h1 with a1 | a1 <;> rcases new l b hl h2 with a2 | a2
    · obtain ⟨t, ht, hu, hx, -, -, -⟩ := a1
      obtain ⟨s, hs, hus, hxs, -, -, -⟩ := a2
      have := hd (t + 1) (s + 1) (by omega) (by omega) (by rw [hx, hxs])
      have : t = s := by omega
      subst this; omega
    · exact absurd (mixed k l hk hl a1 a2) id
    · exact absurd (mixed l k hl hk a2 a1) id
    · exact f3 k l b hk hl a1.2 a2.2
  · intro b hb h0 hno
    rcases onp u m (2 * b + 1) with ⟨t, ht, hu⟩ | hxno
    · rcases Nat.lt_or_ge 0 t with q | q
      · -- it goes on
        have hr := hp.2.2.2 (t - 1) (by omega)
        rw [show t - 1 + 1 = t by omega, hu] at hr
        rcases hr.xn with ⟨g1, g2⟩ | ⟨k, g1, g2, g3⟩
        · have hP := n1 (t - 1) b (by omega) g1
          rw [show t - 1 + 1 = t by omega, if_pos hu] at hP
          exact absurd hP h0
        · have hkb : b ≠ k := fun e => by subst e; rw [irr] at g3; cases g3
          have hP := n1 (t - 1) k (by omega) g2
          rw [show t - 1 + 1 = t by omega, if_neg (by omega)] at hP
          exact absurd (by omega : P' k = 2 + b) (hno k g1)
      · have : t = 0 := by omega
        subst this
        obtain ⟨⟨e, h1, h2, h3⟩, -⟩ := hp
        have : e = b := by omega
        subst this; exact h2
    · have hPb : P b ≠ 0 := by
        rcases onp u m (2 * b) with ⟨t, ht, hu⟩ | hno2
        · obtain ⟨g1, g2⟩ := hp.N ht hu
          rcases g2 with ⟨g2, _⟩ | ⟨c, _, _, g3⟩
          · exact absurd g2 (hxno (t - 1) (by omega))
          · omega
        · rw [n3 b hno2] at h0; exact h0
      refine f4 b hb hPb fun k hk hP => ?_
      rcases onp u m (2 * k) with ⟨t, ht, hu⟩ | hno2
      · obtain ⟨g1, g2⟩ := hp.N ht hu
        rcases g2 with ⟨_, g2⟩ | ⟨c, _, g2, g3⟩
        · omega
        · have : c = b := by omega
          subst this
          exact hxno (t - 1) (by omega) g2
      · exact hno k hk (by rw [n3 k hno2]; exact hP)
  · obtain ⟨k0, h1, h2, h3⟩ := hp.2.1
    have hP0 : P k0 = 0 := by
      obtain ⟨g1, g2⟩ := hp.N (Nat.le_refl m) h3
      rcases g2 with ⟨_, g2⟩ | ⟨c, _, _, g3⟩
      · exact g2
      · have := (f2 k0 c h1 g3).2.2.2
        rw [h2] at this; cases this
    have hcg : val K P' = fb_ct (fun k => if k = k0 then true else P k == 1) K := by
      refine fb_ct_cong fun k hk => ?_
      by_cases hkk : k = k0
      · subst hkk
        rw [if_pos rfl, n2 k h3]; rfl
      · rw [if_neg hkk]
        rcases onp u m (2 * k) with ⟨t, ht, hu⟩ | hno
        · rcases Nat.lt_or_ge t m with q | q
          · have hb := (hp.E q hu).2.1
            have e1 : P k ≠ 1 := fun e => by have := f1 k hk e; rw [hb] at this; cases this
            have e2 : P' k ≠ 1 := by
              rcases ent t k q hu with ⟨_, g2, _⟩ | ⟨c, g1, g2, g3, g4⟩ <;> omega
            show (P' k == 1) = (P k == 1)
            rw [show (P' k == 1) = false by simpa using e2, show (P k == 1) = false by simpa using e1]
          · have : t = m := by omega
            subst this; omega
        · rw [n3 k hno]
    have hu := fb_ct_upd (fun k => P k == 1) true h1
    rw [hcg]
    unfold val
    rw [hP0] at hu
    simpa using hu
/-! what is reached -/
def Bfs (K : Nat) (bad : Nat → Bool) (adj : Nat → Nat → Bool) (P : Nat → Nat) (cf q : Nat → Nat) (c : Nat) : Prop :=
  c = fb_ct (fun w => decide (cf w ≠ 0)) (2 * K) ∧
  (∀ i, i < c → q i < 2 * K ∧ ((cf (q i) = 1 ∧ ∃ k, k < K ∧ q i = 2 * k ∧ bad k = true) ∨ ∃ j, j < i ∧ cf (q i) = 2 + q j ∧ Rs K bad adj P (q j) (q i))) ∧
  (∀ w, w < 2 * K → cf w ≠ 0 → ∃ i, i < c ∧ q i = w) ∧
  (∀ i j, i < c → j < c → q i = q j → i = j)
theorem Bfs.le {P cf q : Nat → Nat} {c : Nat} (h : Bfs K bad adj P cf q c) : c ≤ 2 * K := by rw [h.1]; exact fb_ct_le _ _
theorem Bfs.lt {P cf q : Nat → Nat} {c w : Nat} (h : Bfs K bad adj P cf q c) (hw : w < 2 * K) (h0 : cf w = 0) : c < 2 * K := by
  rcases Nat.lt_or_ge c (2 * K) with r | r
  · exact r
  · have e : fb_ct (fun w => decide (cf w ≠ 0)) (2 * K) = 2 * K := by have := h.le; rw [← h.1]; omega
    have := fb_ct_all.mp e w hw
    simp [h0] at this
/-- one more -/
theorem Bfs.st {P cf q : Nat → Nat} {c w s : Nat} (h : Bfs K bad adj P cf q c) (hw : w < 2 * K) (h0 : cf w = 0) (hs0 : s ≠ 0) (hs : (s = 1 ∧ ∃ k, k < K ∧ w = 2 * k ∧ bad k = true) ∨ ∃ j, j < c ∧ s = 2 + q j ∧ Rs K bad adj P (q j) w) : Bfs K bad adj P (va_up cf w s) (va_up q c w) (c + 1) := by
  obtain ⟨h1, h2, h3, h4⟩ := h
  have hcf : ∀ i, i < c → q i ≠ w := by
    intro i hi e
    rcases (h2 i hi).2 with ⟨r, _⟩ | ⟨j, _, r, _⟩ <;> rw [e] at r <;> omega
  refine ⟨?_, ?_, ?_, ?_⟩
  · have hu := fb_ct_upd (fun w => decide (cf w ≠ 0)) true hw
    have e : fb_ct (fun x => decide (va_up cf w s x ≠ 0)) (2 * K) = fb_ct (fun k => if k = w then true else decide (cf k ≠ 0)) (2 * K) := by
      refine fb_ct_cong fun x _ => ?_
      by_cases hx : x = w
      · subst hx; rw [gm_upS, if_pos rfl]; simpa using hs0
      · rw [gm_upN hx, if_neg hx]
    rw [e]
    rw [← h1] at hu
    rw [show decide (cf w ≠ 0) = false by simp [h0], if_neg (by decide), if_pos rfl] at hu
    omega
  · intro i hi
    rcases Nat.lt_succ_iff_lt_or_eq.mp hi with r | r
    · have hne : i ≠ c := by omega
      rw [gm_upN hne, gm_upN (hcf i r)]
      obtain ⟨g1, g2⟩ := h2 i r
      refine ⟨g1, ?_⟩
      rcases g2 with g2 | ⟨j, g2, g3, g4⟩
      · exact Or.inl g2
      · have : j ≠ c := by omega
        exact Or.inr ⟨j, g2, by rw [gm_upN this]; exact g3, by rw [gm_upN this]; exact g4⟩
    · subst r
      rw [gm_upS, gm_upS]
      refine ⟨hw, ?_⟩
      rcases hs with hs | ⟨j, g2, g3, g4⟩
      · exact Or.inl hs
      · have : j ≠ i := by omega
        exact Or.inr ⟨j, g2, by rw [gm_upN this]; exact g3, by rw [gm_upN this]; exact g4⟩
  · intro x hx hne
    by_cases hxw : x = w
    · subst hxw; exact ⟨c, by omega, gm_upS⟩
    · rw [gm_upN hxw] at hne
      obtain ⟨i, hi, e⟩ := h3 x hx hne
      have : i ≠ c := by omega
      exact ⟨i, by omega, by rw [gm_upN this]; exact e⟩
  · intro i j hi hj e
    by_cases hic : i = c
    · by_cases hjc : j = c
      · omega
      · subst hic; rw [gm_upS, gm_upN hjc] at e
        exact absurd e.symm (hcf j (by omega))
    · by_cases hjc : j = c
      · subst hjc; rw [gm_upS, gm_upN hic] at e
        exact absurd e (hcf i (by omega))
      · rw [gm_upN hic, gm_upN hjc] at e
        exact h4 i j (by omega) (by omega) e
theorem Bfs.ini {P : Nat → Nat} {q : Nat → Nat} : Bfs K bad adj P (fun _ => 0) q 0 := by
  refine ⟨?_, fun i hi => by omega, fun w _ h => absurd rfl h, fun i j hi => by omega⟩
  exact (fb_ct_zero.mpr fun k _ => by simp).symm
/-- the way back from place i -/
theorem Bfs.back {P cf q : Nat → Nat} {c : Nat} (h : Bfs K bad adj P cf q c) : ∀ i, i < c → ∃ (m : Nat) (u r : Nat → Nat), m ≤ i ∧ u 0 = q i ∧ r 0 = i ∧ (∀ t, t < m → cf (u t) = 2 + u (t + 1) ∧ Rs K bad adj P (u (t + 1)) (u t) ∧ r (t + 1) < r t) ∧ (∀ t, t ≤ m → r t < c ∧ q (r t) = u t) ∧ cf (u m) = 1 ∧ ∃ k, k < K ∧ bad k = true ∧ u m = 2 * k := by
  intro i
  induction i using Nat.strongRecOn with
  | _ i ih =>
    intro hi
    rcases (h.2.1 i hi).2 with ⟨g1, k, g2, g3, g4⟩ | ⟨j, g1, g2, g3⟩
    · exact ⟨0, fun _ => q i, fun _ => i, by omega, rfl, rfl, fun t ht => by omega, fun t _ => ⟨hi, rfl⟩, g1, k, g2, g4, g3⟩
    · obtain ⟨m, u, r, e1, e2, e3, e4, e5, e6, e7⟩ := ih j g1 (by omega)
      refine ⟨m + 1, fun t => if t = 0 then q i else u (t - 1), fun t => if t = 0 then i else r (t - 1), by omega, rfl, rfl, ?_, ?_, ?_, ?_⟩
      · intro t ht
        by_cases h0 : t = 0
        · subst h0
          show cf (q i) = 2 + u 0 ∧ Rs K bad adj P (u 0) (q i) ∧ r 0 < i
          rw [e2, e3]
          exact ⟨g2, g3, g1⟩
        · have := e4 (t - 1) (by omega)
          rw [show t - 1 + 1 = t by omega] at this
          dsimp only
          rw [if_neg h0, if_neg (by omega), if_neg h0, if_neg (by omega), show t + 1 - 1 = t by omega]
          exact this
      · intro t ht
        dsimp only
        by_cases h0 : t = 0
        · rw [if_pos h0, if_pos h0]; exact ⟨hi, rfl⟩
        · rw [if_neg h0, if_neg h0]
          exact e5 (t - 1) (by omega)
      · exact e6
      · exact e7
/-- a path, when an open exit is reached -/
theorem Bfs.pth {P cf q : Nat → Nat} {c : Nat} (h : Bfs K bad adj P cf q c) {i e : Nat} (hi : i < c) (he : e < K) (ho : out e = true) (hq : q i = 2 * e + 1) : ∃ (m : Nat) (u : Nat → Nat), m < c ∧ u 0 = q i ∧ Pth K bad out adj P u m ∧ (∀ t, t < m → cf (u t) = 2 + u (t + 1)) ∧ cf (u m) = 1 ∧ ∀ t, t ≤ m → u t < 2 * K := by
  obtain ⟨m, u, r, e1, e2, e3, e4, e5, e6, e7⟩ := h.back i hi
  refine ⟨m, u, by omega, e2, ⟨⟨e, he, ho, e2.trans hq⟩, e7, ?_, fun t ht => (e4 t ht).2.1⟩, fun t ht => (e4 t ht).1, e6, fun t ht => ?_⟩
  · have dec : ∀ a d, a + d ≤ m → r (a + d) + d ≤ r a := by
      intro a d
      induction d with
      | zero => intro _; exact Nat.le_refl _
      | succ d ihd =>
        intro hh
        have := ihd (by omega)
        have := (e4 (a + d) (by omega)).2.2
        rw [show a + (d + 1) = a + d + 1 from rfl]
        omega
    have key : ∀ a b, a ≤ m → b ≤ m → a < b → u a ≠ u b := by
      intro a b ha hb hab e
      obtain ⟨g1, g2⟩ := e5 a ha
      obtain ⟨g3, g4⟩ := e5 b hb
      have e8 := h.2.2.2 (r a) (r b) g1 g3 (by rw [g2, g4]; exact e)
      have := dec a (b - a) (by omega)
      rw [show a + (b - a) = b by omega] at this
      omega
    intro a b ha hb e
    rcases Nat.lt_or_ge a b with q | q
    · exact absurd e (key a b ha hb q)
    · rcases Nat.lt_or_ge b a with q2 | q2
      · exact absurd e.symm (key b a hb ha q2)
      · omega
  · obtain ⟨g1, g2⟩ := e5 t ht
    rw [← g2]; exact (h.2.1 (r t) g1).1
/-- when all is gone through, it is a certificate -/
theorem Bfs.crt {P cf q : Nat → Nat} {c : Nat} (h : Bfs K bad adj P cf q c) (hF : Flw K bad out adj P) (hs : ∀ k, k < K → bad k = true → cf (2 * k) ≠ 0) (hcl : ∀ i w, i < c → Rs K bad adj P (q i) w → cf w ≠ 0) (ho : ∀ i e, i < c → e < K → q i = 2 * e + 1 → out e = false) : Crt K bad out adj P (fun w => decide (w < 2 * K) && decide (cf w ≠ 0)) := by
  have rsK : ∀ v w, Rs K bad adj P v w → w < 2 * K := by
    rintro v w (⟨k, hk, h1, h2, h3⟩ | ⟨k, b, hk, hb, h1, h2, h3⟩ | ⟨k, hk, h1, h2, h3, h4⟩ | ⟨k, b, hk, hb, h1, h2, h3, h4⟩) <;> omega
  refine ⟨hF, ⟨fun k hk hb => ?_, fun v w hv hr => ?_⟩, fun k hk hko => ?_, fun R' hR v hv => ?_⟩
  · simp only [Bool.and_eq_true, decide_eq_true_eq]
    exact ⟨by omega, hs k hk hb⟩
  · simp only [Bool.and_eq_true, decide_eq_true_eq] at hv ⊢
    obtain ⟨i, hi, e⟩ := h.2.2.1 v hv.1 hv.2
    refine ⟨rsK v w hr, hcl i w hi ?_⟩
    rw [e]; exact hr
  · cases hq : (decide (2 * k + 1 < 2 * K) && decide (cf (2 * k + 1) ≠ 0)) with
    | false => exact hq
    | true =>
      simp only [Bool.and_eq_true, decide_eq_true_eq] at hq
      obtain ⟨i, hi, e⟩ := h.2.2.1 _ hq.1 hq.2
      have := ho i k hi hk e
      rw [hko] at this; cases this
  · simp only [Bool.and_eq_true, decide_eq_true_eq] at hv
    obtain ⟨i, hi, e⟩ := h.2.2.1 v hv.1 hv.2
    subst e
    clear hv
    induction i using Nat.strongRecOn with
    | _ i ih =>
      rcases (h.2.1 i hi).2 with ⟨g1, k, g2, g3, g4⟩ | ⟨j, g1, g2, g3⟩
      · rw [g3]; exact hR.1 k g2 g4
      · exact hR.2 _ _ (ih j g1 (by omega)) g3
end Aug
