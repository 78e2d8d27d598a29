/-! what class and model have in common -/
/-- seats that count: laid ones, or the first columns -/
def gof (lp : Bool) (q : Nat → Nat) (n : Nat) : Nat → Nat := fun y => if lp then q y else 2 ^ n - 1
/-- β board; lp, q: what is laid; fu, sd, sq: slots -/
def PV (β : Bd) (lp : Bool) (q : Nat → Nat) (fu : Nat) (sd sq : Nat → Nat → Nat) : Prop := Wf β ∧ β 3 ≤ 3 ∧ (∀ y, y < 7 → q y < 128) ∧ (lp = true → ∀ y, y < β 0 → pcn (q y) = β 2) ∧ fu < 64 ∧ ∀ s, s < 6 → (sd s 0 < 8 ∧ sd s 1 < 8 ∧ sd s 2 < 8) ∧ (∀ y, y < 7 → sq s y < 128) ∧ (fu.testBit s = true → ∀ y, y < sd s 0 → pcn (sq s y) = sd s 2)
def CL (β : Bd) (lp : Bool) (q : Nat → Nat) (mi : Mi) : Prop := mi 23 0 = bI lp ∧ (∀ y, y < 7 → mi 24 y = nI (q y)) ∧ (lp = true → mi 23 1 = nI (β 0) ∧ mi 23 2 = nI (β 1) ∧ mi 23 3 = nI (β 2))
def CSl (fu : Nat) (sd sq : Nat → Nat → Nat) (mi : Mi) : Prop := ∀ s, s < 6 → mi (27 + 2 * s) 0 = bI (fu.testBit s) ∧ (mi (27 + 2 * s) 1 = nI (sd s 0) ∧ mi (27 + 2 * s) 2 = nI (sd s 1) ∧ mi (27 + 2 * s) 3 = nI (sd s 2)) ∧ ∀ y, y < 7 → mi (27 + 2 * s + 1) y = nI (sq s y)
def ML (lp : Bool) (q : Nat → Nat) (mi : Mi) : Prop := mi 47 11 = bI lp ∧ ∀ y, y < 7 → mi 53 y = nI (q y)
def MSl (fu : Nat) (sd sq : Nat → Nat → Nat) (mi : Mi) : Prop := mi 47 28 = nI fu ∧ ∀ s, s < 6 → (mi 67 s = nI (sd s 0) ∧ mi 68 s = nI (sd s 1) ∧ mi 69 s = nI (sd s 2)) ∧ ∀ y, y < 7 → mi 66 (7 * s + y) = nI (sq s y)
/-- sheets -/
def XI (mi : Mi) : Prop := ∀ s, s < 4 → ((mi (39 + 2 * s) 0 = 1 ∧ mi 48 s = -1) ∨ (mi (39 + 2 * s) 0 = 0 ∧ ∃ f, f ≤ 2 ∧ mi (39 + 2 * s) 1 = nI f ∧ mi 48 s = nI f)) ∧ ∃ z, z ≤ 60 ∧ mi (39 + 2 * s) 2 = nI z ∧ mi 49 s = nI z ∧ ∀ i, i < z → mi (39 + 2 * s + 1) i = mi 50 (60 * s + i)
def KC (b : Nat) (β : Bd) (lp : Bool) (q : Nat → Nat) (fu : Nat) (sd sq : Nat → Nat → Nat) (mi : Mi) (ml : Ml) : Prop := PV β lp q fu sd sq ∧ CI b β mi ml ∧ CL β lp q mi ∧ CSl fu sd sq mi
def KM (β : Bd) (lp : Bool) (q : Nat → Nat) (fu : Nat) (sd sq : Nat → Nat → Nat) (mi : Mi) : Prop := Md β mi ∧ ML lp q mi ∧ MSl fu sd sq mi
def RX (b : Nat) (β : Bd) (lp : Bool) (q : Nat → Nat) (fu : Nat) (sd sq : Nat → Nat → Nat) (mi : Mi) (ml : Ml) : Prop := KC b β lp q fu sd sq mi ml ∧ KM β lp q fu sd sq mi ∧ XI mi ∧ mi 0 6 = mi 47 13 ∧ mi 0 7 = mi 47 4
def Rel (b : Nat) (mi : Mi) (ml : Ml) : Prop := ∃ β lp q fu sd sq, RX b β lp q fu sd sq mi ml
/-- the answers are the same, and all goes on -/
def eqR {α : Type} (b : Nat) (v : α) : α → Mi → Ml → Prop := fun w mi ml => v = w ∧ Rel b mi ml
section C63
variable {b : Nat} {β : Bd} {lp : Bool} {q : Nat → Nat} {fu : Nat} {sd sq : Nat → Nat → Nat} {mi mi' : Mi} {ml ml' : Ml}
theorem CL.m (h : CL β lp q mi) (e23 : mi' 23 = mi 23) (e24 : mi' 24 = mi 24) : CL β lp q mi' := by unfold CL at h ⊢; rw [e23, e24]; exact h
theorem CSl.m (h : CSl fu sd sq mi) (e : ∀ c, 27 ≤ c → c ≤ 38 → mi' c = mi c) : CSl fu sd sq mi' := fun s hs => by rw [e (27 + 2 * s) (by omega) (by omega), e (27 + 2 * s + 1) (by omega) (by omega)]; exact h s hs
theorem ML.m (h : ML lp q mi) (e : mi' 47 11 = mi 47 11) (e53 : mi' 53 = mi 53) : ML lp q mi' := by unfold ML at h ⊢; rw [e, e53]; exact h
theorem MSl.m (h : MSl fu sd sq mi) (e : mi' 47 28 = mi 47 28) (e66 : mi' 66 = mi 66) (e67 : mi' 67 = mi 67) (e68 : mi' 68 = mi 68) (e69 : mi' 69 = mi 69) : MSl fu sd sq mi' := by unfold MSl at h ⊢; rw [e, e66, e67, e68, e69]; exact h
theorem XI.m (h : XI mi) (e : ∀ c, 39 ≤ c → c ≤ 46 → mi' c = mi c) (e48 : mi' 48 = mi 48) (e49 : mi' 49 = mi 49) (e50 : mi' 50 = mi 50) : XI mi' := fun s hs => by rw [e (39 + 2 * s) (by omega) (by omega), e (39 + 2 * s + 1) (by omega) (by omega), e48, e49, e50]; exact h s hs
theorem Md.m (h : Md β mi) (e5 : mi' 47 5 = mi 47 5) (e6 : mi' 47 6 = mi 47 6) (e7 : mi' 47 7 = mi 47 7) (e8 : mi' 47 8 = mi 47 8) (e9 : mi' 47 9 = mi 47 9) (e52 : mi' 52 = mi 52) : Md β mi' := by unfold Md Mb at h ⊢; rw [e5, e6, e7, e8, e9, e52]; exact h
theorem KC.wf (h : KC b β lp q fu sd sq mi ml) : Wf β := h.1.1
theorem KC.cd (h : KC b β lp q fu sd sq mi ml) : Cd β mi := h.2.1.2.2.1
/-- behind a query of the class -/
theorem KC.qy (h : KC b β lp q fu sd sq mi ml) (f : ck mi mi') (hI : CI b β mi' ml') : KC b β lp q fu sd sq mi' ml' :=
  ⟨h.1, hI, h.2.2.1.m (f 23 (by decide)) (f 24 (by decide)), h.2.2.2.m (fun c h1 h2 => f c (by intro hc; simp only [cS, List.mem_cons, List.not_mem_nil, or_false] at hc; omega))⟩
theorem ck_hi (f : ck mi mi') (c : Nat) (hc : 23 ≤ c) : mi' c = mi c := f c (by intro h; simp only [cS, List.mem_cons, List.not_mem_nil, or_false] at h; omega)
theorem mk_lo (f : mk mi mi') (c : Nat) (hc : c < 47) : mi' c = mi c := f.1 c (by intro h; simp only [mS, List.mem_cons, List.not_mem_nil, or_false] at h; omega) (by omega)
/-- only cells of the class change -/
theorem KM.c (h : KM β lp q fu sd sq mi) (f : ∀ c, 47 ≤ c → mi' c = mi c) : KM β lp q fu sd sq mi' :=
  ⟨h.1.m (by rw [f 47 (by decide)]) (by rw [f 47 (by decide)]) (by rw [f 47 (by decide)]) (by rw [f 47 (by decide)]) (by rw [f 47 (by decide)]) (f 52 (by decide)), h.2.1.m (by rw [f 47 (by decide)]) (f 53 (by decide)), h.2.2.m (by rw [f 47 (by decide)]) (f 66 (by decide)) (f 67 (by decide)) (f 68 (by decide)) (f 69 (by decide))⟩
/-- only what the model may forget changes -/
theorem KM.k (h : KM β lp q fu sd sq mi) (f : mk mi mi') : KM β lp q fu sd sq mi' :=
  ⟨h.1.mk f, h.2.1.m (f.2 11 (by decide) (by decide)) (f.1 53 (by decide) (by decide)), h.2.2.m (f.2 28 (by decide) (by decide)) (f.1 66 (by decide) (by decide)) (f.1 67 (by decide) (by decide)) (f.1 68 (by decide) (by decide)) (f.1 69 (by decide) (by decide))⟩
theorem KC.k (h : KC b β lp q fu sd sq mi ml) (f : ∀ c, c < 47 → mi' c = mi c) : KC b β lp q fu sd sq mi' ml :=
  ⟨h.1, h.2.1.m (fun c hc => f c (by omega)), h.2.2.1.m (f 23 (by decide)) (f 24 (by decide)), h.2.2.2.m (fun c _ h2 => f c (by omega))⟩
/-- behind a query of both -/
theorem RX.qy (h : RX b β lp q fu sd sq mi ml) {m1 m2 : Mi} {l1 : Ml} (f : ck mi m1) (hK : KC b β lp q fu sd sq m1 l1) (k : mk m1 m2) : RX b β lp q fu sd sq m2 l1 := by
  obtain ⟨h1, h2, h3, h4, h5⟩ := h
  refine ⟨hK.k (mk_lo k), (h2.c (fun c hc => ck_hi f c (by omega))).k k, ?_, ?_, ?_⟩
  · refine h3.m (fun c c1 c2 => by rw [mk_lo k c (by omega), ck_hi f c (by omega)]) ?_ ?_ ?_
    · rw [k.1 48 (by decide) (by decide), ck_hi f 48 (by decide)]
    · rw [k.1 49 (by decide) (by decide), ck_hi f 49 (by decide)]
    · rw [k.1 50 (by decide) (by decide), ck_hi f 50 (by decide)]
  · rw [mk_lo k 0 (by decide), f 0 (by decide), k.2 13 (by decide) (by decide), ck_hi f 47 (by decide)]; exact h4
  · rw [mk_lo k 0 (by decide), f 0 (by decide), k.2 4 (by decide) (by decide), ck_hi f 47 (by decide)]; exact h5
/-- a finding -/
theorem RX.fnd (h : RX b β lp q fu sd sq mi ml) {x : Int32} : RX b β lp q fu sd sq (va_up (va_up mi 0 (va_up (mi 0) 7 x)) 47 (va_up ((va_up mi 0 (va_up (mi 0) 7 x)) 47) 4 x)) ml := by
  obtain ⟨h1, h2, h3, h4, h5⟩ := h
  have e : ∀ c, c ≠ 0 → c ≠ 47 → (va_up (va_up mi 0 (va_up (mi 0) 7 x)) 47 (va_up ((va_up mi 0 (va_up (mi 0) 7 x)) 47) 4 x)) c = mi c := fun c c0 c47 => by rw [gm_upN c47, gm_upN c0]
  have e7 : ∀ k, k ≠ 4 → (va_up (va_up mi 0 (va_up (mi 0) 7 x)) 47 (va_up ((va_up mi 0 (va_up (mi 0) 7 x)) 47) 4 x)) 47 k = mi 47 k := fun k hk => by rw [gm_upS, gm_upN hk, gm_upN (by decide)]
  have e0 : (va_up (va_up mi 0 (va_up (mi 0) 7 x)) 47 (va_up ((va_up mi 0 (va_up (mi 0) 7 x)) 47) 4 x)) 0 = va_up (mi 0) 7 x := by rw [gm_upN (by decide), gm_upS]
  refine ⟨⟨h1.1, ?_, h1.2.2.1.m (e 23 (by decide) (by decide)) (e 24 (by decide) (by decide)), h1.2.2.2.m (fun c c1 c2 => e c (by omega) (by omega))⟩, ⟨h2.1.m (e7 5 (by decide)) (e7 6 (by decide)) (e7 7 (by decide)) (e7 8 (by decide)) (e7 9 (by decide)) (e 52 (by decide) (by decide)), h2.2.1.m (e7 11 (by decide)) (e 53 (by decide) (by decide)), h2.2.2.m (e7 28 (by decide)) (e 66 (by decide) (by decide)) (e 67 (by decide) (by decide)) (e 68 (by decide) (by decide)) (e 69 (by decide) (by decide))⟩, h3.m (fun c c1 c2 => e c (by omega) (by omega)) (e 48 (by decide) (by decide)) (e 49 (by decide) (by decide)) (e 50 (by decide) (by decide)), ?_, ?_⟩
  · obtain ⟨k1, k2, k3, k4, ⟨k5, k6, k7⟩, k8, k9⟩ := h1.2.1
    refine ⟨k1, k2, ?_, ?_, ⟨fun r => ?_, fun r => ?_, fun r => ?_⟩, ?_, ?_⟩
    · unfold Cd; rw [e 1 (by decide) (by decide), e 2 (by decide) (by decide)]; exact k3
    · unfold VI; rw [e 1 (by decide) (by decide), e 3 (by decide) (by decide), e 18 (by decide) (by decide)]; exact k4
    · rw [e 1 (by decide) (by decide), e 3 (by decide) (by decide)] at r
      exact (k5 r).m (by rw [e 3 (by decide) (by decide)]) (e 4 (by decide) (by decide)) (e 5 (by decide) (by decide)) (e 6 (by decide) (by decide)) rfl rfl
    · rw [e 1 (by decide) (by decide), e 3 (by decide) (by decide)] at r
      exact (k6 r).m (by rw [e 3 (by decide) (by decide)]) (by rw [e 3 (by decide) (by decide)]) (e 14 (by decide) (by decide)) (e 15 (by decide) (by decide))
    · rw [e 1 (by decide) (by decide), e 18 (by decide) (by decide)] at r
      exact (k7 r).m (by rw [e 18 (by decide) (by decide)]) rfl
    · exact k8.m (e 4 (by decide) (by decide)) (e 5 (by decide) (by decide)) (e 6 (by decide) (by decide)) rfl
    · exact k9.m (e 9 (by decide) (by decide)) (e 10 (by decide) (by decide)) (e 11 (by decide) (by decide)) rfl
  · rw [e0, e7 13 (by decide), gm_upN (by decide)]; exact h4
  · rw [e0, gm_upS, gm_upS, gm_upS]
theorem Rel.mono {b b' : Nat} (hb : b ≤ b') (h : Rel b mi ml) : Rel b' mi ml := by
  obtain ⟨β, lp, q, fu, sd, sq, ⟨h1, ⟨k1, k2, k3, ⟨V, k4, k4'⟩, k5⟩, h2, h3⟩, h4⟩ := h
  exact ⟨β, lp, q, fu, sd, sq, ⟨h1, ⟨k1, k2, k3, ⟨V, by omega, k4'⟩, k5⟩, h2, h3⟩, h4⟩
/-- laid seats, both ways -/
theorem KC.sy (h : KC b β lp q fu sd sq mi ml) : SY 23 mi (β 2) (gof lp q (β 2)) := by
  have hn : β 2 ≤ 7 := by have := h.1.1.2.2.1; have := h.1.1.2.1; omega
  have hq := h.1.2.2.1
  refine ⟨fun y hy => ?_, ?_⟩
  · unfold gof
    split
    · exact hq y hy
    · have : 2 ^ β 2 ≤ 128 := pw7 hn
      omega
  · cases lp with
    | true => exact Or.inl ⟨h.2.2.1.1, fun y hy => h.2.2.1.2.1 y hy⟩
    | false => exact Or.inr ⟨h.2.2.1.1, fun y hy => rfl⟩
theorem KM.sn (h : KM β lp q fu sd sq mi) (hp : PV β lp q fu sd sq) : SN mi (β 2) (gof lp q (β 2)) := by
  have hn : β 2 ≤ 7 := by have := hp.1.2.2.1; have := hp.1.2.1; omega
  have hq := hp.2.2.1
  refine ⟨fun y hy => ?_, ?_⟩
  · unfold gof
    split
    · exact hq y hy
    · have : 2 ^ β 2 ≤ 128 := pw7 hn
      omega
  · cases lp with
    | true => exact Or.inl ⟨h.2.1.1, fun y hy => h.2.1.2 y hy⟩
    | false => exact Or.inr ⟨h.2.1.1, fun y hy => rfl⟩
end C63
