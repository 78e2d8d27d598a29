/-! what the class keeps, and what its queries leave -/
def cS : List Nat := [3, 4, 5, 6, 9, 10, 11, 14, 15, 16, 17, 18, 19, 20, 21, 22]
abbrev ck (mi mi' : Mi) : Prop := fr cS mi mi'
/-- versions: what is kept is of an earlier one or of this -/
def VI (b : Nat) (mi : Mi) : Prop := ∃ V, V ≤ b ∧ mi 1 5 = nI V ∧ (∃ v, v ≤ V ∧ mi 3 12 = nI v) ∧ (∃ v, v ≤ V ∧ mi 3 13 = nI v) ∧ ∃ v, v ≤ V ∧ mi 18 6 = nI v
/-- the class knows the board -/
def CI (b : Nat) (β : Bd) (mi : Mi) (ml : Ml) : Prop := Wf β ∧ β 3 ≤ 7 ∧ Cd β mi ∧ VI b mi ∧ ((mi 3 12 = mi 1 5 → PcI β mi ml) ∧ (mi 3 13 = mi 1 5 → PmI β mi) ∧ (mi 18 6 = mi 1 5 → CcI β mi ml)) ∧ TI 4 mi ml ∧ TI 9 mi ml
theorem TI.m {r : Nat} {mi mi' : Mi} {ml ml' : Ml} (h : TI r mi ml) (e0 : mi' r = mi r) (e1 : mi' (r + 1) = mi (r + 1)) (e2 : mi' (r + 2) = mi (r + 2)) (l3 : ml' (r + 3) = ml (r + 3)) : TI r mi' ml' := by
  unfold TI CT TB at h ⊢
  rw [e0, e1, e2, l3]; exact h
theorem PmI.m {β : Bd} {mi mi' : Mi} (h : PmI β mi) (e10 : mi' 3 10 = mi 3 10) (e11 : mi' 3 11 = mi 3 11) (e14 : mi' 14 = mi 14) (e15 : mi' 15 = mi 15) : PmI β mi' := by
  unfold PmI at h ⊢
  rw [e10, e11, e14, e15]; exact h
theorem CcI.m {β : Bd} {mi mi' : Mi} {ml ml' : Ml} (h : CcI β mi ml) (e : mi' 18 7 = mi 18 7) (l : ml' 18 8 = ml 18 8) : CcI β mi' ml' := by
  unfold CcI at h ⊢
  rw [e, l]; exact h
/-- only the model changes -/
theorem CI.m {b : Nat} {β : Bd} {mi mi' : Mi} {ml : Ml} (h : CI b β mi ml) (e : ∀ c, c < 23 → mi' c = mi c) : CI b β mi' ml := by
  obtain ⟨h1, h2, h3, h4, ⟨h5, h6, h7⟩, h8, h9⟩ := h
  refine ⟨h1, h2, ?_, ?_, ⟨fun q => ?_, fun q => ?_, fun q => ?_⟩, ?_, ?_⟩
  · unfold Cd at h3 ⊢; rw [e 1 (by decide), e 2 (by decide)]; exact h3
  · unfold VI at h4 ⊢; rw [e 1 (by decide), e 3 (by decide), e 18 (by decide)]; exact h4
  · rw [e 1 (by decide), e 3 (by decide)] at q
    exact (h5 q).m (by rw [e 3 (by decide)]) (e 4 (by decide)) (e 5 (by decide)) (e 6 (by decide)) rfl rfl
  · rw [e 1 (by decide), e 3 (by decide)] at q
    exact (h6 q).m (by rw [e 3 (by decide)]) (by rw [e 3 (by decide)]) (e 14 (by decide)) (e 15 (by decide))
  · rw [e 1 (by decide), e 18 (by decide)] at q
    exact (h7 q).m (by rw [e 18 (by decide)]) rfl
  · exact h8.m (e 4 (by decide)) (e 5 (by decide)) (e 6 (by decide)) rfl
  · exact h9.m (e 9 (by decide)) (e 10 (by decide)) (e 11 (by decide)) rfl
section C61
variable {b : Nat} {β : Bd} {g : Nat → Nat}
/-- behind a refresh -/
theorem CI.ref {mi mi' : Mi} {ml ml' : Ml} (h : CI b β mi ml) (f : fr [3, 4, 5, 6, 16, 17] mi mi') (fk : ∀ k, k ≠ 9 → k ≠ 12 → mi' 3 k = mi 3 k) (l : ∀ c, c ∉ [7, 8] → ml' c = ml c) (hv : mi' 3 12 = mi 1 5) (hP : PcI β mi' ml') : CI b β mi' ml' := by
  obtain ⟨h1, h2, h3, h4, ⟨h5, h6, h7⟩, h8, h9⟩ := h
  have hW := h1.2.1
  refine ⟨h1, h2, h3.f f (by decide) (by decide), ?_, ⟨fun _ => hP, fun q => ?_, fun q => ?_⟩, ?_, ?_⟩
  · obtain ⟨V, v1, v2, _, v4, v5⟩ := h4
    refine ⟨V, v1, by rw [f 1 (by decide)]; exact v2, ⟨V, Nat.le_refl V, by rw [hv]; exact v2⟩, by rw [fk 13 (by decide) (by decide)]; exact v4, by rw [f 18 (by decide)]; exact v5⟩
  · rw [fk 13 (by decide) (by decide), f 1 (by decide)] at q
    exact (h6 q).m (fk 10 (by decide) (by decide)) (fk 11 (by decide) (by decide)) (f 14 (by decide)) (f 15 (by decide))
  · rw [f 18 (by decide), f 1 (by decide)] at q
    exact (h7 q).m (by rw [f 18 (by decide)]) (by rw [l 18 (by decide)])
  · exact Or.inr ⟨β 1, β 2, β 3, hW, by have := h1.2.2.1; omega, h2, hP.2.1⟩
  · exact h9.m (f 9 (by decide)) (f 10 (by decide)) (f 11 (by decide)) (l 12 (by decide))
/-- behind marking -/
theorem CI.mrk {mi mi' : Mi} {ml ml' : Ml} (h : CI b β mi ml) (f : pM mi mi' ml ml') (hv : mi' 3 13 = mi 1 5) (hP : PmI β mi') : CI b β mi' ml' := by
  obtain ⟨h1, h2, h3, h4, ⟨h5, h6, h7⟩, h8, h9⟩ := h
  have f1 : fr [3, 14, 15] mi mi' := f.1
  refine ⟨h1, h2, h3.f f1 (by decide) (by decide), ?_, ⟨fun q => ?_, fun _ => hP, fun q => ?_⟩, ?_, ?_⟩
  · obtain ⟨V, v1, v2, v3, _, v5⟩ := h4
    exact ⟨V, v1, by rw [f1 1 (by decide)]; exact v2, by rw [f.2.1 12 (by decide) (by decide) (by decide)]; exact v3, ⟨V, Nat.le_refl V, by rw [hv]; exact v2⟩, by rw [f1 18 (by decide)]; exact v5⟩
  · rw [f.2.1 12 (by decide) (by decide) (by decide), f1 1 (by decide)] at q
    exact (h5 q).m (f.2.1 9 (by decide) (by decide) (by decide)) (f1 4 (by decide)) (f1 5 (by decide)) (f1 6 (by decide)) (f.2.2 7 (by decide)) (f.2.2 8 (by decide))
  · rw [f1 18 (by decide), f1 1 (by decide)] at q
    exact (h7 q).m (by rw [f1 18 (by decide)]) (by rw [f.2.2 18 (by decide)])
  · exact h8.m (f1 4 (by decide)) (f1 5 (by decide)) (f1 6 (by decide)) (f.2.2 7 (by decide))
  · exact h9.m (f1 9 (by decide)) (f1 10 (by decide)) (f1 11 (by decide)) (f.2.2 12 (by decide))
/-- behind a trial -/
theorem CI.tri {mi mi' : Mi} {ml ml' : Ml} (h : CI b β mi ml) (f : pL mi mi' ml ml') (hT : TI 9 mi' ml') : CI b β mi' ml' := by
  obtain ⟨h1, h2, h3, h4, ⟨h5, h6, h7⟩, h8, h9⟩ := h
  have f1 : fr [9, 10, 11] mi mi' := f.1
  refine ⟨h1, h2, h3.f f1 (by decide) (by decide), ?_, ⟨fun q => ?_, fun q => ?_, fun q => ?_⟩, ?_, hT⟩
  · unfold VI at h4 ⊢; rw [f1 1 (by decide), f1 3 (by decide), f1 18 (by decide)]; exact h4
  · rw [f1 3 (by decide), f1 1 (by decide)] at q
    exact (h5 q).m (by rw [f1 3 (by decide)]) (f1 4 (by decide)) (f1 5 (by decide)) (f1 6 (by decide)) (f.2 7 (by decide)) (f.2 8 (by decide))
  · rw [f1 3 (by decide), f1 1 (by decide)] at q
    exact (h6 q).m (by rw [f1 3 (by decide)]) (by rw [f1 3 (by decide)]) (f1 14 (by decide)) (f1 15 (by decide))
  · rw [f1 18 (by decide), f1 1 (by decide)] at q
    exact (h7 q).m (by rw [f1 18 (by decide)]) (by rw [f.2 18 (by decide)])
  · exact h8.m (f1 4 (by decide)) (f1 5 (by decide)) (f1 6 (by decide)) (f.2 7 (by decide))
/-- behind the chains -/
theorem CI.chn {mi mi' : Mi} {ml ml' : Ml} (h : CI b β mi ml) (f : fr [18, 19, 20, 21, 22] mi mi') (l : ∀ c, c ≠ 18 → ml' c = ml c) (hv : mi' 18 6 = mi 1 5) (hP : CcI β mi' ml') : CI b β mi' ml' := by
  obtain ⟨h1, h2, h3, h4, ⟨h5, h6, h7⟩, h8, h9⟩ := h
  refine ⟨h1, h2, h3.f f (by decide) (by decide), ?_, ⟨fun q => ?_, fun q => ?_, fun _ => hP⟩, ?_, ?_⟩
  · obtain ⟨V, v1, v2, v3, v4, _⟩ := h4
    exact ⟨V, v1, by rw [f 1 (by decide)]; exact v2, by rw [f 3 (by decide)]; exact v3, by rw [f 3 (by decide)]; exact v4, V, Nat.le_refl V, by rw [hv]; exact v2⟩
  · rw [f 3 (by decide), f 1 (by decide)] at q
    exact (h5 q).m (by rw [f 3 (by decide)]) (f 4 (by decide)) (f 5 (by decide)) (f 6 (by decide)) (l 7 (by decide)) (l 8 (by decide))
  · rw [f 3 (by decide), f 1 (by decide)] at q
    exact (h6 q).m (by rw [f 3 (by decide)]) (by rw [f 3 (by decide)]) (f 14 (by decide)) (f 15 (by decide))
  · exact h8.m (f 4 (by decide)) (f 5 (by decide)) (f 6 (by decide)) (l 7 (by decide))
  · exact h9.m (f 9 (by decide)) (f 10 (by decide)) (f 11 (by decide)) (l 12 (by decide))
variable {mi : Mi} {ml : Ml} {F : Int32 → Mi → Ml → Prop}
theorem q33 {F : Mi → Ml → Prop} (hI : CI b β mi ml) (h : ∀ mi' ml', ck mi mi' → CI b β mi' ml' → mi' 3 12 = mi' 1 5 → F mi' ml') : Sg 33 0 [some (.ref 3)] [] mi ml (qv F) :=
  c33 hI.1 hI.2.1 hI.2.2.1 hI.2.2.2.2.1.1 hI.2.2.2.2.2.1 (fun mi' ml' a1 a2 a3 => h mi' ml' (fr.mono (S := [3, 4, 5, 6]) a1.1 (by decide)) (hI.ref (fr.mono (S := [3, 4, 5, 6]) a1.1 (by decide)) a1.2.1 a1.2.2 a2 a3) (by rw [a1.1 1 (by decide)]; exact a2))
/-- isWhole -/
theorem q36 (hI : CI b β mi ml) (h : ∀ mi' ml', ck mi mi' → CI b β mi' ml' → F (bI (whole β)) mi' ml') : Sg 36 0 [some (.ref 3)] [] mi ml (qi F) :=
  c36 hI.1 hI.2.1 hI.2.2.1 hI.2.2.2.2.1.1 hI.2.2.2.2.2.1 (fun mi' ml' a1 a2 a3 => h mi' ml' (fr.mono (S := [3, 4, 5, 6]) a1.1 (by decide)) (hI.ref (fr.mono (S := [3, 4, 5, 6]) a1.1 (by decide)) a1.2.1 a1.2.2 a2 a3))
/-- seatsOfRow -/
theorem q37 {x : Int32} {y : Nat} (hx : x = nI y) (hy : y < β 0) (hI : CI b β mi ml) (h : ∀ mi' ml', ck mi mi' → CI b β mi' ml' → F (nI (fb_ct (fit β y) (2 ^ (β 1)))) mi' ml') : Sg 37 0 [some (.ref 3), some (.int x)] [] mi ml (qi F) :=
  c37 hx hy hI.1 hI.2.1 hI.2.2.1 hI.2.2.2.2.1.1 hI.2.2.2.2.2.1 (fun mi' ml' a1 a2 a3 => h mi' ml' (fr.mono (S := [3, 4, 5, 6]) a1.1 (by decide)) (hI.ref (fr.mono (S := [3, 4, 5, 6]) a1.1 (by decide)) a1.2.1 a1.2.2 a2 a3))
/-- seatsOfAllRows -/
theorem q38 (hI : CI b β mi ml) (h : ∀ mi' ml', ck mi mi' → CI b β mi' ml' → F (nI (sm (fun y => fb_ct (fit β y) (2 ^ (β 1))) (β 0))) mi' ml') : Sg 38 0 [some (.ref 3), none, none] [] mi ml (qi F) :=
  c38 hI.1 hI.2.1 hI.2.2.1 hI.2.2.2.2.1.1 hI.2.2.2.2.2.1 (fun mi' ml' a1 a2 a3 => h mi' ml' (fr.mono (S := [3, 4, 5, 6]) a1.1 (by decide)) (hI.ref (fr.mono (S := [3, 4, 5, 6]) a1.1 (by decide)) a1.2.1 a1.2.2 a2 a3))
/-- refresh, then the marks -/
theorem q43 {F : Mi → Ml → Prop} (hI : CI b β mi ml) (h : ∀ mi' ml', ck mi mi' → CI b β mi' ml' → PmI β mi' → F mi' ml') : Sg 33 0 [some (.ref 3)] [] mi ml (qv fun mi2 ml3 => Sg 43 0 [some (.ref 3)] [] mi2 ml3 (qv F)) :=
  q33 hI (fun m1 l1 a1 a2 a3 => c43 a2.1 a2.2.2.1 (a2.2.2.2.2.1.1 a3) a2.2.2.2.2.1.2.1 (fun m2 l2 c1 c2 c3 => h m2 l2 (a1.tr (fr.mono (S := [3, 14, 15]) c1.1 (by decide))) (a2.mrk c1 c2 c3) c3))
theorem q39 (hI : CI b β mi ml) (h : ∀ mi' ml', ck mi mi' → CI b β mi' ml' → F (wt0 β) mi' ml') : Sg 39 0 [some (.ref 3)] [] mi ml (qi F) :=
  rg39_0 (q43 hI (fun m l a1 a2 a3 => by rw [a3.1.1]; exact h m l a1 a2))
theorem q40 (hI : CI b β mi ml) (h : ∀ mi' ml', ck mi mi' → CI b β mi' ml' → F (wt1 β) mi' ml') : Sg 40 0 [some (.ref 3)] [] mi ml (qi F) :=
  rg40_0 (q43 hI (fun m l a1 a2 a3 => by rw [a3.1.2]; exact h m l a1 a2))
theorem q41 {x : Int32} {y : Nat} (hx : x = nI y) (hy : y < β 0) (hI : CI b β mi ml) (h : ∀ mi' ml', ck mi mi' → CI b β mi' ml' → F (nI (corW β y)) mi' ml') : Sg 41 0 [some (.ref 3), some (.int x)] [] mi ml (qi F) := by
  subst hx
  have hH := hI.1.1
  refine rg41_0 (q43 hI (fun m l a1 a2 a3 => ⟨pk_in y 7 (by omega), ?_⟩))
  rw [nI_clamp (by omega), (a3.2 y hy).1]
  exact h m l a1 a2
theorem q42 {x : Int32} {y : Nat} (hx : x = nI y) (hy : y < β 0) (hI : CI b β mi ml) (h : ∀ mi' ml', ck mi mi' → CI b β mi' ml' → F (nI (criW β y)) mi' ml') : Sg 42 0 [some (.ref 3), some (.int x)] [] mi ml (qi F) := by
  subst hx
  have hH := hI.1.1
  refine rg42_0 (q43 hI (fun m l a1 a2 a3 => ⟨pk_in y 7 (by omega), ?_⟩))
  rw [nI_clamp (by omega), (a3.2 y hy).2]
  exact h m l a1 a2
/-- leastLength, greatestWish -/
theorem q47 (hI : CI b β mi ml) (h : ∀ mi' ml', ck mi mi' → CI b β mi' ml' → F (ls0 β) mi' ml') : Sg 47 0 [some (.ref 3), none] [] mi ml (qi F) :=
  c47 hI.1 hI.2.2.1 hI.2.2.2.2.2.2 (fun m l a1 a2 => h m l (fr.mono (S := [9, 10, 11]) a1.1 (by decide)) (hI.tri a1 a2))
theorem q48 (hI : CI b β mi ml) (h : ∀ mi' ml', ck mi mi' → CI b β mi' ml' → F (ls1 β) mi' ml') : Sg 48 0 [some (.ref 3), none] [] mi ml (qi F) :=
  c48 hI.1 hI.2.1 hI.2.2.1 hI.2.2.2.2.2.2 (fun m l a1 a2 => h m l (fr.mono (S := [9, 10, 11]) a1.1 (by decide)) (hI.tri a1 a2))
/-- fewestMoves -/
theorem q49 (hI : CI b β mi ml) (hS : SY 23 mi (β 2) g) (h : ∀ mi' ml', ck mi mi' → CI b β mi' ml' → PcI β mi' ml' → (whole β = true → ∀ y, y < β 0 → MV β g y mi') → F (if whole β then nI (few β g) else -1) mi' ml') : Sg 49 0 [some (.ref 3), some (.ref 23), none] [] mi ml (qi F) :=
  c49 hI.1 hI.2.1 hI.2.2.1 hI.2.2.2.2.1.1 hI.2.2.2.2.2.1 hS (fun m l f fk fl hv hP hM => h m l (f.mono (by decide)) (hI.ref f fk fl hv hP) hP hM)
/-- chains, cut -/
theorem q13 (hI : CI b β mi ml) (h : ∀ mi' ml', ck mi mi' → CI b β mi' ml' → F (nI (chN β)) mi' ml') : Sg 13 0 [some (.ref 18)] [] mi ml (qi F) :=
  c13 hI.1 hI.2.2.1 hI.2.2.2.2.1.2.2 (fun m l f fl hv hP => h m l (f.mono (by decide)) (hI.chn f fl hv hP))
theorem q14 {F : Int64 → Mi → Ml → Prop} (hI : CI b β mi ml) (h : ∀ mi' ml', ck mi mi' → CI b β mi' ml' → F (lN (cuM β)) mi' ml') : Sg 14 0 [some (.ref 18)] [] mi ml (ql F) :=
  c14 hI.1 hI.2.2.1 hI.2.2.2.2.1.2.2 (fun m l f fl hv hP => h m l (f.mono (by decide)) (hI.chn f fl hv hP))
end C61
