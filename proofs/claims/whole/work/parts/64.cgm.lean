/-! the class's own queries -/
/-- whether a switch's number is far -/
theorem swF {x : Int32} {n : Nat} (hn : n < 1000) (h : Int32.toInt x < 0 ∨ (n : Int) < Int32.toInt x) : ∀ w, w ≤ n → x ≠ nI w := by
  intro w hw e
  rw [e, nI_toInt (by omega)] at h
  omega
theorem swF' {x : Int32} {n : Nat} (hn : n < 1000) (h : ∀ w, w ≤ n → x ≠ nI w) : Int32.toInt x < 0 ∨ (n : Int) < Int32.toInt x := by
  rcases rgI x n (by omega) with ⟨s, hs, e⟩ | q
  · exact absurd e (h s hs)
  · rcases q with q | q
    · rw [fa_lt] at q
      exact Or.inl q
    · rw [fa_lt, nI_toInt (by omega)] at q
      exact Or.inr q
/-- the answer of cell -/
noncomputable def ceA (β : Bd) (lp : Bool) (q : Nat → Nat) (y x : Nat) : Nat → Int32
  | 0 => bI ((β (8 + y)).testBit x)
  | 1 => if lp then (if (q y).testBit x then nI (ct (q y) x) else -1) else -1
  | 2 => bI ((criW β y).testBit x)
  | 3 => bI ((corW β y).testBit x)
  | _ => bI ((cuM β).testBit (y * β 1 + x))
/-- the answer of count -/
noncomputable def coA (β : Bd) (lp : Bool) (fu : Nat) (mv lt : Int32) : Nat → Int32
  | 0 => nI (β 0 * β 1)
  | 1 => nI (sm (fun y => pcn (β (8 + y))) (β 0))
  | 2 => bI (whole β)
  | 3 => mv
  | 4 => nI (ct fu 6)
  | 5 => bI lp
  | 6 => nI (chN β)
  | 7 => nI (sm (fun y => fb_ct (fit β y) (2 ^ (β 1))) (β 0))
  | _ => lt
/-- the answer of differ, of a slot that is full -/
def diA (β : Bd) (g : Nat → Nat) (sd sq : Nat → Nat → Nat) (s : Nat) : Int32 := if sd s 0 = β 0 ∧ sd s 1 = β 1 ∧ sd s 2 = β 2 then nI (sm (fun y => mvN (g y) (sq s y) (β 2)) (β 0)) else -3
theorem corW_l {β : Bd} (hβ : Wf β) {y : Nat} (hy : y < 7) : corW β y < 128 := by
  unfold corW
  split
  · omega
  · have h := coS_wf hβ (β 0 * β 1) (Nat.le_refl _)
    exact h.bd hy
theorem criW_l {β : Bd} (hβ : Wf β) (y : Nat) : criW β y < 128 := by
  unfold criW
  split
  · exact cri_128 hβ.2.1.2 y
  · omega
theorem cuM_l {β : Bd} (hβ : Wf β) : cuM β < 2 ^ 49 := Nat.lt_of_lt_of_le (bm_lt _ _) (Nat.pow_le_pow_right (by decide) (HW49 hβ))
theorem lN_toI (m : Nat) : (lN m).toInt32 = nI m := Int64.toInt32_ofNat'
theorem cutbit {m k : Nat} (hm : m < 2 ^ 62) (hk : k < 64) : (Int64.toInt32 (lushr (lN m) (nI k))) &&& 1 = bI (m.testBit k) := by
  rw [lushr_N (by omega) hk, lN_toI]
  have e : nI (m / 2 ^ k) &&& 1 = nI (m / 2 ^ k % 2) := fa_mask (m / 2 ^ k) 1
  rw [e, tb_div]
  rcases Nat.mod_two_eq_zero_or_one (m / 2 ^ k) with h | h <;> rw [h] <;> rfl
section C64
variable {b : Nat} {β : Bd} {lp : Bool} {q : Nat → Nat} {fu : Nat} {sd sq : Nat → Nat → Nat} {mi : Mi} {ml : Ml} {F : Int32 → Mi → Ml → Prop}
theorem k36 (hK : KC b β lp q fu sd sq mi ml) (h : ∀ m l, ck mi m → KC b β lp q fu sd sq m l → F (bI (whole β)) m l) : Sg 36 0 [some (.ref 3)] [] mi ml (qi F) := q36 hK.2.1 (fun m l f c => h m l f (hK.qy f c))
theorem b01 {c : Bool} {G : Int32 → Prop} (h : G (bI c)) : ((bI c = 0) → G 0) ∧ (¬ (bI c = 0) → G 1) := by
  cases c
  · exact ⟨fun _ => h, fun r => absurd rfl r⟩
  · exact ⟨fun r => absurd r (by decide), fun _ => h⟩
theorem k79 (hK : KC b β lp q fu sd sq mi ml) (h : ∀ m l, ck mi m → KC b β lp q fu sd sq m l → F (bI (whole β)) m l) : Sg 79 0 [some (.ref 0)] [] mi ml (qi F) :=
  rg79_0 (k36 hK (fun m l f c => b01 (G := fun z => F z m l) (h m l f c)))
theorem k81 (hK : KC b β lp q fu sd sq mi ml) (h : ∀ m l, ck mi m → KC b β lp q fu sd sq m l → F (if whole β then nI (few β (gof lp q (β 2))) else -1) m l) : Sg 81 0 [some (.ref 0)] [] mi ml (qi F) :=
  rg81_0 (q49 hK.2.1 hK.sy (fun m l f c _ _ => h m l f (hK.qy f c)))
/-- seats -/
theorem k84 {x : Int32} {y : Nat} (hx : x = nI y) (hy : y < β 0) (hK : KC b β lp q fu sd sq mi ml) (h : ∀ m l, ck mi m → KC b β lp q fu sd sq m l → F (nI (fb_ct (fit β y) (2 ^ (β 1)))) m l) : Sg 84 0 [some (.ref 0), some (.int x)] [] mi ml (qi F) := by
  subst hx
  have hH := hK.wf.1
  refine rg84_0 (c6 hK.cd.1.1 hH.2 (fun s hs e => ⟨fun r => absurd r (by decide), fun _ => ?_⟩) (fun hno => absurd rfl (hno y hy)))
  exact q37 rfl hy hK.2.1 (fun m l f c => h m l f (hK.qy f c))
theorem k84n {x : Int32} (hx : ∀ s, s < β 0 → x ≠ nI s) (hK : KC b β lp q fu sd sq mi ml) (h : F (-2) mi ml) : Sg 84 0 [some (.ref 0), some (.int x)] [] mi ml (qi F) :=
  rg84_0 (c6 hK.cd.1.1 hK.wf.1.2 (fun s hs e => absurd e (hx s hs)) (fun _ => ⟨fun _ => h, fun r => absurd rfl r⟩))
/-- broken -/
theorem k85 (hK : KC b β lp q fu sd sq mi ml) (h : F (if lp then nI (bk β q) else -1) mi ml) : Sg 85 0 [some (.ref 0)] [] mi ml (qi F) := by
  have hH := hK.wf.1
  refine rg85_0 ?_
  rw [hK.2.2.1.1]
  refine bq (fun e => ?_) (fun e => ?_)
  · rw [e] at h; exact h
  · rw [e] at h
    exact c29 isY23 hK.cd hK.wf (by have := hK.1.2.1; omega) (fun y hy => ⟨hK.2.2.1.2.1 y (by omega), hK.1.2.2.1 y (by omega), hK.1.2.2.2.1 e y hy⟩) h
/-- witness -/
theorem k86 {x : Int32} {p : Nat} (hx : x = nI p) (hp : p ≤ 1) (hK : KC b β lp q fu sd sq mi ml) (h : ∀ m l, ck mi m → KC b β lp q fu sd sq m l → F (if p = 0 then wt0 β else wt1 β) m l) : Sg 86 0 [some (.ref 0), some (.int x)] [] mi ml (qi F) := by
  subst hx
  refine rg86_0 (pk_lt p 0 (fun r => by omega) (fun _ => ?_))
  refine pk_le p 1 (fun _ => ?_) (fun r => by omega)
  refine pk_ne p 0 (fun r => ?_) (fun r => ?_)
  · rw [if_neg r] at h
    exact q40 hK.2.1 (fun m l f c => h m l f (hK.qy f c))
  · rw [if_pos r] at h
    exact q39 hK.2.1 (fun m l f c => h m l f (hK.qy f c))
theorem k86n {x : Int32} (hx : ∀ s, s ≤ 1 → x ≠ nI s) (h : F (-2) mi ml) : Sg 86 0 [some (.ref 0), some (.int x)] [] mi ml (qi F) := by
  refine rg86_0 ⟨fun _ => h, fun r => ⟨fun r2 => ?_, fun _ => h⟩⟩
  obtain ⟨j, hj, e⟩ := nI_of r
  rw [e] at r2
  exact absurd e (hx j ((nI_leI hj (by decide)).mp r2))
/-- core, critical -/
theorem k87 (hK : KC b β lp q fu sd sq mi ml) (h : ∀ m l, ck mi m → KC b β lp q fu sd sq m l → F (nI (sm (fun y => pcn (corW β y)) (β 0))) m l) : Sg 87 0 [some (.ref 0), none, none] [] mi ml (qi F) := by
  have hH := hK.wf.1
  refine rg87_0 ?_
  have key := upI (β 0) (fun _ (s : Mi × Ml) => ck mi s.1 ∧ KC b β lp q fu sd sq s.1 s.2) (fun y s => Sg 87 4 [some (.ref 0), some (.int (nI (sm (fun y => pcn (corW β y)) y))), some (.int (nI y))] [] s.1 s.2 (qi F)) ?_ ?_
  · exact key 0 (mi, ml) (Nat.zero_le _) ⟨fr.rf, hK⟩
  · rintro ⟨m, l⟩ ⟨f, k⟩
    exact rg87_4 (pk_le (β 0) (β 0) (fun _ => h m l f k) (fun r => by omega) k.cd.1.1 rfl)
  · rintro y ⟨m, l⟩ hy ⟨f, k⟩ ih
    refine rg87_4 (pk_le (β 0) y (fun r => by omega) (fun _ => ?_) k.cd.1.1 rfl)
    refine q41 rfl hy k.2.1 (fun m2 l2 f2 c2 => ?_)
    refine c194 rfl (corW_l hK.wf (by omega)) ?_
    rw [nI_1, nI_add]
    exact ih (m2, l2) ⟨fr.tr f f2, k.qy f2 c2⟩
theorem k88 (hK : KC b β lp q fu sd sq mi ml) (h : ∀ m l, ck mi m → KC b β lp q fu sd sq m l → F (nI (sm (fun y => pcn (criW β y)) (β 0))) m l) : Sg 88 0 [some (.ref 0), none, none] [] mi ml (qi F) := by
  have hH := hK.wf.1
  refine rg88_0 ?_
  have key := upI (β 0) (fun _ (s : Mi × Ml) => ck mi s.1 ∧ KC b β lp q fu sd sq s.1 s.2) (fun y s => Sg 88 4 [some (.ref 0), some (.int (nI (sm (fun y => pcn (criW β y)) y))), some (.int (nI y))] [] s.1 s.2 (qi F)) ?_ ?_
  · exact key 0 (mi, ml) (Nat.zero_le _) ⟨fr.rf, hK⟩
  · rintro ⟨m, l⟩ ⟨f, k⟩
    exact rg88_4 (pk_le (β 0) (β 0) (fun _ => h m l f k) (fun r => by omega) k.cd.1.1 rfl)
  · rintro y ⟨m, l⟩ hy ⟨f, k⟩ ih
    refine rg88_4 (pk_le (β 0) y (fun r => by omega) (fun _ => ?_) k.cd.1.1 rfl)
    refine q42 rfl hy k.2.1 (fun m2 l2 f2 c2 => ?_)
    refine c194 rfl (criW_l hK.wf y) ?_
    rw [nI_1, nI_add]
    exact ih (m2, l2) ⟨fr.tr f f2, k.qy f2 c2⟩
/-- least -/
theorem k89 {x : Int32} {p : Nat} (hx : x = nI p) (hp : p ≤ 1) (hK : KC b β lp q fu sd sq mi ml) (h : ∀ m l, ck mi m → KC b β lp q fu sd sq m l → F (if p = 0 then ls0 β else ls1 β) m l) : Sg 89 0 [some (.ref 0), some (.int x)] [] mi ml (qi F) := by
  subst hx
  refine rg89_0 (pk_lt p 0 (fun r => by omega) (fun _ => ?_))
  refine pk_le p 1 (fun _ => ?_) (fun r => by omega)
  refine pk_ne p 0 (fun r => ?_) (fun r => ?_)
  · rw [if_neg r] at h
    exact q48 hK.2.1 (fun m l f c => h m l f (hK.qy f c))
  · rw [if_pos r] at h
    exact q47 hK.2.1 (fun m l f c => h m l f (hK.qy f c))
theorem k89n {x : Int32} (hx : ∀ s, s ≤ 1 → x ≠ nI s) (h : F (-2) mi ml) : Sg 89 0 [some (.ref 0), some (.int x)] [] mi ml (qi F) := by
  refine rg89_0 ⟨fun _ => h, fun r => ⟨fun r2 => ?_, fun _ => h⟩⟩
  obtain ⟨j, hj, e⟩ := nI_of r
  rw [e] at r2
  exact absurd e (hx j ((nI_leI hj (by decide)).mp r2))
/-- chains, cut -/
theorem k90 (hK : KC b β lp q fu sd sq mi ml) (h : ∀ m l, ck mi m → KC b β lp q fu sd sq m l → F (nI (chN β)) m l) : Sg 90 0 [some (.ref 0)] [] mi ml (qi F) :=
  rg90_0 (q13 hK.2.1 (fun m l f c => h m l f (hK.qy f c)))
theorem k91 {F : Int64 → Mi → Ml → Prop} (hK : KC b β lp q fu sd sq mi ml) (h : ∀ m l, ck mi m → KC b β lp q fu sd sq m l → F (lN (cuM β)) m l) : Sg 91 0 [some (.ref 0)] [] mi ml (ql F) :=
  rg91_0 (q14 hK.2.1 (fun m l f c => h m l f (hK.qy f c)))
/-- column -/
theorem k83 {x z : Int32} {y j : Nat} (hx : x = nI y) (hz : z = nI j) (hy : y < β 0) (hj : j < β 2) (hK : KC b β lp q fu sd sq mi ml) (h : F (if lp then cj (q y) j else -1) mi ml) : Sg 83 0 [some (.ref 0), some (.int x), some (.int z)] [] mi ml (qi F) := by
  subst hx hz
  have hH := hK.wf.1
  have hn : β 2 ≤ 7 := by have := hK.wf.2.2.1; have := hK.wf.2.1; omega
  refine rg83_0 (c6 hK.cd.1.1 hH.2 (fun s hs e => ⟨fun r => absurd r (by decide), fun _ => ?_⟩) (fun hno => absurd rfl (hno y hy)))
  refine pk_lt j 0 (fun r => by omega) (fun _ => ?_)
  refine pk_lt j (β 2) (fun _ => ?_) (fun r => by omega) rfl hK.cd.1.2.2.1
  rw [hK.2.2.1.1]
  refine bq (fun e => ?_) (fun e => ⟨pk_in y 7 (by omega), ?_⟩)
  · rw [e] at h; exact h
  · rw [e] at h
    rw [nI_clamp (by omega), hK.2.2.1.2.1 y (by omega)]
    exact c110 rfl rfl (by have := hK.1.2.2.1 y (by omega); omega) (by omega) h
theorem k83n {x z : Int32} (hx : ∀ y j, y < β 0 → j < β 2 → x = nI y → z = nI j → False) (hK : KC b β lp q fu sd sq mi ml) (h : F (-2) mi ml) : Sg 83 0 [some (.ref 0), some (.int x), some (.int z)] [] mi ml (qi F) := by
  have hH := hK.wf.1
  have hn : β 2 ≤ 7 := by have := hK.wf.2.2.1; have := hK.wf.2.1; omega
  refine rg83_0 (c6 hK.cd.1.1 hH.2 (fun s hs e => ⟨fun r => absurd r (by decide), fun _ => ⟨fun _ => h, fun r => ?_⟩⟩) (fun _ => ⟨fun _ => h, fun r => absurd rfl r⟩))
  obtain ⟨j, hj, rfl⟩ := nI_of r
  exact pk_lt j (β 2) (fun r2 => absurd (hx s j hs r2 e rfl) not_false) (fun _ => h) rfl hK.cd.1.2.2.1
/-- cell -/
theorem k78 {x1 x2 x3 : Int32} {x y : Nat} (h1 : x1 = nI x) (h2 : x2 = nI y) (hx : x < β 1) (hy : y < β 0) (hK : KC b β lp q fu sd sq mi ml) (h : ∀ w, w ≤ 4 → x3 = nI w → ∀ m l, ck mi m → KC b β lp q fu sd sq m l → F (ceA β lp q y x w) m l) (hn : (∀ w, w ≤ 4 → x3 ≠ nI w) → F (-2) mi ml) : Sg 78 0 [some (.ref 0), some (.int x1), some (.int x2), some (.int x3)] [] mi ml (qi F) := by
  subst h1 h2
  have hH := hK.wf.1
  have hW := hK.wf.2.1
  have hb := hK.wf.bd (show y < 7 by omega)
  refine rg78_0 (c7 hK.cd.1.1 hH.2 hK.cd.1.2.1 hW.2 (fun s t hs ht e1 e2 => ⟨fun _ => ?_, fun r => absurd (by decide) r⟩) (fun hno => absurd (hno x y hx hy rfl rfl) not_false))
  clear e1 e2 hs ht s t
  refine ⟨fun r => hn (swF (n := 4) (by decide) r), fun e => ⟨pk_in y 7 (by omega), ?_⟩, fun e => ?_, fun e => ?_, fun e => ?_, fun e => ?_⟩
  · rw [nI_clamp (by omega), hK.cd.2 y (by omega)]
    exact c109 rfl rfl (by omega) (by omega) (h 0 (by decide) e mi ml fr.rf hK)
  · have h' := h 1 (by decide) e mi ml fr.rf hK
    rw [hK.2.2.1.1]
    refine bq (fun e1 => ?_) (fun e1 => ⟨pk_in y 7 (by omega), ?_⟩)
    · rw [e1] at h'; exact h'
    · rw [e1] at h'
      rw [nI_clamp (by omega), hK.2.2.1.2.1 y (by omega)]
      exact c111 rfl rfl (hK.1.2.2.1 y (by omega)) (by omega) h'
  · refine q42 rfl hy hK.2.1 (fun m l f c => ?_)
    exact c109 rfl rfl (by have := criW_l hK.wf y; omega) (by omega) (h 2 (by decide) e m l f (hK.qy f c))
  · refine q41 rfl hy hK.2.1 (fun m l f c => ?_)
    exact c109 rfl rfl (by have := corW_l hK.wf (show y < 7 by omega); omega) (by omega) (h 3 (by decide) e m l f (hK.qy f c))
  · refine q14 hK.2.1 (fun m l f c => ?_)
    refine c9 rfl rfl (hK.qy f c).cd.1.2.1 ?_
    have hk : y * β 1 + x < β 0 * β 1 := by
      have : (y + 1) * β 1 ≤ β 0 * β 1 := Nat.mul_le_mul_right _ hy
      rw [Nat.add_mul, Nat.one_mul] at this
      omega
    have := HW49 hK.wf
    have hcu := cuM_l hK.wf
    rw [cutbit (by omega) (by omega)]
    exact h 4 (by decide) e m l f (hK.qy f c)
theorem k78n {x1 x2 x3 : Int32} (hx : ∀ s t, s < β 1 → t < β 0 → x1 = nI s → x2 = nI t → False) (hK : KC b β lp q fu sd sq mi ml) (h : F (-2) mi ml) : Sg 78 0 [some (.ref 0), some (.int x1), some (.int x2), some (.int x3)] [] mi ml (qi F) :=
  rg78_0 (c7 hK.cd.1.1 hK.wf.1.2 hK.cd.1.2.1 hK.wf.2.1.2 (fun s t hs ht e1 e2 => absurd (hx s t hs ht e1 e2) not_false) (fun _ => ⟨fun r => absurd rfl r, fun _ => h⟩))
/-- differ, of a full slot -/
theorem k94 {x : Int32} {s : Nat} (hx : x = nI s) (hs : s < 6) (hf : fu.testBit s = true) (hK : KC b β lp q fu sd sq mi ml) (h : F (diA β (gof lp q (β 2)) sd sq s) mi ml) : Sg 94 0 [some (.ref 0), some (.int x), none, none, none] [] mi ml (qi F) := by
  subst hx
  have hH := hK.wf.1
  have hn : β 2 ≤ 7 := by have := hK.wf.2.2.1; have := hK.wf.2.1; omega
  obtain ⟨c1, c2, c3⟩ := hK.2.2.2 s hs
  obtain ⟨p1, p2, p3⟩ := hK.1.2.2.2.2.2 s hs
  refine rg94_0 (c105 (fun t ht e => ?_) (fun hno => absurd rfl (hno s (by omega))))
  have et : t = s := ((nI_eq (by omega) (by omega)).mp e).symm
  subst et
  refine ⟨fun r => (by cases r), fun r hr => ?_⟩
  cases hr
  have hY := (MRs t hs).2
  refine ⟨hY, ?_⟩
  rw [c1, hf]
  refine ⟨fun _ => ?_, fun r => absurd (by decide) r⟩
  unfold diA at h
  refine c27 hY hK.cd hK.wf c2.1 c2.2.1 c2.2.2 p1.1 p1.2.1 p1.2.2 (fun hq => ⟨fun _ => ?_, fun r => absurd (by decide) r⟩) (fun hq => ⟨fun r => absurd rfl r, fun _ => by rw [if_neg hq] at h; exact h⟩)
  rw [if_pos hq] at h
  refine upP (β 0) (fun y => Sg 94 48 [some (.ref 0), some (.int (nI t)), some (.ref (27 + 2 * t)), some (.int (nI (sm (fun y => mvN (gof lp q (β 2) y) (sq t y) (β 2)) y))), some (.int (nI y))] [] mi ml (qi F)) ?_ ?_ 0 (Nat.zero_le _)
  · exact rg94_48 hY (pk_le (β 0) (β 0) (fun _ => h) (fun r => by omega) hK.cd.1.1 rfl)
  · intro y hy ih
    refine rg94_48 hY (pk_le (β 0) y (fun r => by omega) (fun _ => ?_) hK.cd.1.1 rfl)
    refine c28 (g := gof lp q (β 2)) (n := β 2) isY23 rfl hK.cd.1.2.2.1 (by omega) hn hK.sy ⟨pk_in y 7 (by omega), ?_⟩
    rw [nI_clamp (by omega), c3 y (by omega)]
    have a1 := hK.sy.1 y (by omega)
    have a2 := p2 y (by omega)
    refine c112 rfl rfl hK.cd.1.2.2.1 (by omega) (by omega) (by omega) ?_
    rw [nI_1, nI_add]
    exact ih
/-- count -/
theorem k102 {x : Int32} {w : Nat} (hx : x = nI w) (hw : w ≤ 8) (hK : KC b β lp q fu sd sq mi ml) (h : ∀ m l, ck mi m → KC b β lp q fu sd sq m l → F (coA β lp fu (mi 0 6) (mi 0 7) w) m l) : Sg 102 0 [some (.ref 0), some (.int x)] [] mi ml (qi F) := by
  have inj : ∀ k, k ≤ 8 → x = nI k → w = k := fun k hk e => (nI_eq (by omega) (by omega)).mp (hx.symm.trans e)
  refine rg102_0 ⟨fun r => absurd hx (swF (n := 8) (by decide) r w hw), fun e => ?_, fun e => ?_, fun e => ?_, fun e => ?_, fun e => ?_, fun e => ?_, fun e => ?_, fun e => ?_, fun e => ?_⟩
  · have := inj 0 (by decide) e; subst this
    exact c10 hK.cd.1.1 hK.cd.1.2.1 (h mi ml fr.rf hK)
  · have := inj 1 (by decide) e; subst this
    exact c11 hK.cd hK.wf (h mi ml fr.rf hK)
  · have := inj 2 (by decide) e; subst this
    exact k36 hK (fun m l f c => b01 (G := fun z => F z m l) (h m l f c))
  · have := inj 3 (by decide) e; subst this
    exact h mi ml fr.rf hK
  · have := inj 4 (by decide) e; subst this
    exact c107 (full := fu) (fun s hs => (hK.2.2.2 s hs).1) (h mi ml fr.rf hK)
  · have := inj 5 (by decide) e; subst this
    rw [hK.2.2.1.1]
    exact b01 (G := fun z => F z mi ml) (h mi ml fr.rf hK)
  · have := inj 6 (by decide) e; subst this
    exact q13 hK.2.1 (fun m l f c => h m l f (hK.qy f c))
  · have := inj 7 (by decide) e; subst this
    exact q38 hK.2.1 (fun m l f c => h m l f (hK.qy f c))
  · have := inj 8 (by decide) e; subst this
    exact h mi ml fr.rf hK
theorem k102n {x : Int32} (hx : ∀ w, w ≤ 8 → x ≠ nI w) (h : F (-2) mi ml) : Sg 102 0 [some (.ref 0), some (.int x)] [] mi ml (qi F) :=
  rg102_0 ⟨fun _ => h, fun e => absurd e (hx 0 (by decide)), fun e => absurd e (hx 1 (by decide)), fun e => absurd e (hx 2 (by decide)), fun e => absurd e (hx 3 (by decide)), fun e => absurd e (hx 4 (by decide)), fun e => absurd e (hx 5 (by decide)), fun e => absurd e (hx 6 (by decide)), fun e => absurd e (hx 7 (by decide)), fun e => absurd e (hx 8 (by decide))⟩
end C64
