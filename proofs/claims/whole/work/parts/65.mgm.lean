/-! the model's own queries -/
/-- core and critical cells, one by one -/
def coB (β : Bd) (k : Nat) : Bool := (corW β (k / β 1)).testBit (k % β 1)
def crB (β : Bd) (k : Nat) : Bool := (criW β (k / β 1)).testBit (k % β 1)
theorem coM_eq {β : Bd} (hβ : Wf β) : coM β = bm (coB β) (β 0 * β 1) := by
  unfold coM
  cases hw : whole β with
  | true =>
    rw [if_pos rfl, bm_cong (q := fun _ => false) (fun k _ => by unfold coB corW; rw [hw]; simp), bm_F]
  | false =>
    rw [if_neg (by decide)]
    refine bm_cong fun k hk => ?_
    unfold coB corW
    rw [hw, if_neg (by decide), cor_bit hβ hk]
theorem crM_eq {β : Bd} (hβ : Wf β) : crM β = bm (crB β) (β 0 * β 1) := by
  unfold crM
  cases hw : whole β with
  | false =>
    rw [if_neg (by decide), bm_cong (q := fun _ => false) (fun k _ => by unfold crB criW; rw [hw]; simp), bm_F]
  | true =>
    rw [if_pos rfl]
    refine bm_cong fun k hk => ?_
    unfold crB criW
    rw [hw, if_pos rfl, cri_bit hβ hw hk]
theorem pcn_w {v W : Nat} (hv : v < 2 ^ W) (hW : W ≤ 7) : fb_ct (fun x => v.testBit x) W = pcn v := by
  unfold pcn
  have e : ct v 7 = ct v W + fb_ct (fun k => v.testBit (W + k)) (7 - W) := by
    rw [← fb_ct_split, Nat.add_sub_cancel' hW]
  have e2 : fb_ct (fun k => v.testBit (W + k)) (7 - W) = 0 := fb_ct_zero.mpr (fun k _ => tb_lt hv (Nat.le_add_right W k))
  rw [e, e2, Nat.add_zero]
theorem cor_w {β : Bd} (hβ : Wf β) {y : Nat} (hy : y < 7) : corW β y < 2 ^ (β 1) := by
  unfold corW
  split
  · exact Nat.two_pow_pos _
  · have h := coS_wf hβ (β 0 * β 1) (Nat.le_refl _)
    have := h.2.2.2.2 y hy
    rw [coS_lo (j := 1) (by decide)] at this
    exact this
theorem cri_w {β : Bd} (y : Nat) : criW β y < 2 ^ (β 1) := by
  unfold criW
  split
  · exact ca_lt _
  · exact Nat.two_pow_pos _
theorem ct_coM {β : Bd} (hβ : Wf β) : ct (coM β) 49 = sm (fun y => pcn (corW β y)) (β 0) := by
  rw [coM_eq hβ, bm_ct (HW49 hβ), ct_grid]
  refine sm_cong fun y hy => ?_
  have hH := hβ.1
  rw [← pcn_w (cor_w hβ (show y < 7 by omega)) hβ.2.1.2]
  exact fb_ct_cong fun x hx => by unfold coB; rw [kq hx, kr hx]
theorem ct_crM {β : Bd} (hβ : Wf β) : ct (crM β) 49 = sm (fun y => pcn (criW β y)) (β 0) := by
  rw [crM_eq hβ, bm_ct (HW49 hβ), ct_grid]
  refine sm_cong fun y hy => ?_
  rw [← pcn_w (cri_w y) hβ.2.1.2]
  exact fb_ct_cong fun x hx => by unfold crB; rw [kq hx, kr hx]
theorem coM_l {β : Bd} (hβ : Wf β) : coM β < 2 ^ 49 := by rw [coM_eq hβ]; exact Nat.lt_of_lt_of_le (bm_lt _ _) (Nat.pow_le_pow_right (by decide) (HW49 hβ))
theorem crM_l {β : Bd} (hβ : Wf β) : crM β < 2 ^ 49 := by rw [crM_eq hβ]; exact Nat.lt_of_lt_of_le (bm_lt _ _) (Nat.pow_le_pow_right (by decide) (HW49 hβ))
theorem ct_64 : ∀ f, f < 64 → ct f 49 = ct f 6 := by decide +kernel
section C65
variable {β : Bd} {lp : Bool} {q : Nat → Nat} {fu : Nat} {sd sq : Nat → Nat → Nat} {mi : Mi} {ml : Ml} {F : Int32 → Mi → Ml → Prop}
theorem MT.f {mi' : Mi} {S : List Nat} (h : MT β mi) (f : fr S mi mi') (h47 : 47 ∉ S) (h54 : 54 ∉ S) (h55 : 55 ∉ S) (h56 : 56 ∉ S) (h57 : 57 ∉ S) : MT β mi' := MS.fr h f h47 h54 h55 h56 h57
theorem MT.fq {mi' : Mi} (h : MT β mi) (f : fq [62, 63, 64, 65] mi mi') : MT β mi' := MS.at h (f.2 18 (by decide)) (f.1 54 (by decide) (by decide)) (f.1 55 (by decide) (by decide)) (f.1 56 (by decide) (by decide)) (f.1 57 (by decide) (by decide))
theorem PV.n7 (h : PV β lp q fu sd sq) : β 2 ≤ 7 := by have := h.1.2.2.1; have := h.1.2.1; omega
theorem PV.l7 (h : PV β lp q fu sd sq) : β 3 ≤ 7 := by have := h.2.1; omega
/-- seatsNow -/
theorem n142 {F : Mi → Ml → Prop} (hp : PV β lp q fu sd sq) (hM : KM β lp q fu sd sq mi) (h : ∀ m, mk mi m → MT β m → F m ml) : Sg 142 0 [some (.ref 47)] [] mi ml (qv F) := c142 hM.1 hp.1 hp.l7 h
theorem n145 (hp : PV β lp q fu sd sq) (hM : KM β lp q fu sd sq mi) (hT : MT β mi) (h : ∀ m, mk mi m → MT β m → F (bI (whole β)) m ml) : Sg 145 0 [some (.ref 47)] [] mi ml (qi F) :=
  c145 hM.1.1.1 hp.1.1 rfl hp.1.2.1.2 hp.n7 hT hM.1.2 (fun z hz => hp.1.bd hz) (fun m f => h m (mk58 f) (hT.f f (by decide) (by decide) (by decide) (by decide) (by decide)))
theorem n152 (hp : PV β lp q fu sd sq) (hM : KM β lp q fu sd sq mi) (hT : MT β mi) (h : ∀ m, mk mi m → MT β m → F (if whole β then nI (few β (gof lp q (β 2))) else -1) m ml) : Sg 152 0 [some (.ref 47), none] [] mi ml (qi F) := by
  refine rg152_0 (c149 (g := gof lp q (β 2)) hM.1 hp.1 hT (hM.sn hp) (fun m f _ => ?_))
  have h' := h m (f.mk (by decide)) (hT.f f (by decide) (by decide) (by decide) (by decide) (by decide))
  have hle := mn_MU (sp (β 2)) (cs β (gof lp q (β 2)) (β 0 - 1)) (2 ^ (β 1))
  have hle' : few β (gof lp q (β 2)) ≤ 1000000 := hle
  refine pk_lt (few β (gof lp q (β 2))) 1000000 (fun r => ?_) (fun r => ?_)
  · rw [if_pos ((few_wh hp.1).mp r)] at h'; exact h'
  · rw [if_neg (fun e => by have := (few_wh (g := gof lp q (β 2)) hp.1).mpr e; omega)] at h'; exact h'
theorem n159 (hp : PV β lp q fu sd sq) (hM : KM β lp q fu sd sq mi) (h : F (if lp then nI (bk β q) else -1) mi ml) : Sg 159 0 [some (.ref 47), none, none, none, none] [] mi ml (qi F) := by
  have hH := hp.1.1
  have hL := hM.2.1
  cases lp with
  | true => exact c159 hM.1 hp.1 hp.l7 hL.1 hL.2 (fun y hy => ⟨hp.2.2.1 y (by omega), hp.2.2.2.1 rfl y hy⟩) h
  | false => exact c159n hL.1 h
theorem n161 {x : Int32} {p : Nat} (hx : x = nI p) (hp1 : p ≤ 1) (hp : PV β lp q fu sd sq) (hM : KM β lp q fu sd sq mi) (hT : MT β mi) (h : ∀ m, mk mi m → MT β m → F (if p = 0 then wt0 β else wt1 β) m ml) : Sg 161 0 [some (.ref 47), some (.int x), none, none] [] mi ml (qi F) :=
  c161 hx hp1 hM.1 hp.1 hT (fun m f => h m (mk58 f) (hT.f f (by decide) (by decide) (by decide) (by decide) (by decide)))
theorem n163 {F : Int64 → Mi → Ml → Prop} (hp : PV β lp q fu sd sq) (hM : KM β lp q fu sd sq mi) (hT : MT β mi) (h : ∀ m, mk mi m → MT β m → F (lN (coM β)) m ml) : Sg 163 0 [some (.ref 47), none, none, none, none, none, none, none, none] [] mi ml (ql F) :=
  c163 hM.1 hp.1 hT (fun m f => h m (mk58 f) (hT.f f (by decide) (by decide) (by decide) (by decide) (by decide)))
theorem n164 {F : Int64 → Mi → Ml → Prop} (hp : PV β lp q fu sd sq) (hM : KM β lp q fu sd sq mi) (hT : MT β mi) (h : ∀ m, mk mi m → MT β m → F (lN (crM β)) m ml) : Sg 164 0 [some (.ref 47), none, none, none, none, none] [] mi ml (ql F) :=
  c164 hM.1 hp.1 hT (fun m f => h m (mk58 f) (hT.f f (by decide) (by decide) (by decide) (by decide) (by decide)))
theorem n167 {x : Int32} {p : Nat} (hx : x = nI p) (hp1 : p ≤ 1) (hp : PV β lp q fu sd sq) (hM : KM β lp q fu sd sq mi) (h : ∀ m, mk mi m → MT β m → F (if p = 0 then ls0 β else ls1 β) m ml) : Sg 167 0 [some (.ref 47), some (.int x), none, none, none] [] mi ml (qi F) :=
  c167 hx hp1 hM.1 hp.1 hp.l7 h
theorem n176 (hp : PV β lp q fu sd sq) (hM : KM β lp q fu sd sq mi) (h : ∀ m, fq [62, 63, 64, 65] mi m → F (nI (chN β)) m ml) : Sg 176 0 [some (.ref 47), none, none, none, none, none] [] mi ml (qi F) :=
  c176 hp.1 hM.1 (fun m f _ => h m f)
theorem n178 {F : Int64 → Mi → Ml → Prop} (hp : PV β lp q fu sd sq) (hM : KM β lp q fu sd sq mi) (h : ∀ m, fq [62, 63, 64, 65] mi m → F (lN (cuM β)) m ml) : Sg 178 0 [some (.ref 47), none, none, none] [] mi ml (ql F) :=
  c178 hp.1 hM.1 (fun m f => h m f)
theorem n157 {x : Int32} {y : Nat} (hx : x = nI y) (hy : y < β 0) (hp : PV β lp q fu sd sq) (hM : KM β lp q fu sd sq mi) (hT : MT β mi) (h : F (nI (fb_ct (fit β y) (2 ^ (β 1)))) mi ml) : Sg 157 0 [some (.ref 47), some (.int x), none, none] [] mi ml (qi F) :=
  c157 hx (by have := hp.1.1; omega) hp.1 hT hM.1.2 h
/-- allSeats -/
theorem n191 (hp : PV β lp q fu sd sq) (hM : KM β lp q fu sd sq mi) (hT : MT β mi) (h : F (nI (sm (fun y => fb_ct (fit β y) (2 ^ (β 1))) (β 0))) mi ml) : Sg 191 0 [some (.ref 47), none, none] [] mi ml (qi F) := by
  have hH := hp.1.1
  refine rg191_0 ?_
  refine upP (β 0) (fun y => Sg 191 4 [some (.ref 47), some (.int (nI (sm (fun y => fb_ct (fit β y) (2 ^ (β 1))) y))), some (.int (nI y))] [] mi ml (qi F)) ?_ ?_ 0 (Nat.zero_le _)
  · exact rg191_4 (pk_le (β 0) (β 0) (fun _ => h) (fun r => by omega) hM.1.1.1 rfl)
  · intro y hy ih
    refine rg191_4 (pk_le (β 0) y (fun r => by omega) (fun _ => ?_) hM.1.1.1 rfl)
    refine n157 rfl hy hp hM hT ?_
    rw [nI_1, nI_add]
    exact ih
/-- columnBy -/
theorem n155 {x z : Int32} {y j : Nat} (hx : x = nI y) (hz : z = nI j) (hy : y < β 0) (hj : j < β 2) (hp : PV β lp q fu sd sq) (hM : KM β lp q fu sd sq mi) (h : F (if lp then cj (q y) j else -1) mi ml) : Sg 155 0 [some (.ref 47), some (.int x), some (.int z)] [] mi ml (qi F) := by
  subst hx hz
  have hH := hp.1.1
  have hn := hp.n7
  refine rg155_0 ?_
  rw [hM.2.1.1]
  refine bq (fun e => ?_) (fun e => ⟨pk_in y 7 (by omega), ?_⟩)
  · rw [e] at h; exact h
  · rw [e] at h
    rw [nI_clamp (by omega), hM.2.1.2 y (by omega)]
    exact c140 rfl rfl (by have := hp.2.2.1 y (by omega); omega) (by omega) h
/-- countBy -/
theorem n190 {x : Int32} {w : Nat} (hx : x = nI w) (hw : w ≤ 8) (hp : PV β lp q fu sd sq) (hM : KM β lp q fu sd sq mi) (hT : MT β mi) (h : ∀ m, mk mi m → MT β m → F (coA β lp fu (mi 47 13) (mi 47 4) w) m ml) : Sg 190 0 [some (.ref 47), some (.int x)] [] mi ml (qi F) := by
  have inj : ∀ k, k ≤ 8 → x = nI k → w = k := fun k hk e => (nI_eq (by omega) (by omega)).mp (hx.symm.trans e)
  refine rg190_0 ⟨fun r => absurd hx (swF (n := 8) (by decide) r w hw), fun e => ?_, fun e => ?_, fun e => ?_, fun e => ?_, fun e => ?_, fun e => ?_, fun e => ?_, fun e => ?_, fun e => ?_⟩
  · have := inj 0 (by decide) e; subst this
    rw [hM.1.1.1, hM.1.1.2.1, pk_mul]
    exact h mi mk.rf hT
  · have := inj 1 (by decide) e; subst this
    exact c131 hM.1 hp.1 (h mi mk.rf hT)
  · have := inj 2 (by decide) e; subst this
    exact n145 hp hM hT (fun m f t => b01 (G := fun z => F z m ml) (h m f t))
  · have := inj 3 (by decide) e; subst this
    exact h mi mk.rf hT
  · have := inj 4 (by decide) e; subst this
    have hfu := hp.2.2.2.2.1
    rw [hM.2.2.1, nI_i2l (by omega)]
    refine c119 rfl (by omega) ?_
    rw [ct_64 fu hfu]
    exact h mi mk.rf hT
  · have := inj 5 (by decide) e; subst this
    rw [hM.2.1.1]
    exact b01 (G := fun z => F z mi ml) (h mi mk.rf hT)
  · have := inj 6 (by decide) e; subst this
    exact n176 hp hM (fun m f => h m (f.mk (by decide)) (hT.fq f))
  · have := inj 7 (by decide) e; subst this
    exact n191 hp hM hT (h mi mk.rf hT)
  · have := inj 8 (by decide) e; subst this
    exact h mi mk.rf hT
theorem n190n {x : Int32} (hx : ∀ w, w ≤ 8 → x ≠ nI w) (h : F (-2) mi ml) : Sg 190 0 [some (.ref 47), some (.int x)] [] mi ml (qi F) :=
  rg190_0 ⟨fun _ => h, fun e => absurd e (hx 0 (by decide)), fun e => absurd e (hx 1 (by decide)), fun e => absurd e (hx 2 (by decide)), fun e => absurd e (hx 3 (by decide)), fun e => absurd e (hx 4 (by decide)), fun e => absurd e (hx 5 (by decide)), fun e => absurd e (hx 6 (by decide)), fun e => absurd e (hx 7 (by decide)), fun e => absurd e (hx 8 (by decide))⟩
/-- cellBy -/
theorem n181 {x1 x2 : Int32} {x3 : Int64} {x y w : Nat} (h1 : x1 = nI (y * β 1 + x)) (h2 : x2 = nI w) (hx : x < β 1) (hy : y < β 0) (hw : w ≤ 4) (h3 : x3 = lN (if w = 2 then crM β else if w = 3 then coM β else cuM β) ∨ w ≤ 1) (hp : PV β lp q fu sd sq) (hM : KM β lp q fu sd sq mi) (h : F (ceA β lp q y x w) mi ml) : Sg 181 0 [some (.ref 47), some (.int x1), some (.int x2), some (.long x3), none] [] mi ml (qi F) := by
  subst h1 h2
  have hH := hp.1.1
  have hW := hp.1.2.1
  have hk : y * β 1 + x < β 0 * β 1 := by
    have : (y + 1) * β 1 ≤ β 0 * β 1 := Nat.mul_le_mul_right _ hy
    rw [Nat.add_mul, Nat.one_mul] at this
    omega
  have h49 := HW49 hp.1
  have hcu := cuM_l hp.1
  have hco := coM_l hp.1
  have hcr := crM_l hp.1
  refine rg181_0 (pk_ne w 0 (fun w0 => ?_) (fun w0 => ?_))
  · refine pk_ne w 1 (fun w1 => ?_) (fun w1 => ⟨by rw [hM.1.1.2.1]; exact nI_ne0 (by omega) (by omega), ?_⟩)
    · have h3' : x3 = lN (if w = 2 then crM β else if w = 3 then coM β else cuM β) := by
        rcases h3 with r | r
        · exact r
        · omega
      subst h3'
      have hlt : (if w = 2 then crM β else if w = 3 then coM β else cuM β) < 2 ^ 62 := by
        split
        · omega
        · split <;> omega
      refine c116 (n := if w = 2 then crM β else if w = 3 then coM β else cuM β) rfl rfl hlt (by omega) ?_
      have e : (if w = 2 then crM β else if w = 3 then coM β else cuM β).testBit (y * β 1 + x) = (if w = 2 then (criW β y).testBit x else if w = 3 then (corW β y).testBit x else (cuM β).testBit (y * β 1 + x)) := by
        have hd : decide (y * β 1 + x < β 0 * β 1) = true := by simpa using hk
        split
        · rw [crM_eq hp.1, bm_tb, hd, Bool.true_and]; unfold crB; rw [kq hx, kr hx]
        · split
          · rw [coM_eq hp.1, bm_tb, hd, Bool.true_and]; unfold coB; rw [kq hx, kr hx]
          · rfl
      rw [e]
      refine b01 (G := fun z => F z mi ml) ?_
      rcases (by omega : w = 2 ∨ w = 3 ∨ w = 4) with r | r | r <;> subst r <;> exact h
    · subst w1
      rw [hM.1.1.2.1, pk_rem (by omega) (by omega) (by omega), pk_div (by omega) (by omega) (by omega), kq hx, kr hx]
      have hL := hM.2.1
      cases lp with
      | true => exact c180 rfl rfl (by omega) (by omega) (hp.2.2.1 y (by omega)) (hp.2.2.2.1 rfl y hy) hM.1.1.2.2.1 hL.1 (hL.2 y (by omega)) h
      | false => exact c180n hp.n7 hM.1.1.2.2.1 hL.1 h
  · subst w0
    refine c170 rfl hM.1 hp.1 hk ?_
    rw [bt_at hx]
    exact b01 (G := fun z => F z mi ml) h
/-- lacksSlot, of a full slot -/
theorem n185 {x : Int32} {s : Nat} (hx : x = nI s) (hs : s < 6) (hf : fu.testBit s = true) (hp : PV β lp q fu sd sq) (hM : KM β lp q fu sd sq mi) (hy : (sd s 0 = β 0 ∧ sd s 1 = β 1 ∧ sd s 2 = β 2) → F 0 mi ml) (hn : ¬ (sd s 0 = β 0 ∧ sd s 1 = β 1 ∧ sd s 2 = β 2) → F (-3) mi ml) : Sg 185 0 [some (.ref 47), some (.int x)] [] mi ml (qi F) := by
  subst hx
  have hfu := hp.2.2.2.2.1
  have hH := hp.1.1
  have hW := hp.1.2.1
  have hn7 := hp.n7
  obtain ⟨c2, c3⟩ := hM.2.2.2 s hs
  obtain ⟨p1, p2, p3⟩ := hp.2.2.2.2.2 s hs
  refine rg185_0 (c183 (fun t ht e => ⟨fun _ => ?_, fun r => absurd (by decide) r⟩) (fun hno => absurd rfl (hno s (by omega))))
  rw [hM.2.2.1, nI_i2l (by omega)]
  refine c116 rfl rfl (by omega) (by omega) ?_
  rw [hf]
  refine ⟨fun _ => ⟨pk_in s 6 hs, ?_⟩, fun r => absurd (by decide) r⟩
  rw [nI_clamp (by omega)]
  refine pk_ne (sd s 0) (β 0) (fun r => hn fun e => r e.1) (fun e0 => ?_) c2.1 hM.1.1.1
  refine pk_ne (sd s 1) (β 1) (fun r => hn fun e => r e.2.1) (fun e1 => ?_) c2.2.1 hM.1.1.2.1
  exact pk_ne (sd s 2) (β 2) (fun r => hn fun e => r e.2.2) (fun e2 => hy ⟨e0, e1, e2⟩) c2.2.2 hM.1.1.2.2.1
/-- differ, of a full slot -/
theorem n187 {x : Int32} {s : Nat} (hx : x = nI s) (hs : s < 6) (hf : fu.testBit s = true) (hp : PV β lp q fu sd sq) (hM : KM β lp q fu sd sq mi) (h : F (diA β (gof lp q (β 2)) sd sq s) mi ml) : Sg 187 0 [some (.ref 47), some (.int x), none, none, none] [] mi ml (qi F) := by
  have hH := hp.1.1
  obtain ⟨c2, c3⟩ := hM.2.2.2 s hs
  obtain ⟨p1, p2, p3⟩ := hp.2.2.2.2.2 s hs
  unfold diA at h
  refine rg187_0 (n185 hx hs hf hp hM (fun hq => ⟨fun _ => ?_, fun r => absurd rfl r⟩) (fun hq => ⟨fun r => absurd r (by decide), fun _ => by rw [if_neg hq] at h; exact h⟩))
  subst hx
  rw [if_pos hq] at h
  refine upP (β 0) (fun y => Sg 187 17 [some (.ref 47), some (.int (nI s)), some (.int 0), some (.int (nI (sm (fun y => mvN (gof lp q (β 2) y) (sq s y) (β 2)) y))), some (.int (nI y))] [] mi ml (qi F)) ?_ ?_ 0 (Nat.zero_le _)
  · exact rg187_17 (pk_le (β 0) (β 0) (fun _ => h) (fun r => by omega) hM.1.1.1 rfl)
  · intro y hy ih
    have e7 : (7 : Int32) * nI s = nI (7 * s) := pk_mul 7 s
    refine rg187_17 (pk_le (β 0) y (fun r => by omega) (fun _ => ?_) hM.1.1.1 rfl)
    rw [e7, nI_add, nI_clamp (by omega), c3 y (by omega)]
    refine ⟨pk_in (7 * s + y) 42 (by omega), c148 (g := gof lp q (β 2)) rfl rfl (by omega) (p2 y (by omega)) hp.n7 hM.1.1.2.2.1 (hM.sn hp) ?_⟩
    rw [nI_1, nI_add]
    exact ih
end C65
