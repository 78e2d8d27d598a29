/-! the class's chains: added, counted, kept -/
section C48
variable {ml : Ml} {β : Bd} {P : Nat → Nat}
theorem ec_1 (W : Nat) : ec W 1 = -1 := rfl
set_option maxHeartbeats 1000000 in
/-- addChain -/
theorem c21 {mi : Mi} {F : Mi → Ml → Prop} {cf q u : Nat → Nat} {c m : Nat} {x : Int32} (hβ : Wf β) (hx : x = nI (nd (β 1) (u 0))) (hP : CPl β P mi) (hQ : CQ β cf q c mi) (hB : BfB β P cf q c) (hp : Pth (β 0 * β 1) (bt β) (ot β) (aj' β) P u m) (hm : m < c) (hcf : ∀ t, t < m → cf (u t) = 2 + u (t + 1)) (hcfm : cf (u m) = 1) (hub : ∀ t, t ≤ m → u t < 2 * (β 0 * β 1))
    (h : ∀ mi', fr [20] mi mi' → CPl β (nxP P u m) mi' → F mi' ml) : Sg 21 0 [some (.ref 18), some (.int x), none, none, none] [] mi ml (qv F) := by
  subst hx
  have h49 := HW49 hβ
  have hle := hB.le
  have hd := hp.2.2.1
  obtain ⟨n1, n2, n3⟩ := nxP_ok (P := P) hd
  obtain ⟨P', hP'⟩ : ∃ P', P' = nxP P u m := ⟨_, rfl⟩
  rw [← hP'] at n1 n2 n3 h
  refine rg21_0 ?_
  obtain ⟨J, hJ⟩ : ∃ J : Nat → Mi → Prop, J = fun t mi' => fr [20] mi mi' ∧ ∀ k, k < β 0 * β 1 → (∀ s, s < t → u s = 2 * k → mi' 20 (pl (β 1) k) = eP (β 1) (P' k)) ∧ ((∀ s, s < t → u s ≠ 2 * k) → mi' 20 (pl (β 1) k) = eP (β 1) (P k)) := ⟨_, rfl⟩
  have fin : ∀ mi', J (m + 1) mi' → F mi' ml := by
    intro mi' q
    rw [hJ] at q
    refine h mi' q.1 (fun k hk => ?_)
    obtain ⟨q1, q2⟩ := q.2 k hk
    rcases onp u m (2 * k) with ⟨t, ht, hu⟩ | hno
    · exact q1 t (by omega) hu
    · rw [q2 (fun s hs => hno s (by omega)), n3 k hno]
  -- a write
  have wr : ∀ t mi' k v, t ≤ m → k < β 0 * β 1 → J t mi' → u t = 2 * k → v = eP (β 1) (P' k) → J (t + 1) (va_up mi' 20 (va_up (mi' 20) (pl (β 1) k) v)) := by
    intro t mi' k v ht hk q hu hv
    rw [hJ] at q ⊢
    refine ⟨q.1.up (by decide), fun l hl => ?_⟩
    show (∀ s, s < t + 1 → u s = 2 * l → va_up (mi' 20) (pl (β 1) k) v (pl (β 1) l) = _) ∧ (_ → va_up (mi' 20) (pl (β 1) k) v (pl (β 1) l) = _)
    by_cases hlk : l = k
    · subst hlk
      rw [gm_upS]
      exact ⟨fun _ _ _ => hv, fun r => absurd hu (r t (by omega))⟩
    · rw [gm_upN (fun e => hlk (pl_inj hβ hl hk e))]
      obtain ⟨q1, q2⟩ := q.2 l hl
      refine ⟨fun s hs hus => q1 s ?_ hus, fun r => q2 (fun s hs => r s (by omega))⟩
      rcases Nat.lt_succ_iff_lt_or_eq.mp hs with r | r
      · exact r
      · subst r; omega
  have keep : ∀ t mi' b, J t mi' → u t = 2 * b + 1 → J (t + 1) mi' := by
    intro t mi' b q hu
    rw [hJ] at q ⊢
    refine ⟨q.1, fun l hl => ?_⟩
    obtain ⟨q1, q2⟩ := q.2 l hl
    refine ⟨fun s hs hus => q1 s ?_ hus, fun r => q2 (fun s hs => r s (by omega))⟩
    rcases Nat.lt_succ_iff_lt_or_eq.mp hs with r | r
    · exact r
    · subst r; omega
  have key : ∀ t mi', t ≤ m → J t mi' → Sg 21 4 [some (.ref 18), some (.int (nI (nd (β 1) (u 0)))), some (.int (nI (nd (β 1) (u t)))), some (.int (nI t)), none] [] mi' ml (qv F) := by
    refine upI m J (fun t mi' => Sg 21 4 [some (.ref 18), some (.int (nI (nd (β 1) (u 0)))), some (.int (nI (nd (β 1) (u t)))), some (.int (nI t)), none] [] mi' ml (qv F)) ?_ ?_
    · intro mi' q
      obtain ⟨k, hk, hbk, hum⟩ := hp.2.1
      have q' := q
      rw [hJ] at q'
      have hpl := pl_ok hβ hk
      have v21 : mi' 21 (2 * pl (β 1) k) = -1 := by
        have := hQ.2.1 (u m) (hub m (Nat.le_refl m))
        rw [hum, nd_e] at this
        rw [hum] at hcfm
        rw [q'.1 21 (by decide), this, hcfm]; rfl
      rw [hum, nd_e]
      refine rg21_4 (pk_le 162 m (fun h1 => by omega) (fun _ => pk_lt (2 * pl (β 1) k) 0 (fun h1 => by omega) (fun _ => ⟨pk_in (2 * pl (β 1) k) 162 (by omega), ?_⟩)))
      rw [nI_odd (by omega), nI_half (by omega), show 2 * pl (β 1) k % 2 = 0 by omega, show 2 * pl (β 1) k / 2 = pl (β 1) k by omega, nI_clamp (by omega), nI_clamp (by omega), v21]
      refine ⟨fun q => absurd rfl q, fun _ => ⟨fun q => absurd rfl q, fun _ => ⟨pk_in (pl (β 1) k) 81 (by omega), ?_⟩⟩⟩
      have := wr m mi' k (-1) (Nat.le_refl m) hk q hum (by rw [n2 k hum]; rfl)
      exact rg21_4 ⟨fun _ => fin _ this, fun _ => ⟨fun _ => fin _ this, fun q => absurd (by decide) q⟩⟩
    · intro t mi' ht q ih
      have hut := hub t (by omega)
      have hut1 := hub (t + 1) (by omega)
      have hnt := nd_lt hβ hut
      have hnt1 := nd_lt hβ hut1
      have q' := q
      rw [hJ] at q'
      have v21 : mi' 21 (nd (β 1) (u t)) = nI (nd (β 1) (u (t + 1))) := by
        rw [q'.1 21 (by decide), hQ.2.1 _ hut, hcf t ht, ec_v]
      have hnm : nd (β 1) (u t) % 2 = u t % 2 := by unfold nd; omega
      refine rg21_4 (pk_le 162 t (fun h1 => by omega) (fun _ => pk_lt (nd (β 1) (u t)) 0 (fun h1 => by omega) (fun _ => ⟨pk_in (nd (β 1) (u t)) 162 (by omega), ?_⟩)))
      rw [nI_odd (by omega), nI_half (by omega), hnm, nd_half, nI_clamp (by omega), v21, nI_half (by omega), nd_half, nI_1]
      have hplt := pl_ok hβ (show u t / 2 < β 0 * β 1 by omega)
      refine pk_ne (u t % 2) 0 (fun h1 => ih mi' (keep t mi' (u t / 2) q (by omega))) (fun h1 => ⟨fun _ => ?_, fun q => absurd (n1_ne _ (by omega)) q⟩)
      obtain ⟨k, hk⟩ : ∃ k, k = u t / 2 := ⟨_, rfl⟩
      have huk : u t = 2 * k := by omega
      have hkK : k < β 0 * β 1 := by omega
      rw [← hk] at hplt ⊢
      have hn := n1 t k ht huk
      rw [nI_1, nI_clamp (by omega)]
      have hx1 : nd (β 1) (u t) + 1 = nd (β 1) (2 * k + 1) := by rw [huk, nd_x, nd_e]
      rw [hx1]
      have hnx := nd_lt hβ (v := 2 * k + 1) (by omega)
      refine pk_ne (nd (β 1) (u (t + 1))) (nd (β 1) (2 * k + 1)) (fun h2 => ⟨pk_in (pl (β 1) k) 81 (by omega), ?_⟩) (fun h2 => ⟨pk_in (pl (β 1) k) 81 (by omega), ?_⟩)
      · have hne : u (t + 1) ≠ 2 * k + 1 := fun e => h2 (by rw [e])
        rw [if_neg hne] at hn
        exact ih _ (wr t mi' k _ (by omega) hkK q huk (by rw [hn, eP_v]))
      · have he : u (t + 1) = 2 * k + 1 := nd_inj hβ hut1 (by omega) h2
        rw [if_pos he] at hn
        exact ih _ (wr t mi' k _ (by omega) hkK q huk (by rw [hn]; rfl))
  refine key 0 mi (Nat.zero_le _) ?_
  rw [hJ]
  exact ⟨fr.rf, fun k hk => ⟨fun s hs => by omega, fun _ => hP k hk⟩⟩
/-- cellsNotPassed -/
theorem c22 {mi : Mi} {F : Int64 → Mi → Ml → Prop} (hβ : Wf β) (hC : Cd β mi) (hcf : ∀ w, w < 2 * (β 0 * β 1) → (mi 21 (nd (β 1) w) = -2 ↔ chR β w = false)) (h : F (lN (cuM β)) mi ml) : Sg 22 0 [some (.ref 18), none, none, none, none, none] [] mi ml (ql F) := by
  have h49 := HW49 hβ
  have hH := hβ.1
  have hW := hβ.2.1
  obtain ⟨p, hp⟩ : ∃ p : Nat → Bool, p = fun k => chR β (2 * k) && !chR β (2 * k + 1) := ⟨_, rfl⟩
  have hpk : ∀ k, p k = (chR β (2 * k) && !chR β (2 * k + 1)) := fun k => by rw [hp]
  have hc : cuM β = bm p (β 0 * β 1) := by unfold cuM; rw [hp]
  refine rg22_0 ?_
  have := upP (β 0) (fun y => Sg 22 4 [some (.ref 18), some (.long (lN (bm p (y * β 1)))), none, some (.int (nI y)), none, none] [] mi ml (ql F)) ?_ ?_ 0 (Nat.zero_le _)
  · rw [Nat.zero_mul] at this; exact this
  · refine rg22_4 (pk_le (β 0) (β 0) (fun _ => ?_) (fun h1 => by omega) hC.1.1 rfl)
    rw [← hc]; exact h
  · intro y hy ihy
    refine rg22_4 (pk_le (β 0) y (fun h1 => by omega) (fun _ => ?_) hC.1.1 rfl)
    refine upP (β 1) (fun x => Sg 22 18 [some (.ref 18), some (.long (lN (bm p (y * β 1 + x)))), none, some (.int (nI y)), some (.int (nI x)), none] [] mi ml (ql F)) ?_ ?_ 0 (Nat.zero_le _)
    · refine rg22_18 (pk_le (β 1) (β 1) (fun _ => ?_) (fun h1 => by omega) hC.1.2.1 rfl)
      rw [nI_1, ← Nat.succ_mul]; exact ihy
    · intro x hx ihx
      obtain ⟨k, hk⟩ : ∃ k, k = y * β 1 + x := ⟨_, rfl⟩
      have hkK : k < β 0 * β 1 := by rw [hk]; exact yxlt hy hx
      have ky : k / β 1 = y := by rw [hk]; exact (yx hx).1
      have kx : k % β 1 = x := by rw [hk]; exact (yx hx).2
      have hpl := pl_ok hβ hkK
      rw [← Nat.add_assoc, ← hk] at ihx
      rw [← hk]
      refine rg22_18 (pk_le (β 1) x (fun h1 => by omega) (fun _ => c23 (k := k) (W := β 1) (by rw [kx]) (by rw [ky]) ?_) hC.1.2.1 rfl)
      have e2 : 2 * nI (pl (β 1) k) = nI (2 * pl (β 1) k) := pk_mul 2 _
      have w1 := hcf (2 * k) (by omega)
      have w2 := hcf (2 * k + 1) (by omega)
      rw [nd_e] at w1
      rw [nd_x] at w2
      rw [e2, nI_1, nI_1, nI_clamp (by omega), nI_clamp (by omega)]
      refine ⟨pk_in (2 * pl (β 1) k) 162 (by omega), fun h1 => ?_, fun h1 => ⟨pk_in (2 * pl (β 1) k + 1) 162 (by omega), fun h2 => ?_, fun h2 => ?_⟩⟩
      · have e : bm p (k + 1) = bm p k := by rw [bm_s, hpk, w1.mp h1]; simp
        rw [e] at ihx; exact ihx
      · have f2 : chR β (2 * k + 1) = true := by
          cases hq : chR β (2 * k + 1) with
          | true => rfl
          | false => exact absurd (w2.mpr hq) h2
        have e : bm p (k + 1) = bm p k := by rw [bm_s, hpk, f2]; simp
        rw [e] at ihx; exact ihx
      · have f1 : chR β (2 * k) = true := by
          cases hq : chR β (2 * k) with
          | true => rfl
          | false => exact absurd (w1.mpr hq) h1
        refine rg9_0 ?_
        have e : nI y * mi 1 1 + nI x = nI k := by rw [hC.1.2.1, pk_mul, nI_add, hk]
        rw [e, bm_l (p := p) (n := k) (by omega) (by rw [hpk, f1, w2.mp (Decidable.not_not.mp h2)]; rfl)]; exact ihx
/-- what is kept of the chains -/
def CcI (β : Bd) (mi : Mi) (ml : Ml) : Prop := mi 18 7 = nI (chN β) ∧ ml 18 8 = lN (cuM β)
set_option maxHeartbeats 1000000 in
/-- refresh -/
theorem c15 {mi : Mi} {F : Mi → Ml → Prop} (hβ : Wf β) (hC : Cd β mi) (hv : mi 18 6 = mi 1 5 → CcI β mi ml)
    (h : ∀ mi' ml', fr [18, 19, 20, 21, 22] mi mi' → (∀ c, c ≠ 18 → ml' c = ml c) → mi' 18 6 = mi 1 5 → CcI β mi' ml' → F mi' ml') : Sg 15 0 [some (.ref 18), none, none] [] mi ml (qv F) := by
  have h49 := HW49 hβ
  have irr := aj_irr hβ
  refine rg15_0 ⟨fun _ => ?_, fun q => h mi ml fr.rf (fun _ _ => rfl) (Decidable.not_not.mp q) (hv (Decidable.not_not.mp q))⟩
  have end88 : ∀ (P : Nat → Nat) (x1 x2 : Int32) m1 cf q c, val (β 0 * β 1) P < 50 → fr [18, 19, 20, 21, 22] mi m1 → m1 18 6 = mi 1 5 → m1 18 7 = nI (val (β 0 * β 1) P) → CQ β cf q c m1 → BfB β P cf q c → CrB β P (fun w => decide (w < 2 * (β 0 * β 1)) && decide (cf w ≠ 0)) → Sg 15 88 [some (.ref 18), some (.int x1), some (.int x2)] [] m1 ml (qv F) := by
    intro P x1 x2 m1 cf q c hvl f1 f2 f3 g2 g3 g4
    obtain ⟨e1, e2⟩ := chR_eq g4
    have hC1 : Cd β m1 := by unfold Cd; rw [f1 1 (by decide), f1 2 (by decide)]; exact hC
    refine rg15_88 (c22 hβ hC1 (fun w hw => ?_) ?_)
    · rw [g2.2.1 w hw, CQ.ne (mi := m1) hβ g3 hw, ← e1]
      show _ ↔ (decide (w < 2 * (β 0 * β 1)) && decide (cf w ≠ 0)) = false
      rw [decide_eq_true hw, Bool.true_and, decide_eq_false_iff_not]
      exact ⟨fun q r => r q, fun q => Decidable.not_not.mp q⟩
    · refine h m1 _ f1 (fun c hc => gm_upN hc) f2 ⟨by rw [f3, e2], by rw [gm_upS, gm_upS]⟩
  have main : ∀ g n P m0, n + g = 50 → val (β 0 * β 1) P = n → FlB β P → CPl β P m0 → CK β m0 → fr [18, 19, 20, 21, 22] mi m0 → m0 18 6 = mi 1 5 → m0 18 7 = nI n → Sg 17 0 [some (.ref 18), none, none] [] m0 ml (qi fun y7 mi8 ml9 => Sg 15 51 [some (.ref 18), some (.int y7), some (.int (nI n))] [] mi8 ml9 (qv F)) := by
    intro g
    induction g with
    | zero =>
      intro n P m0 hn hv
      have := fb_ct_le (fun k => P k == 1) (β 0 * β 1)
      unfold val at hv
      omega
    | succ g ih =>
      intro n P m0 hn hvl hF hP hK f1 f2 f3
      have hgf : ∀ m1, gq [21, 22] m0 m1 → fr [18, 19, 20, 21, 22] mi m1 := fun m1 g1 c hc => by
        simp only [List.mem_cons, not_or, List.not_mem_nil, not_false_eq_true, and_true] at hc
        rw [g1.1 c (by simp [hc]) hc.1]
        exact f1 c (by simp [hc])
      refine c17 hβ hK hF hP (fun m1 cf q c i e g1 g2 g3 hi hq he ho => ?_) (fun m1 cf q c g1 g2 g3 g4 => ?_)
      · obtain ⟨m, u, hm, hu0, hpth, hcf, hcfm, hub⟩ := g3.pth hi he ho hq
        have hnx := nxP_ok (P := P) hpth.2.2.1
        obtain ⟨a1, a2⟩ := aug hF irr hpth hnx
        have hle := fb_ct_le (fun k => nxP P u m k == 1) (β 0 * β 1)
        have hval : val (β 0 * β 1) (nxP P u m) = fb_ct (fun k => nxP P u m k == 1) (β 0 * β 1) := rfl
        have hnd := nd_lt hβ (g3.2.1 i hi).1
        refine rg15_51 (pk_le 49 n (fun h1 => by omega) (fun _ => ⟨fun q => absurd q (n1_ne _ (by omega)), fun _ => ?_⟩))
        refine c21 (u := u) (m := m) hβ (by rw [hu0]) (hP.gq g1 (by decide)) g2 g3 hpth hm hcf hcfm hub (fun m2 b1 b2 => ?_)
        have e7 : m2 18 7 = nI n := by rw [b1 18 (by decide), g1.2 7 (by decide)]; exact f3
        rw [e7, nI_1]
        refine ih (n + 1) (nxP P u m) _ (by omega) (by omega) a1 (fun k hk => b2 k hk) (fun p hp => ?_) (fun c hc => ?_) ?_ ?_
        · show m2 19 p = _
          rw [b1 19 (by decide), g1.1 19 (by decide) (by decide)]; exact hK p hp
        · have h18 : c ≠ 18 := fun e => hc (by rw [e]; decide)
          rw [gm_upN h18, b1 c (fun q => hc (by simp at q; rw [q]; decide))]
          exact hgf m1 g1 c hc
        · show va_up (m2 18) 7 (nI (n + 1)) 6 = _
          rw [gm_upN (by decide), b1 18 (by decide), g1.2 6 (by decide)]; exact f2
        · show va_up (m2 18) 7 (nI (n + 1)) 7 = _
          exact gm_upS
      · have e6 : m1 18 6 = mi 1 5 := by rw [g1.2 6 (by decide)]; exact f2
        have e7 : m1 18 7 = nI (val (β 0 * β 1) P) := by rw [g1.2 7 (by decide), hvl]; exact f3
        have hlt : val (β 0 * β 1) P < 50 := by omega
        refine rg15_51 (pk_le 49 n (fun _ => end88 P _ _ m1 cf q c hlt (hgf m1 g1) e6 e7 g2 g3 g4) (fun _ => ⟨fun _ => end88 P _ _ m1 cf q c hlt (hgf m1 g1) e6 e7 g2 g3 g4, fun q => absurd rfl q⟩))
  have hC1 : Cd β (va_up mi 18 (va_up (mi 18) 6 (mi 1 5))) := hC
  refine c16 hβ hC1 (fun m1 g1 g2 => c198 rfl (by decide) ?_)
  have e5 : m1 18 6 = mi 1 5 := by rw [g1 18 (by decide), gm_upS, gm_upS]
  refine main 50 0 (fun _ => 0) _ rfl (fb_ct_zero.mpr fun k _ => rfl) ⟨fun k _ e => absurd (show (0 : Nat) = 1 from e) (by decide), fun k b _ e => absurd (show 0 = 2 + b from e) (by omega), fun k l b _ _ e => absurd (show 0 = 2 + b from e) (by omega), fun b _ e => absurd rfl e⟩ (fun k hk => ?_) g2 (fun c hc => ?_) ?_ ?_
  · have := (pl_ok hβ hk).2.1
    show fl (m1 20) 81 (-3) (pl (β 1) k) = _
    unfold fl
    rw [if_pos (by omega)]; rfl
  · have h18 : c ≠ 18 := fun e => hc (by rw [e]; decide)
    have h20 : c ≠ 20 := fun e => hc (by rw [e]; decide)
    have h19 : c ∉ [19] := fun q => hc (by simp at q; rw [q]; decide)
    rw [gm_upN h18, gm_upN h20, g1 c h19, gm_upN h18]
  · show va_up (m1 18) 7 0 6 = _
    rw [gm_upN (by decide)]; exact e5
  · show va_up (m1 18) 7 0 7 = _
    exact gm_upS
theorem c13 {mi : Mi} {F : Int32 → Mi → Ml → Prop} (hβ : Wf β) (hC : Cd β mi) (hv : mi 18 6 = mi 1 5 → CcI β mi ml)
    (h : ∀ mi' ml', fr [18, 19, 20, 21, 22] mi mi' → (∀ c, c ≠ 18 → ml' c = ml c) → mi' 18 6 = mi 1 5 → CcI β mi' ml' → F (nI (chN β)) mi' ml') : Sg 13 0 [some (.ref 18)] [] mi ml (qi F) :=
  rg13_0 (c15 hβ hC hv (fun mi' ml' a b c d => by rw [d.1]; exact h mi' ml' a b c d))
theorem c14 {mi : Mi} {F : Int64 → Mi → Ml → Prop} (hβ : Wf β) (hC : Cd β mi) (hv : mi 18 6 = mi 1 5 → CcI β mi ml)
    (h : ∀ mi' ml', fr [18, 19, 20, 21, 22] mi mi' → (∀ c, c ≠ 18 → ml' c = ml c) → mi' 18 6 = mi 1 5 → CcI β mi' ml' → F (lN (cuM β)) mi' ml') : Sg 14 0 [some (.ref 18)] [] mi ml (ql F) :=
  rg14_0 (c15 hβ hC hv (fun mi' ml' a b c d => by rw [d.2]; exact h mi' ml' a b c d))
end C48
