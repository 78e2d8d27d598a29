/-! the model's chains: all of them -/
/-- what is reached when all chains are found -/
noncomputable def chR (β : Bd) : Nat → Bool := Classical.epsilon (fun R => ∃ P, CrB β P R)
noncomputable def chN (β : Bd) : Nat := ctu (β 0 * β 1) (chR β)
noncomputable def cuM (β : Bd) : Nat := bm (fun k => chR β (2 * k) && !chR β (2 * k + 1)) (β 0 * β 1)
theorem chR_eq {β : Bd} {P : Nat → Nat} {R : Nat → Bool} (h : CrB β P R) : R = chR β ∧ val (β 0 * β 1) P = chN β := by
  obtain ⟨P', h'⟩ := Classical.epsilon_spec (p := fun R => ∃ P, CrB β P R) ⟨R, P, h⟩
  have e := (crt_uniq h h').2
  refine ⟨e, ?_⟩
  rw [crt_val h]
  unfold chN
  show _ = ctu _ (Classical.epsilon (fun R => ∃ P, CrB β P R))
  rw [← e]
/-- the flow that comes next -/
def nxP (P u : Nat → Nat) (m : Nat) (k : Nat) : Nat :=
  if fsN (fun t => u t == 2 * k) (m + 1) = m + 1 then P k else
  if fsN (fun t => u t == 2 * k) (m + 1) = m then 1 else
  if u (fsN (fun t => u t == 2 * k) (m + 1) + 1) = 2 * k + 1 then 0 else 2 + u (fsN (fun t => u t == 2 * k) (m + 1) + 1) / 2
theorem nxP_ok {P u : Nat → Nat} {m : Nat} (hd : ∀ i j, i ≤ m → j ≤ m → u i = u j → i = j) : Nxt P (nxP P u m) u m := by
  have ix : ∀ t k, t ≤ m → u t = 2 * k → fsN (fun t => u t == 2 * k) (m + 1) = t := by
    intro t k ht hu
    refine fsN_eq (by omega) (by simpa using hu) (fun j hj => ?_)
    rw [beq_eq_false_iff_ne]
    intro e
    have := hd j t (by omega) ht (by rw [e, hu])
    omega
  refine ⟨fun t k ht hu => ?_, fun k hu => ?_, fun k hno => ?_⟩
  · unfold nxP
    rw [ix t k (by omega) hu, if_neg (by omega), if_neg (by omega)]
  · unfold nxP
    rw [ix m k (Nat.le_refl m) hu, if_neg (by omega), if_pos rfl]
  · unfold nxP
    rw [fsN_no (fun j hj => by rw [beq_eq_false_iff_ne]; exact hno j (by omega)), if_pos rfl]
section C45
variable {ml : Ml} {β : Bd}
/-- as far as turned -/
def I62 (K : Nat) (u : Nat → Nat) (m0 mi : Mi) (t : Nat) : Prop := ∀ k, k < K →
  (∀ s, s < t → u (s + 1) = 2 * k → u s = 2 * k + 1 → mi 62 k = 1) ∧ (∀ s, s < t → u (s + 1) = 2 * k + 1 → u s = 2 * k → mi 62 k = 0) ∧
  ((∀ s, s < t → ¬ (u (s + 1) = 2 * k ∧ u s = 2 * k + 1) ∧ ¬ (u (s + 1) = 2 * k + 1 ∧ u s = 2 * k)) → mi 62 k = m0 62 k)
def I63 (β : Bd) (u : Nat → Nat) (m0 mi : Mi) (t : Nat) : Prop := ∀ b d k, b < β 0 * β 1 → d < 4 → nbd β b d = k →
  (k < β 0 * β 1 → (∀ s, s < t → u (s + 1) = 2 * b + 1 → u s = 2 * k → mi 63 (4 * b + d) = 1)) ∧ (k < β 0 * β 1 → ∀ s, s < t → u (s + 1) = 2 * k → u s = 2 * b + 1 → mi 63 (4 * b + d) = 0) ∧
  (((k < β 0 * β 1 → ∀ s, s < t → ¬ (u (s + 1) = 2 * b + 1 ∧ u s = 2 * k) ∧ ¬ (u (s + 1) = 2 * k ∧ u s = 2 * b + 1))) → mi 63 (4 * b + d) = m0 63 (4 * b + d))
theorem I62.same {K : Nat} {u : Nat → Nat} {m0 mi mi' : Mi} {t : Nat} (h : I62 K u m0 mi t) (e : mi' 62 = mi 62) (hn : ∀ k, k < K → ¬ (u (t + 1) = 2 * k ∧ u t = 2 * k + 1) ∧ ¬ (u (t + 1) = 2 * k + 1 ∧ u t = 2 * k)) : I62 K u m0 mi' (t + 1) := by
  intro k hk
  rw [e]
  obtain ⟨h1, h2, h3⟩ := h k hk
  refine ⟨fun s hs a b => ?_, fun s hs a b => ?_, fun q => h3 (fun s hs => q s (by omega))⟩
  · rcases Nat.lt_succ_iff_lt_or_eq.mp hs with r | r
    · exact h1 s r a b
    · subst r; exact absurd ⟨a, b⟩ (hn k hk).1
  · rcases Nat.lt_succ_iff_lt_or_eq.mp hs with r | r
    · exact h2 s r a b
    · subst r; exact absurd ⟨a, b⟩ (hn k hk).2
theorem I63.same {u : Nat → Nat} {m0 mi mi' : Mi} {t : Nat} (h : I63 β u m0 mi t) (e : mi' 63 = mi 63) (hn : ∀ b d, b < β 0 * β 1 → d < 4 → nbd β b d < β 0 * β 1 → ¬ (u (t + 1) = 2 * b + 1 ∧ u t = 2 * nbd β b d) ∧ ¬ (u (t + 1) = 2 * nbd β b d ∧ u t = 2 * b + 1)) : I63 β u m0 mi' (t + 1) := by
  intro b d k hb hd hk
  rw [e]
  obtain ⟨h1, h2, h3⟩ := h b d k hb hd hk
  refine ⟨fun hkK s hs a c => ?_, fun hkK s hs a c => ?_, fun q => h3 (fun hkK s hs => q hkK s (by omega))⟩
  · rcases Nat.lt_succ_iff_lt_or_eq.mp hs with r | r
    · exact h1 hkK s r a c
    · subst r
      exact absurd ⟨a, by rw [hk]; exact c⟩ (hn b d hb hd (by rw [hk]; exact hkK)).1
  · rcases Nat.lt_succ_iff_lt_or_eq.mp hs with r | r
    · exact h2 hkK s r a c
    · subst r
      exact absurd ⟨by rw [hk]; exact a, c⟩ (hn b d hb hd (by rw [hk]; exact hkK)).2
set_option maxHeartbeats 1000000 in
/-- at the end it is the next flow -/
theorem MP_nxt {P P' u : Nat → Nat} {m : Nat} {m0 mi : Mi} (hβ : Wf β) (hF : FlB β P) (hP : MP β P m0) (hp : Pth (β 0 * β 1) (bt β) (ot β) (aj' β) P u m) (hn : Nxt P P' u m) (h62 : I62 (β 0 * β 1) u m0 mi m) (h63 : I63 β u m0 mi m) : MP β P' mi := by
  have h49 := HW49 hβ
  obtain ⟨n1, n2, n3⟩ := hn
  have hd := hp.2.2.1
  refine ⟨fun k hk => ?_, fun b d hb hd4 => ?_⟩
  · obtain ⟨a1, a2, a3⟩ := h62 k hk
    by_cases c1 : ∃ s, s < m ∧ u (s + 1) = 2 * k ∧ u s = 2 * k + 1
    · obtain ⟨s, hs, e1, e2⟩ := c1
      rw [a1 s hs e1 e2]
      have : P' k ≠ 0 := by
        rcases Nat.lt_or_ge (s + 1) m with q | q
        · rw [n1 (s + 1) k q e1]
          split
          · rename_i e3
            have := hd (s + 1 + 1) s (by omega) (by omega) (by rw [e3, e2]); omega
          · omega
        · have e : s + 1 = m := by omega
          rw [e] at e1
          rw [n2 k e1]; decide
      rw [decide_eq_true this]; rfl
    · by_cases c2 : ∃ s, s < m ∧ u (s + 1) = 2 * k + 1 ∧ u s = 2 * k
      · obtain ⟨s, hs, e1, e2⟩ := c2
        rw [a2 s hs e1 e2]
        have : P' k = 0 := by rw [n1 s k hs e2, if_pos e1]
        rw [this]; rfl
      · rw [a3 (fun s hs => ⟨fun q => c1 ⟨s, hs, q⟩, fun q => c2 ⟨s, hs, q⟩⟩), hP.1 k hk]
        congr 1
        rcases onp u m (2 * k) with ⟨s, hs, hu⟩ | hno
        · obtain ⟨g1, g2⟩ := hp.N hs hu
          have hPk : P k ≠ 0 := by
            rcases g2 with ⟨g2, _⟩ | ⟨b, _, _, g3⟩
            · exact absurd ⟨s - 1, by omega, by rw [show s - 1 + 1 = s by omega]; exact hu, g2⟩ c1
            · omega
          have hPk' : P' k ≠ 0 := by
            rcases Nat.lt_or_ge s m with q | q
            · rw [n1 s k q hu, if_neg (fun e => c2 ⟨s, q, e, hu⟩)]; omega
            · have : s = m := by omega
              subst this
              rw [n2 k hu]; decide
          rw [decide_eq_true hPk, decide_eq_true hPk']
        · rw [n3 k hno]
  · obtain ⟨k, hk⟩ : ∃ k, k = nbd β b d := ⟨_, rfl⟩
    obtain ⟨a1, a2, a3⟩ := h63 b d k hb hd4 hk.symm
    have hP63 := hP.2 b d hb hd4
    rw [← hk] at hP63 ⊢
    by_cases hkK : k < β 0 * β 1
    · rw [decide_eq_true hkK, Bool.true_and] at hP63 ⊢
      have hbk : b ≠ k := fun e => (nbd_ok hβ hb hd4 (by omega)).2.2 (by omega)
      by_cases c1 : ∃ s, s < m ∧ u (s + 1) = 2 * b + 1 ∧ u s = 2 * k
      · obtain ⟨s, hs, e1, e2⟩ := c1
        rw [a1 hkK s hs e1 e2]
        have : P' k = 2 + b := by rw [n1 s k hs e2, if_neg (by omega)]; omega
        rw [decide_eq_true this]; rfl
      · by_cases c2 : ∃ s, s < m ∧ u (s + 1) = 2 * k ∧ u s = 2 * b + 1
        · obtain ⟨s, hs, e1, e2⟩ := c2
          rw [a2 hkK s hs e1 e2]
          have : P' k ≠ 2 + b := by
            rcases Nat.lt_or_ge (s + 1) m with q | q
            · rw [n1 (s + 1) k q e1]
              split
              · omega
              · intro e3
                have ho : ∃ c, u (s + 1 + 1) = 2 * c + 1 := by
                  rcases (hp.E q e1).2.2 with ⟨r, _⟩ | ⟨c, _, r, _⟩
                  · exact ⟨k, r⟩
                  · exact ⟨c, r⟩
                obtain ⟨c, ho⟩ := ho
                have := hd (s + 1 + 1) s (by omega) (by omega) (by omega)
                omega
            · have e : s + 1 = m := by omega
              rw [e] at e1
              rw [n2 k e1]; omega
          rw [decide_eq_false this]; rfl
        · rw [a3 (fun _ s hs => ⟨fun q => c1 ⟨s, hs, q⟩, fun q => c2 ⟨s, hs, q⟩⟩), hP63]
          congr 1
          rcases onp u m (2 * k) with ⟨s, hs, hu⟩ | hno
          · obtain ⟨g1, g2⟩ := hp.N hs hu
            have hPk : P k ≠ 2 + b := by
              rcases g2 with ⟨_, g2⟩ | ⟨c, _, g2, g3⟩
              · omega
              · intro e
                exact c2 ⟨s - 1, by omega, by rw [show s - 1 + 1 = s by omega]; exact hu, by omega⟩
            have hPk' : P' k ≠ 2 + b := by
              rcases Nat.lt_or_ge s m with q | q
              · rw [n1 s k q hu]
                split
                · omega
                · intro e3
                  have ho : ∃ c, u (s + 1) = 2 * c + 1 := by
                    rcases (hp.E q hu).2.2 with ⟨r, _⟩ | ⟨c, _, r, _⟩
                    · exact ⟨k, r⟩
                    · exact ⟨c, r⟩
                  obtain ⟨c, ho⟩ := ho
                  exact c1 ⟨s, q, by omega, hu⟩
              · have : s = m := by omega
                subst this
                rw [n2 k hu]; omega
            rw [decide_eq_false hPk, decide_eq_false hPk']
          · rw [n3 k hno]
    · rw [decide_eq_false hkK, Bool.false_and] at hP63 ⊢
      rw [a3 (fun q => absurd q hkK), hP63]
set_option maxHeartbeats 2000000 in
/-- chainsNow -/
theorem c176 {mi : Mi} {F : Int32 → Mi → Ml → Prop} (hβ : Wf β) (hM : Md β mi)
    (h : ∀ mi', fq [62, 63, 64, 65] mi mi' → (∀ w, w < 2 * (β 0 * β 1) → (mi' 64 w = -2 ↔ chR β w = false)) → F (nI (chN β)) mi' ml) : Sg 176 0 [some (.ref 47), none, none, none, none, none] [] mi ml (qi F) := by
  have h49 := HW49 hβ
  have irr := aj_irr hβ
  refine rg176_0 ?_
  have main : ∀ g n P mi', n + g = 50 → val (β 0 * β 1) P = n → FlB β P → MP β P mi' → fq [62, 63, 64, 65] mi mi' → Sg 174 0 [some (.ref 47), none, none] [] mi' ml (qi fun y1 mi2 ml3 => Sg 176 52 [some (.ref 47), some (.int (nI n)), some (.int y1), some (.int (nI n)), none, none] [] mi2 ml3 (qi F)) := by
    intro g
    induction g with
    | zero =>
      intro n P mi' hn hv
      have := fb_ct_le (fun k => P k == 1) (β 0 * β 1)
      unfold val at hv
      omega
    | succ g ih =>
      intro n P mi' hn hv hF hP hf
      have hMi := hf.Md hM (by decide)
      refine c174 hβ hMi hF hP (fun m1 cf q c i e g1 g2 g3 hi hq he ho => ?_) (fun m1 cf q c g1 g2 g3 g4 => ?_)
      · obtain ⟨m, u, hm, hu0, hpth, hcf, hcfm, hub⟩ := g3.pth hi he ho hq
        have hle := g3.le
        have hd := hpth.2.2.1
        have hP1 := hP.fq g1 (by decide) (by decide)
        refine rg176_52 (pk_le 50 n (fun h1 => by omega) (fun _ => ⟨fun q => absurd q (n1_ne _ (by omega)), fun _ => ?_⟩))
        rw [← hq, ← hu0]
        -- turned one by one
        have turn : ∀ t mi', t ≤ m → (fr [62, 63] m1 mi' ∧ I62 (β 0 * β 1) u m1 mi' t ∧ I63 β u m1 mi' t) → Sg 176 69 [some (.ref 47), some (.int (nI n)), some (.int (nI (u 0))), some (.int (nI n)), some (.int (nI (u t))), some (.int (nI t))] [] mi' ml (qi F) := by
          refine upI m (fun t mi' => fr [62, 63] m1 mi' ∧ I62 (β 0 * β 1) u m1 mi' t ∧ I63 β u m1 mi' t) (fun t mi' => Sg 176 69 [some (.ref 47), some (.int (nI n)), some (.int (nI (u 0))), some (.int (nI n)), some (.int (nI (u t))), some (.int (nI t))] [] mi' ml (qi F)) ?_ ?_
          · rintro m2 ⟨a1, a2, a3⟩
            have hum := hub m (Nat.le_refl m)
            refine rg176_69 (pk_le 98 m (fun h1 => by omega) (fun _ => ?_))
            rw [nI_clamp (by omega), a1 64 (by decide), g2.2.1 _ hum, hcfm]
            refine ⟨pk_in (u m) 98 (by omega), fun _ => ?_, fun q => absurd rfl q⟩
            refine rg176_115 ?_
            rw [nI_1]
            have hnx := nxP_ok (P := P) hd
            obtain ⟨f1, f2⟩ := aug hF irr hpth hnx
            refine ih (n + 1) (nxP P u m) m2 (by omega) (by omega) f1 (MP_nxt hβ hF hP1 hpth hnx a2 a3) ?_
            exact hf.tr ((g1.mono (by decide)).tr (fq.fr (a1.mono (by decide)) (by decide)))
          · rintro t m2 ht ⟨a1, a2, a3⟩ iht
            have hut := hub t (by omega)
            have hut1 := hub (t + 1) (by omega)
            have hM2 : Md β m2 := (fq.fr a1 (by decide)).Md (g1.Md hMi (by decide)) (by decide)
            refine rg176_69 (pk_le 98 t (fun h1 => by omega) (fun _ => ?_))
            rw [nI_clamp (by omega), a1 64 (by decide), g2.2.1 _ hut, hcf t ht, en_v]
            refine ⟨pk_in (u t) 98 (by omega), fun q => absurd q (n1_ne _ (by omega)), fun _ => ?_⟩
            rw [nI_1]
            have next : ∀ m3, fr [62, 63] m1 m3 → I62 (β 0 * β 1) u m1 m3 (t + 1) → I63 β u m1 m3 (t + 1) → Sg 176 69 [some (.ref 47), some (.int (nI n)), some (.int (nI (u 0))), some (.int (nI n)), some (.int (m3 64 (u t))), some (.int (nI (t + 1)))] [] m3 ml (qi F) := by
              intro m3 b1 b2 b3
              rw [b1 64 (by decide), g2.2.1 _ hut, hcf t ht, en_v]
              exact iht m3 ⟨b1, b2, b3⟩
            rcases hpth.2.2.2 t ht with ⟨k, hk, e1, e2, e3⟩ | ⟨k, b, hk, hb, e1, e2, e3⟩ | ⟨k, hk, e1, e2, e3, e4⟩ | ⟨k, b, hk, hb, e1, e2, e3, e4⟩
            · -- a cell is passed
              refine c175t (a := k) (by omega) (by rw [e1]) (by rw [e2]) (next _ (a1.up (by decide)) ?_ (a3.same rfl (fun b d hb hd4 hnb => ⟨fun q => by omega, fun q => ?_⟩)))
              · intro l hl
                obtain ⟨c1, c2, c3⟩ := a2 l hl
                show (∀ s, s < t + 1 → u (s + 1) = 2 * l → u s = 2 * l + 1 → va_up (m2 62) k 1 l = 1) ∧ (∀ s, s < t + 1 → u (s + 1) = 2 * l + 1 → u s = 2 * l → va_up (m2 62) k 1 l = 0) ∧ (_ → va_up (m2 62) k 1 l = _)
                by_cases hlk : l = k
                · subst hlk
                  rw [gm_upS]
                  refine ⟨fun _ _ _ _ => rfl, fun s hs f1 f2 => ?_, fun q => absurd ⟨e1, e2⟩ (q t (by omega)).1⟩
                  have := hd s (t + 1) (by omega) (by omega) (by omega)
                  omega
                · rw [gm_upN hlk]
                  refine ⟨fun s hs f1 f2 => c1 s ?_ f1 f2, fun s hs f1 f2 => c2 s ?_ f1 f2, fun q => c3 (fun s hs => q s (by omega))⟩
                  · rcases Nat.lt_succ_iff_lt_or_eq.mp hs with r | r
                    · exact r
                    · subst r; omega
                  · rcases Nat.lt_succ_iff_lt_or_eq.mp hs with r | r
                    · exact r
                    · subst r; omega
              · have := (nbd_ok hβ hb hd4 (by omega)).2.2
                omega
            · -- one is taken back
              have hbk : b ≠ k := fun e => by
                have := (hF.2.1 k b hk e3).2.1
                rw [e, irr] at this; cases this
              refine c175d (β := β) (a := b) (b := k) (v := false) hβ hM2 hb hk hbk (by rw [e1]; rfl) (by rw [e2]; rfl) (fun m3 r1 r2 r3 => next m3 (a1.tr (r1.mono (by decide))) (a2.same (r1 62 (by decide)) (fun l hl => ⟨fun q => by omega, fun q => by omega⟩)) ?_)
              intro b' d k' hb' hd4 hk'
              obtain ⟨c1, c2, c3⟩ := a3 b' d k' hb' hd4 hk'
              by_cases hs : b' = b ∧ k' = k
              · obtain ⟨rfl, rfl⟩ := hs
                have hv0 : m3 63 (4 * b' + d) = 0 := r2 d hd4 hk'
                rw [hv0]
                refine ⟨fun hkK s hs f1 f2 => ?_, fun _ _ _ _ _ => rfl, fun q => absurd ⟨e1, e2⟩ (q hk t (by omega)).2⟩
                have := hd s (t + 1) (by omega) (by omega) (by omega)
                omega
              · rw [r3 b' d hd4 (fun q => hs ⟨q.1, by rw [← hk', q.1]; exact q.2⟩)]
                refine ⟨fun hkK s hs' f1 f2 => c1 hkK s ?_ f1 f2, fun hkK s hs' f1 f2 => c2 hkK s ?_ f1 f2, fun q => c3 (fun hkK s hs => q hkK s (by omega))⟩
                · rcases Nat.lt_succ_iff_lt_or_eq.mp hs' with r | r
                  · exact r
                  · subst r; omega
                · rcases Nat.lt_succ_iff_lt_or_eq.mp hs' with r | r
                  · exact r
                  · subst r; exact absurd ⟨by omega, by omega⟩ hs
            · -- a cell is given up
              refine c175f (a := k) (by omega) (by rw [e1]) (by rw [e2]) (next _ (a1.up (by decide)) ?_ (a3.same rfl (fun b d hb hd4 hnb => ⟨fun q => ?_, fun q => by omega⟩)))
              · intro l hl
                obtain ⟨c1, c2, c3⟩ := a2 l hl
                show (∀ s, s < t + 1 → u (s + 1) = 2 * l → u s = 2 * l + 1 → va_up (m2 62) k 0 l = 1) ∧ (∀ s, s < t + 1 → u (s + 1) = 2 * l + 1 → u s = 2 * l → va_up (m2 62) k 0 l = 0) ∧ (_ → va_up (m2 62) k 0 l = _)
                by_cases hlk : l = k
                · subst hlk
                  rw [gm_upS]
                  refine ⟨fun s hs f1 f2 => ?_, fun _ _ _ _ => rfl, fun q => absurd ⟨e1, e2⟩ (q t (by omega)).2⟩
                  have := hd s (t + 1) (by omega) (by omega) (by omega)
                  omega
                · rw [gm_upN hlk]
                  refine ⟨fun s hs f1 f2 => c1 s ?_ f1 f2, fun s hs f1 f2 => c2 s ?_ f1 f2, fun q => c3 (fun s hs => q s (by omega))⟩
                  · rcases Nat.lt_succ_iff_lt_or_eq.mp hs with r | r
                    · exact r
                    · subst r; omega
                  · rcases Nat.lt_succ_iff_lt_or_eq.mp hs with r | r
                    · exact r
                    · subst r; omega
              · have := (nbd_ok hβ hb hd4 (by omega)).2.2
                omega
            · -- one is begun
              have hbk : k ≠ b := fun e => by rw [e, irr] at e3; cases e3
              refine c175d (β := β) (a := k) (b := b) (v := true) hβ hM2 hk hb hbk (by rw [e1]; rfl) (by rw [e2]; rfl) (fun m3 r1 r2 r3 => next m3 (a1.tr (r1.mono (by decide))) (a2.same (r1 62 (by decide)) (fun l hl => ⟨fun q => by omega, fun q => by omega⟩)) ?_)
              intro b' d k' hb' hd4 hk'
              obtain ⟨c1, c2, c3⟩ := a3 b' d k' hb' hd4 hk'
              by_cases hs : b' = k ∧ k' = b
              · obtain ⟨rfl, rfl⟩ := hs
                have hv0 : m3 63 (4 * b' + d) = 1 := r2 d hd4 hk'
                rw [hv0]
                refine ⟨fun _ _ _ _ _ => rfl, fun hkK s hs f1 f2 => ?_, fun q => absurd ⟨e1, e2⟩ (q hb t (by omega)).1⟩
                have := hd s (t + 1) (by omega) (by omega) (by omega)
                omega
              · rw [r3 b' d hd4 (fun q => hs ⟨q.1, by rw [← hk', q.1]; exact q.2⟩)]
                refine ⟨fun hkK s hs' f1 f2 => c1 hkK s ?_ f1 f2, fun hkK s hs' f1 f2 => c2 hkK s ?_ f1 f2, fun q => c3 (fun hkK s hs => q hkK s (by omega))⟩
                · rcases Nat.lt_succ_iff_lt_or_eq.mp hs' with r | r
                  · exact r
                  · subst r; exact absurd ⟨by omega, by omega⟩ hs
                · rcases Nat.lt_succ_iff_lt_or_eq.mp hs' with r | r
                  · exact r
                  · subst r; omega
        exact turn 0 m1 (Nat.zero_le _) ⟨fr.rf, fun k hk => ⟨fun s hs => by omega, fun s hs => by omega, fun _ => rfl⟩, fun b d k hb hd hk => ⟨fun _ s hs => by omega, fun _ s hs => by omega, fun _ => rfl⟩⟩
      · obtain ⟨e1, e2⟩ := chR_eq g4
        refine rg176_52 (pk_le 50 n (fun h1 => by omega) (fun _ => ⟨fun _ => ?_, fun q => absurd rfl q⟩))
        rw [← hv, e2]
        refine h m1 (hf.tr (g1.mono (by decide))) (fun w hw => ?_)
        rw [g2.2.1 w hw, en_m2 (by have := g3.cfb hw; omega), ← e1]
        show _ ↔ (decide (w < 2 * (β 0 * β 1)) && decide (cf w ≠ 0)) = false
        rw [decide_eq_true hw, Bool.true_and, decide_eq_false_iff_not]
        exact ⟨fun q r => r q, fun q => Decidable.not_not.mp q⟩
  have clr2 : ∀ i mi', i ≤ 196 → (fq [62, 63, 64, 65] mi mi' ∧ (∀ k, k < 49 → mi' 62 k = 0) ∧ ∀ j, j < i → mi' 63 j = 0) → Sg 176 23 [some (.ref 47), some (.int (nI i)), none, none, none, none] [] mi' ml (qi F) := by
    refine upI 196 (fun i mi' => fq [62, 63, 64, 65] mi mi' ∧ (∀ k, k < 49 → mi' 62 k = 0) ∧ ∀ j, j < i → mi' 63 j = 0) (fun i mi' => Sg 176 23 [some (.ref 47), some (.int (nI i)), none, none, none, none] [] mi' ml (qi F)) ?_ ?_
    · rintro mi' ⟨g1, g2, g3⟩
      refine rg176_23 (pk_le 196 196 (fun _ => ?_) (fun h1 => by omega))
      refine main 50 0 (fun _ => 0) mi' rfl (fb_ct_zero.mpr fun k _ => rfl) ⟨fun k _ e => absurd (show (0 : Nat) = 1 from e) (by decide), fun k b _ e => absurd (show 0 = 2 + b from e) (by omega), fun k l b _ _ e => absurd (show 0 = 2 + b from e) (by omega), fun b _ e => absurd rfl e⟩ ⟨fun k hk => ?_, fun b d hb hd => ?_⟩ g1
      · rw [g2 k (by omega)]; rfl
      · rw [g3 (4 * b + d) (by omega), decide_eq_false (show ¬ (0 = 2 + b) by omega), Bool.and_false]; rfl
    · rintro i mi' hi ⟨g1, g2, g3⟩ ih
      refine rg176_23 (pk_le 196 i (fun h1 => by omega) (fun _ => ⟨pk_in i 196 hi, ?_⟩))
      rw [nI_clamp (by omega), nI_1]
      refine ih _ ⟨g1.tr (fq.fr (S := [62, 63, 64, 65]) (fr.rf.up (by decide)) (by decide)), g2, fun j hj => ?_⟩
      show va_up (mi' 63) i 0 j = _
      by_cases hji : j = i
      · subst hji; exact gm_upS
      · rw [gm_upN hji]; exact g3 j (by omega)
  have clr : ∀ i mi', i ≤ 49 → (fq [62, 63, 64, 65] mi mi' ∧ ∀ j, j < i → mi' 62 j = 0) → Sg 176 2 [some (.ref 47), some (.int (nI i)), none, none, none, none] [] mi' ml (qi F) := by
    refine upI 49 (fun i mi' => fq [62, 63, 64, 65] mi mi' ∧ ∀ j, j < i → mi' 62 j = 0) (fun i mi' => Sg 176 2 [some (.ref 47), some (.int (nI i)), none, none, none, none] [] mi' ml (qi F)) ?_ ?_
    · rintro mi' ⟨g1, g2⟩
      exact rg176_2 (pk_le 49 49 (fun _ => clr2 0 mi' (by omega) ⟨g1, g2, fun j hj => by omega⟩) (fun h1 => by omega))
    · rintro i mi' hi ⟨g1, g2⟩ ih
      refine rg176_2 (pk_le 49 i (fun h1 => by omega) (fun _ => ⟨pk_in i 49 hi, ?_⟩))
      rw [nI_clamp (by omega), nI_1]
      refine ih _ ⟨g1.tr (fq.fr (S := [62, 63, 64, 65]) (fr.rf.up (by decide)) (by decide)), fun j hj => ?_⟩
      show va_up (mi' 62) i 0 j = _
      by_cases hji : j = i
      · subst hji; exact gm_upS
      · rw [gm_upN hji]; exact g2 j (by omega)
  exact clr 0 mi (by omega) ⟨fq.rf, fun j hj => by omega⟩
/-- cutNow -/
theorem c178 {mi : Mi} {F : Int64 → Mi → Ml → Prop} (hβ : Wf β) (hM : Md β mi) (h : ∀ mi', fq [62, 63, 64, 65] mi mi' → F (lN (cuM β)) mi' ml) : Sg 178 0 [some (.ref 47), none, none, none] [] mi ml (ql F) := by
  have h49 := HW49 hβ
  refine rg178_0 (c176 hβ hM (fun m1 g1 g2 => ?_))
  have h5 : m1 47 5 * m1 47 6 = nI (β 0 * β 1) := by rw [g1.2 5 (by decide), g1.2 6 (by decide), hM.1.1, hM.1.2.1, pk_mul]
  obtain ⟨p, hp⟩ : ∃ p : Nat → Bool, p = fun k => chR β (2 * k) && !chR β (2 * k + 1) := ⟨_, rfl⟩
  have hpk : ∀ k, p k = (chR β (2 * k) && !chR β (2 * k + 1)) := fun k => by rw [hp]
  have hc : cuM β = bm p (β 0 * β 1) := by unfold cuM; rw [hp]
  refine upP (β 0 * β 1) (fun k => Sg 178 9 [some (.ref 47), some (.long (lN (bm p k))), none, some (.int (nI k))] [] m1 ml (ql F)) ?_ ?_ 0 (Nat.zero_le _)
  · refine rg178_9 (pk_le _ _ (fun _ => ?_) (fun h1 => by omega) h5 rfl)
    rw [← hc]; exact h m1 g1
  · intro k hk ih
    have e2 : 2 * nI k = nI (2 * k) := pk_mul 2 k
    have w1 := g2 (2 * k) (by omega)
    have w2 := g2 (2 * k + 1) (by omega)
    refine rg178_9 (pk_le _ k (fun h1 => by omega) (fun _ => ?_) h5 rfl)
    rw [e2, nI_1, nI_1, nI_clamp (by omega), nI_clamp (by omega)]
    refine ⟨pk_in (2 * k) 98 (by omega), fun h1 => ?_, fun h1 => ⟨pk_in (2 * k + 1) 98 (by omega), fun h2 => ?_, fun h2 => ?_⟩⟩
    · rw [bm_l (p := p) (n := k) (by omega) (by rw [hpk, w1.mp h1]; rfl)]; exact ih
    · have f2 : chR β (2 * k + 1) = true := by
        cases hq : chR β (2 * k + 1) with
        | true => rfl
        | false => exact absurd (w2.mpr hq) h2
      rw [bm_l (p := p) (n := k) (by omega) (by rw [hpk, f2]; simp)]; exact ih
    · have f1 : chR β (2 * k) = true := by
        cases hq : chR β (2 * k) with
        | true => rfl
        | false => exact absurd (w1.mpr hq) h1
      rw [bm_l (p := p) (n := k) (by omega) (by rw [hpk, f1, w2.mp (Decidable.not_not.mp h2)]; rfl)]; exact ih
end C45
