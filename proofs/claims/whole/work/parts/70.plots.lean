/-! pairs: read, lots -/
def rdf (a : Nat) (it : Nat → Int32) : Nat → Nat
  | 0 => a
  | x + 1 => sb (rdf a it x) x (!decide (it x = 0))
theorem rdf_l {a W : Nat} {it : Nat → Int32} (ha : a < 2 ^ W) (hW : W ≤ 7) : ∀ x, x ≤ W → rdf a it x < 2 ^ W
  | 0, _ => ha
  | x + 1, h => sb_l W hW _ (rdf_l ha hW x (by omega)) x (by omega) _
/-- random lots -/
def lo (s : Int32) : Nat → Int32
  | 0 => s
  | k + 1 => (1103515245 * lo s k) + 12345
def lcn (s n : Int32) (k : Nat) : Bool := !decide (n ≤ ((ushr (lo s (k + 1)) 16) - (ushr (lo s (k + 1)) 16) / 16 * 16))
/-- the first y rows are told by f -/
def lb (β : Bd) (f : Nat → Bool) (y : Nat) : Bd := fun j => if 8 ≤ j ∧ j < 8 + y then bm (fun x => f ((j - 8) * β 1 + x)) (β 1) else β j
theorem lb_lo {β : Bd} {f : Nat → Bool} {y j : Nat} (hj : j < 8) : lb β f y j = β j := if_neg (by omega)
theorem lb_at {β : Bd} {f : Nat → Bool} {y z : Nat} (hz : z < y) : lb β f y (8 + z) = bm (fun x => f (z * β 1 + x)) (β 1) := by
  unfold lb
  rw [if_pos (by omega), Nat.add_sub_cancel_left]
theorem lb_ge {β : Bd} {f : Nat → Bool} {y z : Nat} (hz : y ≤ z) : lb β f y (8 + z) = β (8 + z) := if_neg (by omega)
theorem lb_s {β : Bd} {f : Nat → Bool} {y : Nat} : lb β f (y + 1) = bu (lb β f y) y (bm (fun x => f (y * β 1 + x)) (β 1)) := by
  funext j
  unfold bu
  by_cases hj : j = 8 + y
  · subst hj
    rw [gm_upS, lb_at (by omega)]
  · rw [gm_upN hj]
    unfold lb
    by_cases h2 : 8 ≤ j ∧ j < 8 + y
    · rw [if_pos h2, if_pos (by omega)]
    · rw [if_neg h2, if_neg (by omega)]
theorem lb_0 {β : Bd} {f : Nat → Bool} : lb β f 0 = β := by
  funext j
  exact if_neg (by omega)
theorem lb_wf {β : Bd} {f : Nat → Bool} (h : Wf β) : ∀ y, Wf (lb β f y)
  | 0 => by rw [lb_0]; exact h
  | y + 1 => by
    rw [lb_s]
    exact (lb_wf h y).bw (by rw [lb_lo (by decide)]; exact bm_lt _ _)
/-- cell by cell -/
def dl (β : Bd) (f : Nat → Bool) : Nat → Bd
  | 0 => β
  | k + 1 => bs (dl β f k) k (f k)
theorem dl_lo {β : Bd} {f : Nat → Bool} {j : Nat} (hj : j < 8) : ∀ k, dl β f k j = β j
  | 0 => rfl
  | k + 1 => by rw [dl, bs_lo hj]; exact dl_lo hj k
theorem dl_wf {β : Bd} {f : Nat → Bool} (h : Wf β) : ∀ k, k ≤ β 0 * β 1 → Wf (dl β f k)
  | 0, _ => h
  | k + 1, hk => bs_wf (dl_wf h k (by omega)) (by rw [dl_lo (by decide), dl_lo (by decide)]; omega)
theorem dl_bt {β : Bd} {f : Nat → Bool} (h : Wf β) : ∀ k, k ≤ β 0 * β 1 → ∀ i, i < k → bt (dl β f k) i = f i
  | 0, _, i, hi => by omega
  | k + 1, hk, i, hi => by
    rw [dl, bs_bt (dl_wf h k (by omega)) (by rw [dl_lo (by decide), dl_lo (by decide)]; omega) (by rw [dl_lo (by decide), dl_lo (by decide)]; omega)]
    by_cases hik : i = k
    · rw [if_pos hik, hik]
    · rw [if_neg hik]; exact dl_bt h k (by omega) i (by omega)
theorem dl_out {β : Bd} {f : Nat → Bool} {y : Nat} (hy : β 0 ≤ y) : ∀ k, k ≤ β 0 * β 1 → dl β f k (8 + y) = β (8 + y)
  | 0, _ => rfl
  | k + 1, hk => by
    rw [dl, bs_out (by rw [dl_lo (by decide)]; exact hy) (by rw [dl_lo (by decide), dl_lo (by decide)]; omega)]
    exact dl_out hy k (by omega)
theorem dl_lb {β : Bd} {f : Nat → Bool} (h : Wf β) : ∀ y, y < 7 → dl β f (β 0 * β 1) (8 + y) = lb β f (β 0) (8 + y) := by
  have hW := h.2.1
  refine bd_ext (lb_wf h (β 0)) (dl_wf h _ (Nat.le_refl _)) ?_ ?_ (fun k hk => ?_) (fun y hy => ?_)
  · rw [dl_lo (by decide), lb_lo (by decide)]
  · rw [dl_lo (by decide), lb_lo (by decide)]
  · rw [lb_lo (by decide), lb_lo (by decide)] at hk
    rw [dl_bt h _ (Nat.le_refl _) k hk]
    unfold bt
    rw [lb_lo (j := 1) (by decide), lb_at (kH hk), bm_tb, show decide (k % β 1 < β 1) = true by simpa using kW (k := k) hW.1, Bool.true_and]
    congr 1
    rw [Nat.mul_comm]
    exact (Nat.div_add_mod k (β 1)).symm
  · rw [lb_lo (by decide)] at hy
    rw [dl_out hy _ (Nat.le_refl _), lb_ge hy]
section C70
variable {b : Nat} {mi : Mi} {ml : Ml}
set_option maxHeartbeats 1000000 in
theorem p77 {x z : Int32} (hb : b + 8 < 2 ^ 31) (hR : Rel b mi ml) : Sg 77 0 [some (.ref 0), some (.int x), some (.int z), none, none, none, none] [] mi ml (qi fun v m l => Sg 139 0 [some (.ref 47), some (.int x), some (.int z), none, none] [] m l (qi (eqR (b + 8) v))) := by
  obtain ⟨β, lp, q, fu, sd, sq, h⟩ := hR
  have hp := h.1.1
  have hH := hp.1.1
  have hW := hp.1.2.1
  have hC := h.1.cd
  have hM := h.2.1.1
  have fin : Rel (b + 8) mi ml := Rel.mono (by omega) ⟨β, lp, q, fu, sd, sq, h⟩
  by_cases hcy : ∃ y, y < β 0 ∧ x = nI y
  · obtain ⟨y, hy, rfl⟩ := hcy
    by_cases hcs : ∃ s, s ≤ 3 ∧ z = nI s
    · obtain ⟨s, hs, rfl⟩ := hcs
      obtain ⟨hform, sz, hz, z1, z2, z3⟩ := h.2.2.1 s (by omega)
      have hbd := hp.1.2.2.2.2 y (by omega)
      refine rg77_0 (c106 (fun t ht e => ?_) (fun hno => absurd rfl (hno s hs)))
      have et : t = s := ((nI_eq (by omega) (by omega)).mp e).symm
      subst et
      refine c6 hC.1.1 hH.2 (fun _ _ _ => ⟨fun r => absurd r (by decide), fun _ => ⟨fun r => (by cases r), fun r hr => ?_⟩⟩) (fun hno => absurd rfl (hno y hy))
      cases hr
      have hS := (MRt t (by omega)).2
      refine ⟨hS, ?_⟩
      rcases hform with ⟨l1, l2⟩ | ⟨l1, f, hf, l2, l3⟩
      · rw [l1]
        refine ⟨fun r => absurd r (by decide), fun _ => c104 (rg139_0 (c129 (H := β 0) (by rw [gm_upN (by decide)]; exact hM.1.1) hH (fun _ _ _ => ⟨fun r => absurd r (by decide), fun _ => ?_⟩) (fun hno => absurd rfl (hno y hy))))⟩
        refine c121 (fun _ _ _ => ⟨fun _ => ⟨pk_in t 4 (by omega), ?_⟩, fun r => absurd (by decide) r⟩) (fun hno => absurd rfl (hno t hs))
        have e48 : (va_up mi 0 (va_up (mi 0) 7 1)) 48 t = -1 := by rw [gm_upN (by decide)]; exact l2
        rw [nI_clamp (by omega), e48]
        refine ⟨fun r => absurd r (by decide), fun _ => c120 ⟨rfl, Rel.mono (by omega) ⟨β, lp, q, fu, sd, sq, h.fnd⟩⟩⟩
      · rw [l1]
        refine ⟨fun _ => ⟨pk_in y 7 (by omega), ?_⟩, fun r => absurd rfl r⟩
        have emin : (if mi 1 1 < mi (39 + 2 * t) 2 then mi 1 1 else mi (39 + 2 * t) 2) = nI (min sz (β 1)) := by
          rw [hC.1.2.1, z1]
          by_cases hlt : β 1 < sz
          · rw [if_pos ((nI_ltI (by omega) (by omega)).mpr hlt), Nat.min_eq_right (by omega)]
          · rw [if_neg (fun r => hlt ((nI_ltI (by omega) (by omega)).mp r)), Nat.min_eq_left (by omega)]
        rw [emin, nI_clamp (by omega), hC.2 y (by omega)]
        obtain ⟨n, hn⟩ : ∃ n, n = min sz (β 1) := ⟨_, rfl⟩
        rw [← hn]
        have hnW : n ≤ β 1 := by rw [hn]; exact Nat.min_le_right _ _
        have hnz : n ≤ sz := by rw [hn]; exact Nat.min_le_left _ _
        obtain ⟨it, hit⟩ : ∃ it : Nat → Int32, it = fun i => mi 50 (60 * t + i) := ⟨_, rfl⟩
        have hl : ∀ w, w ≤ n → rdf (β (8 + y)) it w < 2 ^ (β 1) := fun w hw => rdf_l hbd hW.2 w (by omega)
        have hl7 : ∀ w, w ≤ n → rdf (β (8 + y)) it w < 128 := fun w hw => Nat.lt_of_lt_of_le (hl w hw) (pw7 hW.2)
        refine upP n (fun w => Sg 77 67 [some (.ref 0), some (.int (nI y)), some (.int (nI t)), some (.ref (39 + 2 * t)), some (.int (nI n)), some (.int (nI (rdf (β (8 + y)) it w))), some (.int (nI w))] [] mi ml (qi fun v m l => Sg 139 0 [some (.ref 47), some (.int (nI y)), some (.int (nI t)), none, none] [] m l (qi (eqR (b + 8) v)))) ?_ ?_ 0 (Nat.zero_le _)
        · refine rg77_67 hS (pk_le n n (fun _ => c5 rfl (by omega) ?_) (fun r => by omega))
          obtain ⟨m1, hm1⟩ : ∃ m1, m1 = va_up (va_up mi 2 (va_up (mi 2) y (nI (rdf (β (8 + y)) it n)))) 1 (va_up (mi 1) 5 (mi 1 5 + 1)) := ⟨_, rfl⟩
          rw [← hm1]
          have f1 : ∀ c, c ≠ 1 → c ≠ 2 → m1 c = mi c := fun c c1 c2 => by rw [hm1, gm_upN c1, gm_upN c2]
          have k47 : m1 47 = mi 47 := f1 47 (by decide) (by decide)
          refine rg139_0 (c129 (H := β 0) (by rw [k47]; exact hM.1.1) hH (fun _ _ _ => ⟨fun r => absurd r (by decide), fun _ => ?_⟩) (fun hno => absurd rfl (hno y hy)))
          refine c121 (fun _ _ _ => ⟨fun _ => ⟨pk_in t 4 (by omega), ?_⟩, fun r => absurd (by decide) r⟩) (fun hno => absurd rfl (hno t hs))
          rw [nI_clamp (by omega), f1 48 (by decide) (by decide), l3]
          refine ⟨fun _ => ?_, fun r => absurd (nI_pos' (by omega)) r⟩
          refine c117n (a := sz) (b := β 1) (by rw [f1 49 (by decide) (by decide)]; exact z2) (by rw [k47]; exact hM.1.2.1) (by omega) (by omega) ?_
          rw [← hn]
          have key := upI n (fun w (m2 : Mi) => fr [52] m1 m2 ∧ Mb (bu β y (rdf (β (8 + y)) it w)) m2) (fun w m2 => Sg 139 50 [some (.ref 47), some (.int (nI y)), some (.int (nI t)), some (.int (nI n)), some (.int (nI w))] [] m2 ml (qi (eqR (b + 8) (nI n)))) ?_ ?_
          · refine key 0 m1 (Nat.zero_le _) ⟨fr.rf, ?_⟩
            show Mb (bu β y (β (8 + y))) m1
            rw [bu_id]
            unfold Mb
            rw [f1 52 (by decide) (by decide)]; exact hM.2
          · rintro m2 ⟨f2, hB⟩
            refine rg139_50 (pk_le n n (fun _ => ⟨rfl, Rel.b8 (d := 1) (by decide) ⟨bu β y (rdf (β (8 + y)) it n), lp, q, fu, sd, sq, h.row (hl n (Nat.le_refl n)) (by omega) hm1 (f2.mono (by decide)) hB⟩⟩) (fun r => by omega))
          · rintro w m2 hw ⟨f2, hB⟩ ih
            have e60 : (60 : Int32) * nI t = nI (60 * t) := pk_mul 60 t
            have ei : m2 50 (60 * t + w) = it w := by rw [f2 50 (by decide), f1 50 (by decide) (by decide), hit]
            refine rg139_50 (pk_le n w (fun r => by omega) (fun _ => ?_))
            rw [e60, nI_add, nI_clamp (by omega), ei]
            have nxt : ∀ c : Bool, c = (!decide (it w = 0)) → Sg 139 80 [some (.ref 47), some (.int (nI y)), some (.int (nI t)), some (.int (nI n)), some (.int (nI w))] [.int (bI c), .int (nI y), .int (nI w), .ref 47] m2 ml (qi (eqR (b + 8) (nI n))) := fun c hcc => by
              refine rg139_80 (c137 rfl rfl rfl (by omega) (by omega) (hl7 w (by omega)) (by have := hB y (by omega); rw [bu_at] at this; exact this) ?_)
              rw [nI_1]
              refine ih _ ⟨f2.up (by decide), ?_⟩
              have := hB.bw (y := y) (v := sb (rdf (β (8 + y)) it w) w c)
              rw [bu_bu, hcc] at this
              rw [hcc]
              exact this
            refine ⟨pk_in (60 * t + w) 240 (by omega), fun r => nxt false ?_, fun r => nxt true ?_⟩
            · rw [r]; rfl
            · simp [r]
        · intro w hw ih
          refine rg77_67 hS (pk_le n w (fun r => by omega) (fun _ => ⟨pk_in w 60 (by omega), ?_⟩))
          have ei : mi (39 + 2 * t + 1) w = it w := by rw [z3 w (by omega), hit]
          rw [nI_clamp (by omega), ei, sb_f _ (hl7 w (by omega)) _ (by omega), sb_t _ (hl7 w (by omega)) _ (by omega), nI_1]
          rw [rdf] at ih
          refine ⟨fun r => ?_, fun r => ?_⟩
          · rw [show (!decide (it w = 0)) = false by rw [r]; rfl] at ih; exact ih
          · rw [show (!decide (it w = 0)) = true by simp [r]] at ih; exact ih
    · refine rg77_0 (c106 (fun t ht e => absurd ⟨t, ht, e⟩ hcs) (fun _ => ?_))
      refine c6 hC.1.1 hH.2 (fun _ _ _ => ⟨fun r => absurd r (by decide), fun _ => ⟨fun _ => ?_, fun r hr => (by cases hr)⟩⟩) (fun hno => absurd rfl (hno y hy))
      refine rg139_0 (c129 hM.1.1 hH (fun _ _ _ => ⟨fun r => absurd r (by decide), fun _ => ?_⟩) (fun hno => absurd rfl (hno y hy)))
      exact c121 (fun s hs e => absurd ⟨s, hs, e⟩ hcs) (fun _ => ⟨fun r => absurd rfl r, fun _ => ⟨rfl, fin⟩⟩)
  · have no : Sg 139 0 [some (.ref 47), some (.int x), some (.int z), none, none] [] mi ml (qi (eqR (b + 8) (-2 : Int32))) :=
      rg139_0 (c129 hM.1.1 hH (fun s hs e => absurd ⟨s, hs, e⟩ hcy) (fun _ => ⟨fun _ => ⟨rfl, fin⟩, fun r => absurd rfl r⟩))
    refine rg77_0 (c106 (fun t ht e => ?_) (fun _ => ?_))
    · exact c6 hC.1.1 hH.2 (fun s hs e => absurd ⟨s, hs, e⟩ hcy) (fun _ => ⟨fun _ => no, fun r => absurd rfl r⟩)
    · exact c6 hC.1.1 hH.2 (fun s hs e => absurd ⟨s, hs, e⟩ hcy) (fun _ => ⟨fun _ => no, fun r => absurd rfl r⟩)
set_option maxHeartbeats 1000000 in
theorem p76 {x z : Int32} (hb : b + 8 < 2 ^ 31) (hR : Rel b mi ml) : Sg 76 0 [some (.ref 0), some (.int x), some (.int z), none, none, none, none] [] mi ml (qi fun v m l => Sg 138 0 [some (.ref 47), some (.int x), some (.int z), none, none] [] m l (qi (eqR (b + 8) v))) := by
  obtain ⟨β, lp, q, fu, sd, sq, h⟩ := hR
  have hp := h.1.1
  have hH := hp.1.1
  have hW := hp.1.2.1
  have hC := h.1.cd
  have hM := h.2.1.1
  have h49 := HW49 hp.1
  have fin : Rel (b + 8) mi ml := Rel.mono (by omega) ⟨β, lp, q, fu, sd, sq, h⟩
  by_cases hc : ∃ s, s ≤ 16 ∧ z = nI s
  · obtain ⟨n, hn, rfl⟩ := hc
    obtain ⟨f, hf⟩ : ∃ f, f = lcn x (nI n) := ⟨_, rfl⟩
    refine rg76_0 (pk_lt n 0 (fun r => by omega) (fun _ => pk_le n 16 (fun _ => ?_) (fun r => by omega)))
    have key := upI (β 0) (fun y (m1 : Mi) => (∀ c, c ≠ 1 → c ≠ 2 → m1 c = mi c) ∧ Cd (lb β f y) m1 ∧ m1 1 5 = mi 1 5 + nI y) (fun y m1 => Sg 76 18 [some (.ref 0), some (.int x), some (.int (nI n)), some (.int (lo x (y * β 1))), some (.int (nI y)), none, none] [] m1 ml (qi fun v m l => Sg 138 0 [some (.ref 47), some (.int x), some (.int (nI n)), none, none] [] m l (qi (eqR (b + 8) v)))) ?_ ?_
    · have := key 0 mi (Nat.zero_le _) ⟨fun _ _ _ => rfl, by rw [lb_0]; exact hC, by show _ = mi 1 5 + 0; rw [Int32.add_zero]⟩
      rw [Nat.zero_mul] at this
      exact this
    · rintro m1 ⟨f1, hCl, hv⟩
      have h0 : m1 1 0 = nI (β 0) := by have := hCl.1.1; rw [lb_lo (by decide)] at this; exact this
      refine rg76_18 (pk_le (β 0) (β 0) (fun _ => ?_) (fun r => by omega) h0 rfl)
      refine c11 hCl (lb_wf hp.1 _) ?_
      have k47 : m1 47 = mi 47 := f1 47 (by decide) (by decide)
      refine rg138_0 (c114c 0 16 (fun _ _ _ _ => ⟨fun _ => ?_, fun r => absurd (by decide) r⟩) (fun hno => absurd rfl (hno n (Nat.zero_le _) hn)))
      have keym := upI (β 0 * β 1) (fun k (m2 : Mi) => f52 m1 m2 ∧ Mb (dl β f k) m2) (fun k m2 => Sg 138 20 [some (.ref 47), some (.int x), some (.int (nI n)), some (.int (lo x k)), some (.int (nI k))] [] m2 ml (qi (eqR (b + 8) (nI (sm (fun y => pcn (lb β f (β 0) (8 + y))) (lb β f (β 0) 0)))))) ?_ ?_
      · refine keym 0 m1 (Nat.zero_le _) ⟨f52.rf, ?_⟩
        show Mb β m1
        unfold Mb
        rw [f1 52 (by decide) (by decide)]; exact hM.2
      · rintro m2 ⟨f2, hB⟩
        have k2 : m2 47 = mi 47 := by rw [f2.1 47 (by decide), k47]
        have e1 : m2 47 5 * m2 47 6 = nI (β 0 * β 1) := by rw [k2, hM.1.1, hM.1.2.1, pk_mul]
        refine rg138_20 (pk_le (β 0 * β 1) (β 0 * β 1) (fun _ => ?_) (fun r => by omega) e1 rfl)
        have hMl : Md (lb β f (β 0)) m2 := by
          refine ⟨?_, fun y hy => by rw [← dl_lb hp.1 y hy]; exact hB y hy⟩
          rw [k2, lb_lo (by decide), lb_lo (by decide), lb_lo (by decide), lb_lo (by decide), lb_lo (by decide)]
          exact hM.1
        refine c131 hMl (lb_wf hp.1 _) ⟨rfl, Rel.b8 (d := β 0) (by omega) ⟨lb β f (β 0), lp, q, fu, sd, sq, h.bd (β' := lb β f (β 0)) (d := β 0) (lb_wf hp.1 _) (by rw [lb_lo (by decide)]; exact hp.2.1) (hCl.f f2.1 (by decide) (by decide)) hMl hH.1 (by rw [f2.1 1 (by decide)]; exact hv) (by omega) ?_ (Or.inr ⟨rfl, ?_, lb_lo (by decide), lb_lo (by decide), lb_lo (by decide)⟩) ?_ ?_ ?_ ?_⟩⟩
        · intro c c1 c2 _ _ c5 c6 c7
          rw [f2.1 c (by simp [c5, c6, c7]), f1 c c1 c2]
        · rw [f2.1 23 (by decide), f1 23 (by decide) (by decide)]
        · rw [k2]; exact h.2.1.2.1.1
        · rw [k2]
        · rw [k2]
        · rw [k2]
      · rintro k m2 hk ⟨f2, hB⟩ ih
        have k2 : m2 47 = mi 47 := by rw [f2.1 47 (by decide), k47]
        have e1 : m2 47 5 * m2 47 6 = nI (β 0 * β 1) := by rw [k2, hM.1.1, hM.1.2.1, pk_mul]
        refine rg138_20 (pk_le (β 0 * β 1) k (fun r => by omega) (fun _ => ?_) e1 rfl)
        rw [k2, hM.1.2.1, pk_rem (by omega) (by omega) (by omega), pk_div (by omega) (by omega) (by omega)]
        refine ⟨nI_ne0 (by omega) (by omega), ?_⟩
        have elo : (1103515245 * lo x k) + 12345 = lo x (k + 1) := rfl
        rw [elo]
        have nxt : ∀ c : Bool, c = f k → Sg 138 74 [some (.ref 47), some (.int x), some (.int (nI n)), some (.int (lo x (k + 1))), some (.int (nI k))] [.int (bI c), .int (nI (k / β 1)), .int (nI (k % β 1)), .ref 47] m2 ml (qi (eqR (b + 8) (nI (sm (fun y => pcn (lb β f (β 0) (8 + y))) (lb β f (β 0) 0))))) := fun c hcc => by
          have l1 : dl β f k 1 = β 1 := dl_lo (by decide) k
          refine rg138_74 (c137b (mi := m1) (γ := dl β f k) (k := k) (v := c) (dl_wf hp.1 k (by omega)) (by rw [dl_lo (by decide), dl_lo (by decide)]; exact hk) f2 hB (by rw [l1]) (by rw [l1]) rfl (fun m3 f3 hB3 => ?_))
          rw [nI_1]
          exact ih m3 ⟨f3, by rw [dl, ← hcc]; exact hB3⟩
        refine ⟨fun r => nxt false ?_, fun r => nxt true ?_⟩
        · rw [hf]; unfold lcn; simp [r]
        · rw [hf]; unfold lcn; simp [r]
    · rintro y m1 hy ⟨f1, hCl, hv⟩ ih
      have h0 : m1 1 0 = nI (β 0) := by have := hCl.1.1; rw [lb_lo (by decide)] at this; exact this
      have h1 : m1 1 1 = nI (β 1) := by have := hCl.1.2.1; rw [lb_lo (by decide)] at this; exact this
      refine rg76_18 (pk_le (β 0) y (fun r => by omega) (fun _ => ?_) h0 rfl)
      refine upP (β 1) (fun w => Sg 76 36 [some (.ref 0), some (.int x), some (.int (nI n)), some (.int (lo x (y * β 1 + w))), some (.int (nI y)), some (.int (nI (bm (fun w => f (y * β 1 + w)) w))), some (.int (nI w))] [] m1 ml (qi fun v m l => Sg 138 0 [some (.ref 47), some (.int x), some (.int (nI n)), none, none] [] m l (qi (eqR (b + 8) v)))) ?_ ?_ 0 (Nat.zero_le _)
      · refine rg76_36 (pk_le (β 1) (β 1) (fun _ => c5 rfl (by omega) ?_) (fun r => by omega) h1 rfl)
        rw [nI_1]
        have := ih (va_up (va_up m1 2 (va_up (m1 2) y (nI (bm (fun w => f (y * β 1 + w)) (β 1))))) 1 (va_up (m1 1) 5 (m1 1 5 + 1))) ⟨fun c c1 c2 => by rw [gm_upN c1, gm_upN c2]; exact f1 c c1 c2, ?_, ?_⟩
        · rw [Nat.add_mul, Nat.one_mul] at this
          exact this
        · rw [lb_s]; exact hCl.bw
        · rw [gm_upS, gm_upS, hv, Int32.add_assoc]
          congr 1
          exact nI_1 y
      · intro w hw ihw
        refine rg76_36 (pk_le (β 1) w (fun r => by omega) (fun _ => ?_) h1 rfl)
        have elo : (1103515245 * lo x (y * β 1 + w)) + 12345 = lo x (y * β 1 + (w + 1)) := rfl
        rw [elo, nI_1, shl_N w (by omega), fa_or]
        rw [bm_s] at ihw
        refine ⟨fun r => ?_, fun r => ?_⟩
        · have e : f (y * β 1 + w) = false := by rw [hf]; unfold lcn; rw [Bool.not_eq_false', decide_eq_true_eq]; exact r
          rw [if_neg (by rw [e]; decide), Nat.or_zero] at ihw
          exact ihw
        · have e : f (y * β 1 + w) = true := by rw [hf]; unfold lcn; rw [Bool.not_eq_true', decide_eq_false_iff_not]; exact r
          rw [if_pos e] at ihw
          exact ihw
  · have no : Sg 138 0 [some (.ref 47), some (.int x), some (.int z), none, none] [] mi ml (qi (eqR (b + 8) (-2 : Int32))) :=
      rg138_0 (c114c 0 16 (fun s _ hs2 e => absurd ⟨s, hs2, e⟩ hc) (fun _ => ⟨fun r => absurd rfl r, fun _ => ⟨rfl, fin⟩⟩))
    refine rg76_0 ⟨fun _ => no, fun r1 => ⟨fun r4 => ?_, fun _ => no⟩⟩
    exfalso
    obtain ⟨s, hs, rfl⟩ := nI_of r1
    exact hc ⟨s, (nI_leI (b := 16) hs (by decide)).mp r4, rfl⟩
end C70
