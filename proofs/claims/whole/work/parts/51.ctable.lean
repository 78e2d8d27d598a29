/-! the class's tables of seats -/
def tp (n len b : Nat) : Bool := sp n b && nr len b
def tx (n len b : Nat) : Nat := fb_ct (tp n len) b
def tN (w n len : Nat) : Nat := tx n len (2 ^ w)
/-- the seat at a place -/
def so (w n len i : Nat) : Nat := fsN (fun b => tp n len b && (tx n len b == i)) (2 ^ w)
theorem tp_sp {n len b : Nat} (h : tp n len b = true) : sp n b = true ∧ nr len b = true := by unfold tp at h; rw [Bool.and_eq_true] at h; exact h
theorem tx_sx (n len b : Nat) : tx n len b ≤ sx n b := fb_ct_sub fun _ _ h => (tp_sp h).1
theorem tN_35 {w n len : Nat} (hn : n < 8) (hw : w ≤ 7) : tN w n len ≤ 35 := Nat.le_trans (tx_sx n len _) (sx_w hn hw)
theorem tx_inj {n len a b : Nat} (ha : tp n len a = true) (hb : tp n len b = true) (h : tx n len a = tx n len b) : a = b := fb_ct_kth_one ha hb h
theorem tx_lt {n len b M : Nat} (hb : b < M) (h : tp n len b = true) : tx n len b < tx n len M := by
  have h1 : tx n len (b + 1) ≤ tx n len M := fb_ct_mono _ hb
  have h2 : tx n len (b + 1) = tx n len b + 1 := by show fb_ct _ (b + 1) = _; rw [fb_ct_succ, h]; rfl
  omega
theorem so_ok {w n len i : Nat} (h : i < tN w n len) : so w n len i < 2 ^ w ∧ tp n len (so w n len i) = true ∧ tx n len (so w n len i) = i := by
  obtain ⟨b, hb, h1, h2⟩ := fb_ct_kth (p := tp n len) h
  have e : so w n len i = b := by
    refine fsN_eq hb (by rw [h1, Bool.true_and, beq_iff_eq]; exact h2) (fun a ha => ?_)
    cases hq : tp n len a with
    | false => rfl
    | true =>
      rw [Bool.true_and, beq_eq_false_iff_ne]
      intro e
      have := tx_lt ha hq
      have h2' : tx n len b = i := h2
      omega
  rw [e]
  exact ⟨hb, h1, h2⟩
theorem so_tx {w n len b : Nat} (hb : b < 2 ^ w) (h : tp n len b = true) : so w n len (tx n len b) = b := by
  have := so_ok (w := w) (n := n) (len := len) (i := tx n len b) (tx_lt hb h)
  exact tx_inj this.2.1 h this.2.2
/-- places and seats -/
theorem so_any {w n len : Nat} {p : Nat → Bool} : anyB (fun i => p (so w n len i)) (tN w n len) = anyB (fun b => tp n len b && p b) (2 ^ w) :=
  cmp_any (p := tp n len) (fun b hb h => by show p (so w n len (tx n len b)) = p b; rw [so_tx hb h])
theorem so_ct {w n len : Nat} {p : Nat → Bool} : fb_ct (fun i => p (so w n len i)) (tN w n len) = fb_ct (fun b => tp n len b && p b) (2 ^ w) :=
  cmp_ct (p := tp n len) (fun b hb h => by show p (so w n len (tx n len b)) = p b; rw [so_tx hb h])
/-- what is written of the seats below b -/
def TB (r w n len b : Nat) (mi : Mi) : Prop := (mi r 4 = nI w ∧ mi r 5 = nI n ∧ mi r 6 = nI len ∧ mi r 0 = nI (tx n len b)) ∧ ∀ a, a < b → tp n len a = true → mi (r + 1) (tx n len a) = nI a ∧ ∀ j, j < n → mi (r + 2) (7 * tx n len a + j) = nI (cn a j)
/-- only the table changes -/
def f3 (r : Nat) (mi mi' : Mi) : Prop := ∀ c, c ≠ r → c ≠ r + 1 → c ≠ r + 2 → mi' c = mi c
theorem f3.rf {r : Nat} {mi : Mi} : f3 r mi mi := fun _ _ _ _ => rfl
theorem f3.tr {r : Nat} {m1 m2 m3 : Mi} (h1 : f3 r m1 m2) (h2 : f3 r m2 m3) : f3 r m1 m3 := fun c a b d => (h2 c a b d).trans (h1 c a b d)
theorem f3.u0 {r : Nat} {m1 m2 : Mi} {f : Nat → Int32} (h : f3 r m1 m2) : f3 r m1 (va_up m2 r f) := fun c a b d => by rw [gm_upN a]; exact h c a b d
theorem f3.u1 {r : Nat} {m1 m2 : Mi} {f : Nat → Int32} (h : f3 r m1 m2) : f3 r m1 (va_up m2 (r + 1) f) := fun c a b d => by rw [gm_upN b]; exact h c a b d
theorem f3.u2 {r : Nat} {m1 m2 : Mi} {f : Nat → Int32} (h : f3 r m1 m2) : f3 r m1 (va_up m2 (r + 2) f) := fun c a b d => by rw [gm_upN d]; exact h c a b d
/-- the table stands -/
def CT (r w n len : Nat) (mi : Mi) (ml : Ml) : Prop := TB r w n len (2 ^ w) mi ∧ ∀ i, i < tN w n len → ml (r + 3) i = lN (bm (fun j => mt len n (so w n len i) (so w n len j)) (tN w n len))
section C51
variable {r : Nat}
set_option maxHeartbeats 1000000 in
/-- addUnlessWide -/
theorem c57 {mi : Mi} {ml : Ml} {F : Mi → Ml → Prop} {x : Int32} {w n len b : Nat} (hr : isT r) (hx : x = nI b) (hw : w ≤ 7) (hn : n < 8) (hlen : len ≤ 7) (hb : b < 2 ^ w) (hp : sp n b = true) (hT : TB r w n len b mi) (h : ∀ mi', f3 r mi mi' → TB r w n len (b + 1) mi' → F mi' ml) : Sg 57 0 [some (.ref r), some (.int x), none, none, none] [] mi ml (qv F) := by
  subst hx
  have hb7 : b < 128 := Nat.lt_of_lt_of_le hb (pw7 hw)
  have hpn := sp_iff.mp hp
  obtain ⟨k, hk⟩ : ∃ k, k = tx n len b := ⟨_, rfl⟩
  have hk34 : k ≤ 34 := by
    have h1 := tx_sx n len b
    have h2 := sx_lt34 hb7 hp
    omega
  obtain ⟨⟨t4, t5, t6, t0⟩, tt⟩ := hT
  rw [← hk] at t0
  refine rg57_0 hr ?_
  have e7 : mi r 0 * 7 = nI (7 * k) := by rw [t0, show (7 : Int32) = nI 7 from rfl, pk_mul, Nat.mul_comm]
  rw [e7]
  have ctw : ct b w = n := by
    rw [← hpn]
    unfold pcn
    have : ct b 7 = ct b (w + (7 - w)) := by congr 1; omega
    rw [this]
    show _ = fb_ct _ (w + (7 - w))
    rw [fb_ct_split]
    have : fb_ct (fun k => b.testBit (w + k)) (7 - w) = 0 := fb_ct_zero.mpr fun k _ => tb_lt hb (by omega)
    rw [this]; rfl
  -- the columns as far as written
  obtain ⟨J, hJ⟩ : ∃ J : Nat → Mi → Prop, J = fun x mi' => (∀ c, c ≠ r + 2 → mi' c = mi c) ∧ (∀ z, z < 7 * k → mi' (r + 2) z = mi (r + 2) z) ∧ ∀ j, j < ct b x → nrj len b j = true ∧ mi' (r + 2) (7 * k + j) = nI (cn b j) := ⟨_, rfl⟩
  have key : ∀ x mi', x ≤ w → J x mi' → Sg 57 13 [some (.ref r), some (.int (nI b)), some (.int (nI (7 * k))), some (.int (nI (ct b x))), some (.int (nI x))] [] mi' ml (qv F) := by
    refine upI w J (fun x mi' => Sg 57 13 [some (.ref r), some (.int (nI b)), some (.int (nI (7 * k))), some (.int (nI (ct b x))), some (.int (nI x))] [] mi' ml (qv F)) ?_ ?_
    · intro mi' q
      rw [hJ] at q
      obtain ⟨q1, q2, q3⟩ := q
      have er : mi' r = mi r := q1 r (by omega)
      refine rg57_13 hr (pk_le w w (fun _ => ?_) (fun h1 => by omega) (by rw [er]; exact t4) rfl)
      have er1 : (va_up mi' (r + 1) (va_up (mi' (r + 1)) k (nI b))) r = mi r := by rw [gm_upN (by omega)]; exact er
      rw [er, t0, nI_clamp (by omega), er1, t0, nI_1]
      refine ⟨pk_in k 35 (by omega), h _ ?_ ?_⟩
      · exact f3.u0 (f3.u1 (show f3 r mi mi' from fun c _ _ d => q1 c d))
      · have hnr : nr len b = true := by
          unfold nr
          rw [hpn]
          refine allB_iff.mpr fun j hj => (q3 j (by omega)).1
        have htp : tp n len b = true := by unfold tp; rw [hp, hnr]; rfl
        have hs : tx n len (b + 1) = k + 1 := by rw [hk]; show fb_ct _ (b + 1) = _; rw [fb_ct_succ, htp]; rfl
        refine ⟨⟨?_, ?_, ?_, ?_⟩, fun a ha hpa => ?_⟩
        · rw [gm_upS, gm_upN (by decide)]; exact t4
        · rw [gm_upS, gm_upN (by decide)]; exact t5
        · rw [gm_upS, gm_upN (by decide)]; exact t6
        · rw [gm_upS, gm_upS, hs]
        · have n1 : r + 1 ≠ r := by omega
          have n2 : r + 2 ≠ r := by omega
          have n3 : r + 2 ≠ r + 1 := by omega
          rw [gm_upN n1, gm_upS, gm_upN n2, gm_upN n3]
          rcases Nat.lt_succ_iff_lt_or_eq.mp ha with c | c
          · obtain ⟨u1, u2⟩ := tt a c hpa
            have hlt : tx n len a < k := by rw [hk]; exact tx_lt c hpa
            refine ⟨by rw [gm_upN (by omega), q1 (r + 1) (by omega)]; exact u1, fun j hj => ?_⟩
            rw [q2 _ (by omega)]; exact u2 j hj
          · subst c
            rw [← hk]
            exact ⟨gm_upS, fun j hj => (q3 j (by omega)).2⟩
    · intro x mi' hx q ih
      have q' := q
      rw [hJ] at q'
      obtain ⟨q1, q2, q3⟩ := q'
      have er : mi' r = mi r := q1 r (by omega)
      have hctx : ct b x ≤ x := fb_ct_le _ x
      refine rg57_13 hr (pk_le w x (fun h1 => by omega) (fun _ => c109 rfl rfl (by omega) (by omega) ?_) (by rw [er]; exact t4) rfl)
      rw [nI_1]
      refine bq1 (fun h1 => ?_) (fun h1 => ?_)
      · have e : ct b (x + 1) = ct b x := by rw [ct_succ, h1]; rfl
        have := ih mi' (by rw [hJ]; exact ⟨q1, q2, by rw [e]; exact q3⟩)
        rw [e] at this; exact this
      · have e : ct b (x + 1) = ct b x + 1 := by rw [ct_succ, h1]; rfl
        have hcx : cn b (ct b x) = x := cn_eq (by omega) h1 rfl
        have store : nrj len b (ct b x) = true → Sg 57 59 [some (.ref r), some (.int (nI b)), some (.int (nI (7 * k))), some (.int (nI (ct b x))), some (.int (nI x))] [] mi' ml (qv F) := by
          intro hnj
          refine rg57_59 hr ?_
          rw [nI_add, nI_clamp (by omega), nI_1, nI_1]
          refine ⟨pk_in (7 * k + ct b x) 245 (by omega), ?_⟩
          have := ih (va_up mi' (r + 2) (va_up (mi' (r + 2)) (7 * k + ct b x) (nI x))) (by
            rw [hJ]
            refine ⟨fun c hc => by rw [gm_upN hc]; exact q1 c hc, fun z hz => by rw [gm_upS, gm_upN (by omega)]; exact q2 z hz, fun j hj => ?_⟩
            rw [gm_upS]
            rw [e] at hj
            rcases Nat.lt_succ_iff_lt_or_eq.mp hj with c | c
            · rw [gm_upN (by omega)]; exact q3 j c
            · rw [c, gm_upS, hcx]; exact ⟨hnj, rfl⟩)
          rw [e] at this
          exact this
        refine pk_le (ct b x) 0 (fun h2 => store ?_) (fun h2 => ?_)
        · unfold nrj
          rw [show (ct b x == 0) = true by simp; omega]; rfl
        · have e2 : nI (7 * k) + nI (ct b x) - 1 = nI (7 * k + ct b x - 1) := by rw [nI_add]; exact pk_sub (b := 1) (by omega)
          have v := (q3 (ct b x - 1) (by omega)).2
          have hm := cn_mono (b := b) (i := ct b x - 1) (j := ct b x) (by omega) (by
            have : ct b (x + 1) ≤ ct b 7 := fb_ct_mono _ (by omega)
            have : pcn b = ct b 7 := rfl
            omega)
          rw [hcx] at hm
          have e3 : nI x - nI (cn b (ct b x - 1)) - 1 = nI (x - cn b (ct b x - 1) - 1) := by
            rw [pk_sub (by omega)]
            exact pk_sub (b := 1) (by omega)
          rw [e2, nI_clamp (by omega), show 7 * k + ct b x - 1 = 7 * k + (ct b x - 1) by omega, v, e3, er, t6]
          refine ⟨pk_in (7 * k + (ct b x - 1)) 245 (by omega), pk_le (x - cn b (ct b x - 1) - 1) len (fun h3 => store ?_) (fun h3 => ?_)⟩
          · unfold nrj
            rw [hcx, decide_eq_true h3, Bool.or_true]
          · -- too wide
            have hnr : nr len b = false := by
              unfold nr
              refine allB_false (i := ct b x + 1) ?_ ?_
              · have : ct b (x + 1) ≤ ct b 7 := fb_ct_mono _ (by omega)
                have : pcn b = ct b 7 := rfl
                omega
              · rw [allB]
                have : nrj len b (ct b x) = false := by
                  unfold nrj
                  rw [hcx, show (ct b x == 0) = false by simp; omega, decide_eq_false (by omega)]; rfl
                rw [this, Bool.and_false]
            have htp : tp n len b = false := by unfold tp; rw [hnr, Bool.and_false]
            have hs : tx n len (b + 1) = k := by rw [hk]; show fb_ct _ (b + 1) = _; rw [fb_ct_succ, htp]; rfl
            refine h mi' (fun c _ _ d => q1 c d) ⟨⟨by rw [er]; exact t4, by rw [er]; exact t5, by rw [er]; exact t6, by rw [er, hs]; exact t0⟩, fun a ha hpa => ?_⟩
            have hab : a < b := by
              rcases Nat.lt_succ_iff_lt_or_eq.mp ha with c | c
              · exact c
              · subst c; rw [htp] at hpa; cases hpa
            obtain ⟨u1, u2⟩ := tt a hab hpa
            have hlt : tx n len a < k := by rw [hk]; exact tx_lt hab hpa
            refine ⟨by rw [q1 (r + 1) (by omega)]; exact u1, fun j hj => ?_⟩
            rw [q2 _ (by omega)]; exact u2 j hj
  have := key 0 mi (Nat.zero_le _) (by rw [hJ]; exact ⟨fun _ _ => rfl, fun _ _ => rfl, fun j hj => absurd hj (Nat.not_lt_zero j)⟩)
  exact this
theorem absn : ∀ a, a ≤ 7 → ∀ b, b ≤ 7 → ∀ len, len ≤ 7 → ((nI len < nI a - nI b ∨ ¬ (-(nI a - nI b)) ≤ nI len) ↔ (decide (a ≤ b + len) && decide (b ≤ a + len)) = false) := by decide +kernel
/-- areNear -/
theorem c59 {mi : Mi} {ml : Ml} {F : Int32 → Mi → Ml → Prop} {x y : Int32} {w n len k l : Nat} (hr : isT r) (hx : x = nI k) (hy : y = nI l) (hw : w ≤ 7) (hn : n < 8) (hlen : len ≤ 7) (hT : TB r w n len (2 ^ w) mi) (hk : k < tN w n len) (hl : l < tN w n len) (h : F (bI (mt len n (so w n len k) (so w n len l))) mi ml) : Sg 59 0 [some (.ref r), some (.int x), some (.int y), none, none] [] mi ml (qi F) := by
  subst hx hy
  have hN := tN_35 (len := len) hn hw
  obtain ⟨k1, k2, k3⟩ := so_ok hk
  obtain ⟨l1, l2, l3⟩ := so_ok hl
  obtain ⟨a, ha⟩ : ∃ a, a = so w n len k := ⟨_, rfl⟩
  obtain ⟨b, hb⟩ : ∃ b, b = so w n len l := ⟨_, rfl⟩
  rw [← ha] at k1 k2 k3 h
  rw [← hb] at l1 l2 l3 h
  have va := (hT.2 a k1 k2).2
  have vb := (hT.2 b l1 l2).2
  rw [k3] at va
  rw [l3] at vb
  refine rg59_0 hr ?_
  refine upP n (fun j => allB (mtj len a b) j = true → Sg 59 2 [some (.ref r), some (.int (nI k)), some (.int (nI l)), some (.int (nI j)), none] [] mi ml (qi F)) ?_ ?_ 0 (Nat.zero_le _) rfl
  · intro hq
    refine rg59_2 hr (pk_le n n (fun _ => ?_) (fun h1 => by omega) hT.1.2.1 rfl)
    unfold mt at h
    rw [hq] at h; exact h
  · intro j hj ih hq
    have e1 : nI k * 7 + nI j = nI (7 * k + j) := by show nI k * nI 7 + nI j = _; rw [pk_mul, nI_add, Nat.mul_comm]
    have e2 : nI l * 7 + nI j = nI (7 * l + j) := by show nI l * nI 7 + nI j = _; rw [pk_mul, nI_add, Nat.mul_comm]
    refine rg59_2 hr (pk_le n j (fun h1 => by omega) (fun _ => ?_) hT.1.2.1 rfl)
    rw [e1, e2, nI_clamp (by omega), nI_clamp (by omega), va j hj, vb j hj, hT.1.2.2.1, nI_1]
    have ad := absn (cn a j) (cn_le a j) (cn b j) (cn_le b j) len hlen
    have no : mtj len a b j = false → F 0 mi ml := fun q => by
      have : mt len n a b = false := allB_false (i := j + 1) (by omega) (by rw [allB, q, Bool.and_false])
      rw [this] at h; exact h
    refine ⟨pk_in (7 * k + j) 245 (by omega), pk_in (7 * l + j) 245 (by omega), fun h1 => no (ad.mp (Or.inl h1)), fun h1 => ⟨fun h2 => ih ?_, fun h2 => no (ad.mp (Or.inr h2))⟩⟩
    rw [allB, hq, Bool.true_and]
    cases hz : mtj len a b j with
    | true => rfl
    | false => rcases ad.mpr hz with q | q
               · exact absurd q h1
               · exact absurd h2 q
theorem mt_rfl (len n a : Nat) : mt len n a a = true := allB_iff.mpr fun j _ => by
  unfold mtj
  rw [decide_eq_true (Nat.le_add_right _ _)]; rfl
theorem lor_lt {a b : Nat} (ha : a < 2 ^ 36) (hb : b < 2 ^ 36) : a ||| b < 2 ^ 36 := Nat.or_lt_two_pow ha hb
theorem bm_36 (p : Nat → Bool) {k : Nat} (hk : k ≤ 35) : bm p k < 2 ^ 36 := Nat.lt_of_lt_of_le (bm_lt p k) (Nat.pow_le_pow_right (by decide) (by omega))
theorem lsh1 {k : Nat} (hk : k < 64) : lshl 1 (nI k) = lN (2 ^ k) := by
  show lshl (lN 1) (nI k) = _
  rw [lshl_N 1 hk, Nat.one_mul]
theorem pw36 {k : Nat} (hk : k ≤ 35) : 2 ^ k < 2 ^ 36 := Nat.pow_lt_pow_right (by decide) (by omega)
set_option maxHeartbeats 1000000 in
/-- joinSeats -/
theorem c58 {mi : Mi} {ml0 : Ml} {F : Mi → Ml → Prop} {w n len : Nat} (hr : isT r) (hw : w ≤ 7) (hn : n < 8) (hlen : len ≤ 7) (hT : TB r w n len (2 ^ w) mi) (h : ∀ ml', (∀ c, c ≠ r + 3 → ml' c = ml0 c) → (∀ i, i < tN w n len → ml' (r + 3) i = lN (bm (fun j => mt len n (so w n len i) (so w n len j)) (tN w n len))) → F mi ml') : Sg 58 0 [some (.ref r), none, none] [] mi ml0 (qv F) := by
  obtain ⟨N, hN⟩ : ∃ N, N = tN w n len := ⟨_, rfl⟩
  have hN35 : N ≤ 35 := by rw [hN]; exact tN_35 hn hw
  have h0 : mi r 0 = nI N := by rw [hN]; exact hT.1.2.2.2
  obtain ⟨M, hM⟩ : ∃ M : Nat → Nat → Bool, M = fun i j => mt len n (so w n len i) (so w n len j) := ⟨_, rfl⟩
  have hMs : ∀ i j, M i j = M j i := fun i j => by rw [hM]; exact mt_sym _ _ _ _
  have hMr : ∀ i, M i i = true := fun i => by rw [hM]; exact mt_rfl _ _ _
  rw [← hN] at h
  refine rg58_0 hr ?_
  have key : ∀ k ml, k ≤ N → ((∀ c, c ≠ r + 3 → ml c = ml0 c) ∧ ∀ i, i < k → ml (r + 3) i = lN (bm (M i) k)) → Sg 58 2 [some (.ref r), some (.int (nI k)), none] [] mi ml (qv F) := by
    refine upI N (fun k (ml : Ml) => (∀ c, c ≠ r + 3 → ml c = ml0 c) ∧ ∀ i, i < k → ml (r + 3) i = lN (bm (M i) k)) (fun k ml => Sg 58 2 [some (.ref r), some (.int (nI k)), none] [] mi ml (qv F)) ?_ ?_
    · rintro ml ⟨g1, g2⟩
      refine rg58_2 hr (pk_le N N (fun _ => h ml g1 (fun i hi => ?_)) (fun h1 => by omega) h0 rfl)
      rw [g2 i hi, hM]
    · rintro k ml hk ⟨g1, g2⟩ ihk
      refine rg58_2 hr (pk_le N k (fun h1 => by omega) (fun _ => ⟨pk_in k 35 (by omega), ?_⟩) h0 rfl)
      rw [nI_clamp (by omega)]
      have inner : ∀ o (ml : Ml), o ≤ k → ((∀ c, c ≠ r + 3 → ml c = ml0 c) ∧ ml (r + 3) k = lN (bm (M k) o ||| 2 ^ k) ∧ (∀ i, i < o → ml (r + 3) i = lN (bm (M i) (k + 1))) ∧ ∀ i, o ≤ i → i < k → ml (r + 3) i = lN (bm (M i) k)) → Sg 58 21 [some (.ref r), some (.int (nI k)), some (.int (nI o))] [] mi ml (qv F) := by
        refine upI k (fun o (ml : Ml) => (∀ c, c ≠ r + 3 → ml c = ml0 c) ∧ ml (r + 3) k = lN (bm (M k) o ||| 2 ^ k) ∧ (∀ i, i < o → ml (r + 3) i = lN (bm (M i) (k + 1))) ∧ ∀ i, o ≤ i → i < k → ml (r + 3) i = lN (bm (M i) k)) (fun o ml => Sg 58 21 [some (.ref r), some (.int (nI k)), some (.int (nI o))] [] mi ml (qv F)) ?_ ?_
        · rintro ml ⟨f1, f2, f3, f4⟩
          refine rg58_21 hr (pk_le k k (fun _ => ?_) (fun h1 => by omega))
          rw [nI_1]
          refine ihk ml ⟨f1, fun i hi => ?_⟩
          rcases Nat.lt_succ_iff_lt_or_eq.mp hi with q | q
          · exact f3 i q
          · subst q; rw [f2, bm_s, hMr, if_pos rfl]
        · rintro o ml ho ⟨f1, f2, f3, f4⟩ iho
          refine rg58_21 hr (pk_le k o (fun h1 => by omega) (fun _ => ?_))
          refine c59 (w := w) (n := n) (len := len) hr rfl rfl hw hn hlen hT (by omega) (by omega) ?_
          have eM : mt len n (so w n len k) (so w n len o) = M k o := by rw [hM]
          rw [eM, nI_clamp (by omega), nI_clamp (by omega), nI_1]
          refine bq (fun hq => iho ml ⟨f1, ?_, fun i hi => ?_, fun i hi => f4 i (by omega)⟩) (fun hq => ⟨pk_in k 35 (by omega), pk_in o 35 (by omega), ?_⟩)
          · rw [f2, bm_s, hq]; simp
          · rcases Nat.lt_succ_iff_lt_or_eq.mp hi with q | q
            · exact f3 i q
            · subst q; rw [f4 i (Nat.le_refl i) ho, bm_s, hMs, hq]; simp
          · rw [gm_upN (show o ≠ k by omega), f2, f4 o (Nat.le_refl o) ho, lsh1 (by omega), lsh1 (by omega)]
            have l1 := bm_36 (M k) (show o ≤ 35 by omega)
            have l2 := bm_36 (M o) (show k ≤ 35 by omega)
            have l3 := pw36 (show k ≤ 35 by omega)
            have l4 := pw36 (show o ≤ 35 by omega)
            have l5 := lor_lt l1 l3
            have e1 : lN (bm (M k) o ||| 2 ^ k) ||| lN (2 ^ o) = lN (bm (M k) (o + 1) ||| 2 ^ k) := by
              rw [wb_or (by omega) (by omega), bm_s, hq, if_pos rfl, Nat.or_assoc, Nat.or_assoc, Nat.or_comm (2 ^ k)]
            have e2 : lN (bm (M o) k) ||| lN (2 ^ k) = lN (bm (M o) (k + 1)) := by
              rw [wb_or (by omega) (by omega), bm_s, hMs o k, hq, if_pos rfl]
            rw [e1, e2]
            refine iho _ ⟨fun c hc => by rw [gm_upN hc]; exact f1 c hc, ?_, fun i hi => ?_, fun i hi hik => ?_⟩
            · rw [gm_upS, gm_upN (by omega), gm_upS]
            · rw [gm_upS]
              rcases Nat.lt_succ_iff_lt_or_eq.mp hi with q | q
              · rw [gm_upN (by omega), gm_upN (by omega)]; exact f3 i q
              · subst q; exact gm_upS
            · rw [gm_upS, gm_upN (by omega), gm_upN (by omega)]; exact f4 i (by omega) hik
      refine inner 0 _ (Nat.zero_le _) ⟨fun c hc => by rw [gm_upN hc]; exact g1 c hc, ?_, fun i hi => by omega, fun i _ hi => ?_⟩
      · rw [gm_upS, gm_upS, lsh1 (by omega)]
        congr 1
        show 2 ^ k = 0 ||| 2 ^ k
        simp
      · rw [gm_upS, gm_upN (by omega)]; exact g2 i hi
  exact key 0 ml0 (Nat.zero_le _) ⟨fun _ _ => rfl, fun i hi => by omega⟩
/-- a table, or none yet -/
def TI (r : Nat) (mi : Mi) (ml : Ml) : Prop := mi r 4 = 0 ∨ ∃ w n len, (1 ≤ w ∧ w ≤ 7) ∧ n < 8 ∧ len ≤ 7 ∧ CT r w n len mi ml
set_option maxHeartbeats 1000000 in
/-- prepare -/
theorem c56 {mi : Mi} {ml : Ml} {F : Mi → Ml → Prop} {x y z : Int32} {w n len : Nat} (hr : isT r) (hx : x = nI w) (hy : y = nI n) (hz : z = nI len) (hw : 1 ≤ w ∧ w ≤ 7) (hn : n < 8) (hlen : len ≤ 7) (hT : TI r mi ml) (h : ∀ mi' ml', f3 r mi mi' → (∀ c, c ≠ r + 3 → ml' c = ml c) → CT r w n len mi' ml' → F mi' ml') : Sg 56 0 [some (.ref r), some (.int x), some (.int y), some (.int z), none] [] mi ml (qv F) := by
  subst hx hy hz
  have build : Sg 56 25 [some (.ref r), some (.int (nI w)), some (.int (nI n)), some (.int (nI len)), none] [] mi ml (qv F) := by
    refine rg56_25 hr ?_
    have key : ∀ b mi', b ≤ 2 ^ w → (f3 r mi mi' ∧ TB r w n len b mi') → Sg 56 48 [some (.ref r), some (.int (nI w)), some (.int (nI n)), some (.int (nI len)), some (.int (nI b))] [] mi' ml (qv F) := by
      have hp7 := pw7 hw.2
      refine upI (2 ^ w) (fun b mi' => f3 r mi mi' ∧ TB r w n len b mi') (fun b mi' => Sg 56 48 [some (.ref r), some (.int (nI w)), some (.int (nI n)), some (.int (nI len)), some (.int (nI b))] [] mi' ml (qv F)) ?_ ?_
      · rintro mi' ⟨g1, g2⟩
        refine rg56_48 hr (pk_le (2 ^ w) (2 ^ w) (fun _ => ?_) (fun h1 => by omega) (by rw [g2.1.1]; exact shl_N w (by omega)) rfl)
        exact c58 hr hw.2 hn hlen g2 (fun ml' q1 q2 => h mi' ml' g1 q1 ⟨g2, q2⟩)
      · rintro b mi' hb ⟨g1, g2⟩ ih
        have hb7 : b < 128 := by omega
        have next : sp n b = false → Sg 56 48 [some (.ref r), some (.int (nI w)), some (.int (nI n)), some (.int (nI len)), some (.int (nI (b + 1)))] [] mi' ml (qv F) := by
          intro hp
          have htp : tp n len b = false := by unfold tp; rw [hp]; rfl
          have hs : tx n len (b + 1) = tx n len b := by show fb_ct _ (b + 1) = _; rw [fb_ct_succ, htp]; rfl
          refine ih mi' ⟨g1, ⟨by rw [hs]; exact g2.1, fun a ha hpa => g2.2 a ?_ hpa⟩⟩
          rcases Nat.lt_succ_iff_lt_or_eq.mp ha with q | q
          · exact q
          · subst q; rw [htp] at hpa; cases hpa
        refine rg56_48 hr (pk_le (2 ^ w) b (fun h1 => by omega) (fun _ => c194 rfl hb7 ?_) (by rw [g2.1.1]; exact shl_N w (by omega)) rfl)
        have hpl := pcn_le b
        rw [g2.1.2.1, g2.1.2.2.2, nI_1]
        refine pk_ne (pcn b) n (fun h1 => next (by unfold sp; exact beq_eq_false_iff_ne.mpr h1)) (fun h1 => ?_)
        have hp : sp n b = true := sp_iff.mpr h1
        have hlt : tx n len b ≤ 34 := by
          have h1 := tx_sx n len b
          have h2 := sx_lt34 hb7 hp
          omega
        refine pk_le 35 (tx n len b) (fun h2 => by omega) (fun _ => ?_)
        exact c57 hr rfl hw.2 hn hlen hb hp g2 (fun m2 q1 q2 => ih m2 ⟨g1.tr q1, q2⟩)
    refine key 0 _ (Nat.zero_le _) ⟨f3.rf.u0, ⟨⟨?_, ?_, ?_, ?_⟩, fun a ha => by omega⟩⟩
    · rw [gm_upS, gm_upN (by decide), gm_upN (by decide), gm_upN (by decide), gm_upS]
    · rw [gm_upS, gm_upN (by decide), gm_upN (by decide), gm_upS]
    · rw [gm_upS, gm_upN (by decide), gm_upS]
    · rw [gm_upS, gm_upS]; rfl
  refine rg56_0 hr ⟨fun _ => build, fun h1 => ⟨fun _ => build, fun h2 => ⟨fun _ => build, fun h3 => ?_⟩⟩⟩
  have h1 := Decidable.not_not.mp h1
  have h2 := Decidable.not_not.mp h2
  have h3 := Decidable.not_not.mp h3
  rcases hT with q | ⟨w', n', len', q1, q2, q3, q4⟩
  · rw [q, show (0 : Int32) = nI 0 from rfl, nI_eq (by omega) (by omega)] at h1
    omega
  · have e1 : w' = w := by
      rw [q4.1.1.1, nI_eq (by omega) (by omega)] at h1; exact h1
    have e2 : n' = n := by
      rw [q4.1.1.2.1, nI_eq (by omega) (by omega)] at h2; exact h2
    have e3 : len' = len := by
      rw [q4.1.1.2.2.1, nI_eq (by omega) (by omega)] at h3; exact h3
    subst e1; subst e2; subst e3
    exact h mi ml f3.rf (fun _ _ => rfl) q4
end C51
