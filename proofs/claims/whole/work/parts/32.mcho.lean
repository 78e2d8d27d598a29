/-! the model: the choice; mend, moves -/
/-- the seats chosen -/
def choP (β : Bd) (g : Nat → Nat) (y a l b : Nat) : Bool := sp (β 2) b && ((decide (y = 0) || mt (β 3) (β 2) a b) && (cs β g (β 0 - 1 - y) b == l))
def cho (β : Bd) (g : Nat → Nat) : Nat → Nat
  | 0 => fsN (choP β g 0 0 (few β g)) (2 ^ (β 1))
  | y + 1 => fsN (choP β g (y + 1) (cho β g y) (csb β g (β 0 - 1 - y) (cho β g y))) (2 ^ (β 1))
def lft (β : Bd) (g : Nat → Nat) : Nat → Nat
  | 0 => few β g
  | y + 1 => csb β g (β 0 - 1 - y) (cho β g y)
theorem cho_eq (β : Bd) (g : Nat → Nat) : ∀ y, cho β g y = fsN (choP β g y (cho β g (y - 1)) (lft β g y)) (2 ^ (β 1))
  | 0 => by
    show fsN (choP β g 0 0 (few β g)) (2 ^ (β 1)) = fsN (choP β g 0 _ (few β g)) (2 ^ (β 1))
    refine fsN_cong fun b _ => ?_
    unfold choP
    simp
  | y + 1 => rfl
/-- what a choice has -/
theorem cho_ok {β : Bd} {g : Nat → Nat} (hH : 1 ≤ β 0) (hf : few β g < 1000000) : ∀ y, y < β 0 → (cho β g y < 2 ^ (β 1) ∧ choP β g y (cho β g (y - 1)) (lft β g y) (cho β g y) = true ∧ (∀ b, b < cho β g y → choP β g y (cho β g (y - 1)) (lft β g y) b = false) ∧ lft β g y < 1000000) := by
  have fin : ∀ y, lft β g y < 1000000 → (∃ b, b < 2 ^ (β 1) ∧ choP β g y (cho β g (y - 1)) (lft β g y) b = true) → (cho β g y < 2 ^ (β 1) ∧ choP β g y (cho β g (y - 1)) (lft β g y) (cho β g y) = true ∧ (∀ b, b < cho β g y → choP β g y (cho β g (y - 1)) (lft β g y) b = false) ∧ lft β g y < 1000000) := by
    rintro y hl ⟨b, hb, hp⟩
    have e := cho_eq β g y
    have hlt : fsN (choP β g y (cho β g (y - 1)) (lft β g y)) (2 ^ (β 1)) < 2 ^ (β 1) := by
      rcases Nat.lt_or_ge (fsN (choP β g y (cho β g (y - 1)) (lft β g y)) (2 ^ (β 1))) (2 ^ (β 1)) with q | q
      · exact q
      · obtain ⟨k, ⟨hk, hp2⟩, hm⟩ := pk_least (fun k => k < 2 ^ (β 1) ∧ choP β g y (cho β g (y - 1)) (lft β g y) k = true) ⟨b, hb, hp⟩
        have := fsN_eq (p := choP β g y (cho β g (y - 1)) (lft β g y)) hk hp2 (fun j hj => by
          cases hq : choP β g y (cho β g (y - 1)) (lft β g y) j with
          | false => rfl
          | true => exact absurd ⟨by omega, hq⟩ (hm j hj))
        omega
    have h2 := fsN_lt hlt
    rw [← e] at h2 hlt
    exact ⟨hlt, h2.1, h2.2, hl⟩
  intro y
  induction y with
  | zero =>
    intro _
    refine fin 0 hf ?_
    obtain ⟨b, h1, h2, h3⟩ := mn_at hf
    exact ⟨b, h1, by unfold choP; rw [h2]; simp [lft, h3, few]⟩
  | succ y ih =>
    intro hy
    obtain ⟨i1, i2, i3, i4⟩ := ih (by omega)
    have hc : cs β g (β 0 - 1 - y) (cho β g y) = lft β g y := by
      unfold choP at i2
      simp only [Bool.and_eq_true, beq_iff_eq] at i2
      exact i2.2.2
    have hl : lft β g (y + 1) < 1000000 := by
      show csb β g (β 0 - 1 - y) (cho β g y) < 1000000
      rw [cs_csb] at hc
      unfold csv at hc
      split at hc
      · rename_i h1
        simp only [Bool.and_eq_true, decide_eq_true_eq] at h1
        exact h1.2
      · omega
    refine fin (y + 1) hl ?_
    have hl2 := hl
    show ∃ b, b < 2 ^ (β 1) ∧ choP β g (y + 1) (cho β g y) (csb β g (β 0 - 1 - y) (cho β g y)) b = true
    have hl3 : csb β g (β 0 - 1 - y) (cho β g y) < 1000000 := hl
    obtain ⟨d, hd⟩ : ∃ d, β 0 - 1 - y = d + 1 := ⟨β 0 - 1 - y - 1, by omega⟩
    rw [hd] at hl3 ⊢
    rw [csb] at hl3 ⊢
    obtain ⟨b, h1, h2, h3⟩ := mn_at hl3
    refine ⟨b, h1, ?_⟩
    unfold choP
    simp only [Bool.and_eq_true] at h2
    rw [h2.1, h2.2, show β 0 - 1 - (y + 1) = d by omega, h3]
    simp
theorem cho_cs {β : Bd} {g : Nat → Nat} {y a l b : Nat} (h : choP β g y a l b = true) : sp (β 2) b = true ∧ cs β g (β 0 - 1 - y) b = l ∧ (y = 0 ∨ mt (β 3) (β 2) a b = true) := by
  unfold choP at h
  simp only [Bool.and_eq_true, Bool.or_eq_true, decide_eq_true_eq, beq_iff_eq] at h
  exact ⟨h.1, h.2.2, h.2.1⟩
theorem lft_s {β : Bd} {g : Nat → Nat} {y : Nat} (h : cs β g (β 0 - 1 - y) (cho β g y) = lft β g y) (hl : lft β g y < 1000000) (hy : y < β 0) : lft β g y = lft β g (y + 1) + mvN (g y) (cho β g y) (β 2) := by
  rw [← h]
  rw [← h] at hl
  show cs β g (β 0 - 1 - y) (cho β g y) = csb β g (β 0 - 1 - y) (cho β g y) + _
  rw [cs_csb] at hl ⊢
  unfold csv at hl ⊢
  split at hl
  · rename_i h1
    rw [if_pos h1, show β 0 - 1 - (β 0 - 1 - y) = y by omega]
  · omega
section C32
variable {ml : Ml}
set_option maxHeartbeats 2000000 in
/-- chooses -/
theorem c150 {mi : Mi} {F : Mi → Ml → Prop} {β : Bd} {g : Nat → Nat} {x : Int32} (hx : x = nI (few β g)) (hM : Md β mi) (hβ : Wf β) (hT : MT β mi) (hS : SN mi (β 2) g) (hf : few β g < 1000000)
    (hC : ∀ y b, y < β 0 → b < 2 ^ (β 1) → sp (β 2) b = true → mi 60 (40 * y + sx (β 2) b) = nI (cs β g (β 0 - 1 - y) b))
    (h : ∀ mi', fr [61] mi mi' → (∀ y, y < β 0 → mi' 61 y = nI (cho β g y)) → F mi' ml) : Sg 150 0 [some (.ref 47), some (.int x), none, none, none, none, none] [] mi ml (qv F) := by
  subst hx
  have hH := hβ.1
  have hW := hβ.2.1
  have hn : β 2 ≤ 7 := by have := hβ.2.2.1; omega
  obtain ⟨n, hne⟩ : ∃ n, n = β 2 := ⟨_, rfl⟩
  obtain ⟨M, hMM⟩ : ∃ M, M = 2 ^ (β 1) := ⟨_, rfl⟩
  obtain ⟨N, hN⟩ : ∃ N, N = sx n M := ⟨_, rfl⟩
  have hM7 : M ≤ 128 := by rw [hMM]; exact pw7 (by omega)
  have hN35 : N ≤ 35 := by rw [hN, hMM]; exact sx_w (by omega) (by omega)
  have hT' : MS mi (β 1) n (β 3) := by rw [hne]; exact hT
  have ok := cho_ok hH.1 hf
  rw [← hMM] at ok
  rw [← hne, ← hMM] at hC
  rw [← hne] at hn hS
  have h18 : ∀ mi', fr [61] mi mi' → mi' 47 18 = nI N := fun mi' q => by rw [q 47 (by decide), hT'.1, hN, hMM]
  have h5 : ∀ mi', fr [61] mi mi' → mi' 47 5 = nI (β 0) := fun mi' q => by rw [q 47 (by decide), hM.1.1]
  refine rg150_0 ?_
  have rows : ∀ y mi', y ≤ β 0 → (fr [61] mi mi' ∧ ∀ z, z < y → mi' 61 z = nI (cho β g z)) → Sg 150 7 [some (.ref 47), some (.int (nI (few β g))), some (.int (nI (lft β g y))), some (.int (if y = 0 then -1 else nI (sx n (cho β g (y - 1))))), some (.int (nI y)), none, none] [] mi' ml (qv F) := by
    refine upI (β 0) (fun y mi' => fr [61] mi mi' ∧ ∀ z, z < y → mi' 61 z = nI (cho β g z)) (fun y mi' => Sg 150 7 [some (.ref 47), some (.int (nI (few β g))), some (.int (nI (lft β g y))), some (.int (if y = 0 then -1 else nI (sx n (cho β g (y - 1))))), some (.int (nI y)), none, none] [] mi' ml (qv F)) ?_ ?_
    · rintro mi' ⟨g1, g2⟩
      exact rg150_7 (pk_le _ _ (fun _ => h mi' g1 g2) (fun h1 => by omega) (h5 mi' g1) rfl)
    · rintro y mi' hy ⟨g1, g2⟩ ihy
      obtain ⟨i1, i2, i3, i4⟩ := ok y hy
      obtain ⟨j1, j2, -⟩ := cho_cs i2
      rw [← hne] at j1
      have hl := lft_s j2 i4 hy
      obtain ⟨c, hc⟩ : ∃ c, c = cho β g y := ⟨_, rfl⟩
      rw [← hc] at i1 i2 i3 j1 j2 hl
      have hsc := sx_lt34 (n := n) (b := c) (by omega) j1
      have hT2 : MS mi' (β 1) n (β 3) := hT'.fr g1 (by decide) (by decide) (by decide) (by decide) (by decide)
      refine rg150_7 (pk_le _ y (fun h1 => by omega) (fun _ => ?_) (h5 mi' g1) rfl)
      -- found
      have found : ∀ x6 : Int32, Sg 150 88 [some (.ref 47), some (.int (nI (few β g))), some (.int (nI (lft β g y))), some (.int (if y = 0 then -1 else nI (sx n (cho β g (y - 1))))), some (.int (nI y)), some (.int (nI (sx n c))), some (.int x6)] [] mi' ml (qv F) := by
        intro x6
        refine rg150_88 ?_
        have gb := (hT2.2.1 c (by rw [← hMM]; exact i1) j1).1
        rw [nI_clamp (by omega), nI_clamp (by omega), gb, nI_1]
        refine ⟨pk_in (sx n c) 40 (by omega), pk_in y 7 (by omega), ?_⟩
        refine c148 (n := n) (g := g) rfl rfl (by omega) (by omega) hn ?_ (hS.mk ((g1.up (c := 61) (by decide)).mk (by decide))) ?_
        · show mi' 47 7 = _
          rw [g1 47 (by decide), hne]; exact hM.1.2.2.1
        · have := ihy (va_up mi' 61 (va_up (mi' 61) y (nI c))) ⟨g1.up (by decide), fun z hz => ?_⟩
          · rw [if_neg (by omega), show y + 1 - 1 = y from rfl, ← hc] at this
            have e : nI (lft β g y) - nI (mvN (g y) c n) = nI (lft β g (y + 1)) := by
              rw [hl, ← hne, pk_sub (by omega)]
              congr 1; omega
            rw [e]; exact this
          · show va_up (mi' 61) y _ z = _
            by_cases hzy : z = y
            · subst hzy; rw [gm_upS, hc]
            · rw [gm_upN hzy]; exact g2 z (by omega)
      have exit : ∀ k : Nat, Sg 150 22 [some (.ref 47), some (.int (nI (few β g))), some (.int (nI (lft β g y))), some (.int (if y = 0 then -1 else nI (sx n (cho β g (y - 1))))), some (.int (nI y)), some (.int (nI (sx n c))), some (.int (nI k))] [] mi' ml (qv F) := by
        intro k
        refine rg150_22 ⟨fun _ => found _, fun _ => ⟨fun _ => found _, fun q => ?_⟩⟩
        refine absurd (Decidable.not_not.mp q) ?_
        intro e
        have := nI_toInt (n := sx n c) (by omega)
        rw [e] at this
        rw [show (-1 : Int32).toInt = -1 from by decide] at this
        omega
      refine upP N (fun k => (∀ b, b < M → sp n b = true → sx n b < k → choP β g y (cho β g (y - 1)) (lft β g y) b = false) → Sg 150 22 [some (.ref 47), some (.int (nI (few β g))), some (.int (nI (lft β g y))), some (.int (if y = 0 then -1 else nI (sx n (cho β g (y - 1))))), some (.int (nI y)), some (.int (-1)), some (.int (nI k))] [] mi' ml (qv F)) ?_ ?_ 0 (Nat.zero_le N) (fun b _ _ q => by omega)
      · intro hI
        have := hI c i1 j1 (by rw [hN]; exact sx_lt i1 j1)
        rw [i2] at this; cases this
      · intro k hk ih hI
        refine rg150_22 (pk_le N k (fun h1 => by omega) (fun _ => ⟨fun q => absurd rfl q, fun _ => ?_⟩) (h18 mi' g1) rfl)
        obtain ⟨b, hb, hp, hkb⟩ := fb_ct_kth (p := sp n) (k := k) (n := M) (by rw [hN] at hk; exact hk)
        have hkb' : sx n b = k := hkb
        have e1 : 40 * nI y + nI k = nI (40 * y + k) := by show nI 40 * nI y + nI k = _; rw [pk_mul, nI_add]
        have v1 : mi' 60 (40 * y + k) = nI (cs β g (β 0 - 1 - y) b) := by
          rw [g1 60 (by decide), ← hkb']; exact hC y b hy hb hp
        have hcl := cs_le (β := β) (g := g) (by rw [← hne]; exact hn) (β 0 - 1 - y) b
        have next : choP β g y (cho β g (y - 1)) (lft β g y) b = false → Sg 150 22 [some (.ref 47), some (.int (nI (few β g))), some (.int (nI (lft β g y))), some (.int (if y = 0 then -1 else nI (sx n (cho β g (y - 1))))), some (.int (nI y)), some (.int (-1)), some (.int (nI (k + 1)))] [] mi' ml (qv F) := by
          intro hq
          refine ih fun a ha hpa hka => ?_
          rcases Nat.lt_succ_iff_lt_or_eq.mp hka with r | r
          · exact hI a ha hpa r
          · have : a = b := sx_inj hpa hp (r.trans hkb'.symm)
            subst this; exact hq
        have here : choP β g y (cho β g (y - 1)) (lft β g y) b = true → Sg 150 22 [some (.ref 47), some (.int (nI (few β g))), some (.int (nI (lft β g y))), some (.int (if y = 0 then -1 else nI (sx n (cho β g (y - 1))))), some (.int (nI y)), some (.int (nI k)), some (.int (nI (k + 1)))] [] mi' ml (qv F) := by
          intro hq
          have hcb : c = b := by
            rcases Nat.lt_or_ge b c with r | r
            · rw [i3 b r] at hq; cases hq
            · rcases Nat.lt_or_ge c b with r2 | r2
              · have h3 : sx n c < k := by
                  rw [← hkb']; exact sx_lt r2 j1
                rw [hI c i1 j1 h3] at i2; cases i2
              · omega
          have := exit (k + 1)
          rw [hcb, hkb'] at this
          exact this
        have hP : choP β g y (cho β g (y - 1)) (lft β g y) b = ((decide (y = 0) || mt (β 3) n (cho β g (y - 1)) b) && (cs β g (β 0 - 1 - y) b == lft β g y)) := by
          unfold choP; rw [← hne, hp, Bool.true_and]
        rw [hP] at next here
        rw [e1, nI_clamp (by omega), v1, nI_1]
        refine ⟨pk_in (40 * y + k) 280 (by omega), pk_ne (cs β g (β 0 - 1 - y) b) (lft β g y) (fun h1 => next ?_) (fun h1 => ?_)⟩
        · rw [show (cs β g (β 0 - 1 - y) b == lft β g y) = false by simpa using h1, Bool.and_false]
        · have hbeq : (cs β g (β 0 - 1 - y) b == lft β g y) = true := by simpa using h1
          by_cases hy0 : y = 0
          · refine ⟨fun _ => here ?_, fun q => absurd (by rw [if_pos hy0]) q⟩
            rw [hbeq, decide_eq_true hy0]; rfl
          · obtain ⟨p1, p2, -, -⟩ := ok (y - 1) (by omega)
            have p3 := (cho_cs p2).1
            rw [← hne] at p3
            have hsp := sx_lt34 (n := n) (b := cho β g (y - 1)) (by omega) p3
            have ea : (if y = 0 then (-1 : Int32) else nI (sx n (cho β g (y - 1)))) = nI (sx n (cho β g (y - 1))) := if_neg hy0
            rw [ea] at next here ⊢
            have v2 := hT2.2.2 (cho β g (y - 1)) b (by rw [← hMM]; exact p1) (by rw [← hMM]; exact hb) p3 hp
            rw [hkb'] at v2
            have e2 : 40 * nI (sx n (cho β g (y - 1))) + nI k = nI (40 * sx n (cho β g (y - 1)) + k) := by show nI 40 * nI _ + nI k = _; rw [pk_mul, nI_add]
            refine ⟨fun q => absurd q ?_, fun _ => ?_⟩
            · intro e
              have := nI_toInt (n := sx n (cho β g (y - 1))) (by omega)
              rw [e] at this
              rw [show (-1 : Int32).toInt = -1 from by decide] at this
              omega
            · rw [e2, nI_clamp (by omega), v2]
              refine ⟨pk_in (40 * sx n (cho β g (y - 1)) + k) 1600 (by omega), bq (fun hq => next ?_) (fun hq => here ?_)⟩
              · rw [hq, decide_eq_false hy0]; rfl
              · rw [hq, hbeq, Bool.or_true]; rfl
  have := rows 0 mi (Nat.zero_le _) ⟨fr.rf, fun z hz => by omega⟩
  rw [if_pos rfl] at this
  exact this
end C32
