/-! the model: core and critical -/
/-- a mask -/
def bm (p : Nat → Bool) : Nat → Nat
  | 0 => 0
  | n + 1 => bm p n ||| (if p n then 2 ^ n else 0)
theorem bm_s (p : Nat → Bool) (n : Nat) : bm p (n + 1) = bm p n ||| (if p n then 2 ^ n else 0) := rfl
theorem bm_lt (p : Nat → Bool) : ∀ n, bm p n < 2 ^ n
  | 0 => by show 0 < 2 ^ 0; decide
  | n + 1 => by
    have h := bm_lt p n
    have h2 : 2 ^ n < 2 ^ (n + 1) := Nat.pow_lt_pow_right (by decide) (by omega)
    refine Nat.or_lt_two_pow (by omega) ?_
    split
    · exact h2
    · exact Nat.two_pow_pos _
theorem bm_tb (p : Nat → Bool) : ∀ n i, (bm p n).testBit i = (decide (i < n) && p i)
  | 0, i => by simp [bm]
  | n + 1, i => by
    rw [bm_s, Nat.testBit_or, bm_tb p n i]
    by_cases h : i = n
    · subst h
      cases hp : p i <;> simp [Nat.testBit_two_pow_self]
    · have h1 : (if p n = true then 2 ^ n else 0).testBit i = false := by
        split
        · rw [Nat.testBit_two_pow]; simp; omega
        · simp
      rw [h1, Bool.or_false]
      congr 1
      exact decide_eq_decide.mpr ⟨fun q => by omega, fun q => by omega⟩
theorem bm_cong {p q : Nat → Bool} : ∀ {n : Nat}, (∀ k, k < n → p k = q k) → bm p n = bm q n
  | 0, _ => rfl
  | n + 1, h => by rw [bm_s, bm_s, bm_cong (fun k hk => h k (by omega)), h n (by omega)]
theorem bm_l {p : Nat → Bool} {n : Nat} {v : Int64} (hn : n < 62) (hv : v = if p n then lshl 1 (nI n) else 0) : lN (bm p n) ||| v = lN (bm p (n + 1)) := by
  have h1 := bm_lt p n
  have h2 : 2 ^ n < 2 ^ 62 := Nat.pow_lt_pow_right (by decide) hn
  rw [bm_s, hv]
  cases hp : p n with
  | false =>
    show lN (bm p n) ||| lN 0 = _
    rw [wb_or (by omega) (by decide)]; simp
  | true =>
    show lN (bm p n) ||| lshl (lN 1) (nI n) = _
    rw [lshl_N 1 (by omega), wb_or (by omega) (by omega)]; simp
theorem bm_ct {p : Nat → Bool} {n m : Nat} (h : n ≤ m) : ct (bm p n) m = fb_ct p n := by
  obtain ⟨d, rfl⟩ : ∃ d, m = n + d := ⟨m - n, by omega⟩
  show fb_ct _ (n + d) = _
  rw [fb_ct_split]
  have h0 : fb_ct (fun k => (bm p n).testBit (n + k)) d = 0 := fb_ct_zero.mpr fun k _ => by rw [bm_tb, decide_eq_false (by omega)]; rfl
  rw [h0]
  exact fb_ct_cong fun k hk => by rw [bm_tb, decide_eq_true hk]; rfl
/-- counted by rows -/
theorem ct_grid (p : Nat → Bool) (W : Nat) : ∀ H, fb_ct p (H * W) = sm (fun y => fb_ct (fun x => p (y * W + x)) W) H
  | 0 => by rw [Nat.zero_mul]; rfl
  | H + 1 => by rw [Nat.succ_mul, fb_ct_split, ct_grid p W H, sm_s]
/-- cell k is faulty -/
def bt (γ : Bd) (k : Nat) : Bool := (γ (8 + k / γ 1)).testBit (k % γ 1)
/-- the board with cell k set -/
def bs (γ : Bd) (k : Nat) (v : Bool) : Bd := bu γ (k / γ 1) (sb (γ (8 + k / γ 1)) (k % γ 1) v)
theorem bs_lo {γ : Bd} {k j : Nat} {v : Bool} (hj : j < 8) : bs γ k v j = γ j := gm_upN (by generalize k / γ 1 = z; omega)
theorem kH {H W k : Nat} (hk : k < H * W) : k / W < H := Nat.div_lt_of_lt_mul (by rw [Nat.mul_comm]; exact hk)
theorem kW {W k : Nat} (hW : 1 ≤ W) : k % W < W := Nat.mod_lt _ hW
theorem bs_wf {γ : Bd} {k : Nat} {v : Bool} (h : Wf γ) (hk : k < γ 0 * γ 1) : Wf (bs γ k v) := by
  have hy := kH hk
  have hx := kW (k := k) h.2.1.1
  have := h.1
  exact h.bw (sb_l _ h.2.1.2 _ (h.2.2.2.2 _ (by omega)) _ hx v)
theorem bs_bt {γ : Bd} {k i : Nat} {v : Bool} (h : Wf γ) (hk : k < γ 0 * γ 1) (hi : i < γ 0 * γ 1) : bt (bs γ k v) i = if i = k then v else bt γ i := by
  have hy := kH hk
  have hx := kW (k := k) h.2.1.1
  have hx' := kW (k := i) h.2.1.1
  have h1 := h.1
  have h2 := h.2.1
  have hb := h.bd (show k / γ 1 < 7 by omega)
  unfold bt
  rw [bs_lo (by decide : 1 < 8)]
  unfold bs bu
  by_cases hik : i = k
  · subst hik
    rw [gm_upS, if_pos rfl, sb_tb _ hb _ (by omega) v _ (by omega), if_pos rfl]
  · rw [if_neg hik]
    by_cases hyy : i / γ 1 = k / γ 1
    · have hne : i % γ 1 ≠ k % γ 1 := fun q => hik (by
        have e1 := Nat.div_add_mod i (γ 1)
        have e2 := Nat.div_add_mod k (γ 1)
        rw [hyy, q] at e1
        omega)
      rw [hyy, gm_upS, sb_tb _ hb _ (by omega) v _ (by omega), if_neg hne]
    · rw [gm_upN (by omega)]
theorem bs_out {γ : Bd} {k y : Nat} {v : Bool} (hy : γ 0 ≤ y) (hk : k < γ 0 * γ 1) : bs γ k v (8 + y) = γ (8 + y) := by
  have := kH hk
  exact gm_upN (by omega)
/-- boards that have the same cells are the same -/
theorem bd_ext {γ δ : Bd} (hγ : Wf γ) (hδ : Wf δ) (h0 : δ 0 = γ 0) (h1 : δ 1 = γ 1) (hc : ∀ k, k < γ 0 * γ 1 → bt δ k = bt γ k) (ho : ∀ y, γ 0 ≤ y → δ (8 + y) = γ (8 + y)) : ∀ y, y < 7 → δ (8 + y) = γ (8 + y) := by
  intro y hy
  by_cases hyH : y < γ 0
  · refine tb_ext _ (hδ.bd hy) _ (hγ.bd hy) fun j hj => ?_
    by_cases hjW : j < γ 1
    · have hW := hγ.2.1.1
      have e1 : (y * γ 1 + j) / γ 1 = y := by
        rw [Nat.mul_comm, Nat.mul_add_div (by omega), Nat.div_eq_of_lt hjW, Nat.add_zero]
      have e2 : (y * γ 1 + j) % γ 1 = j := by
        rw [Nat.mul_comm, Nat.mul_add_mod]; exact Nat.mod_eq_of_lt hjW
      have hlt : y * γ 1 + j < γ 0 * γ 1 := by
        have : (y + 1) * γ 1 ≤ γ 0 * γ 1 := Nat.mul_le_mul_right _ hyH
        rw [Nat.succ_mul] at this
        omega
      have := hc _ hlt
      unfold bt at this
      rw [h1, e1, e2] at this
      exact this
    · rw [tb_lt (n := γ 1) (by have := hδ.2.2.2.2 y hy; rw [h1] at this; exact this) (by omega), tb_lt (n := γ 1) (hγ.2.2.2.2 y hy) (by omega)]
  · exact ho y (by omega)
/-- what is left when the needless ones of the first k cells are gone -/
def coS (β : Bd) : Nat → Bd
  | 0 => β
  | k + 1 => if bt (coS β k) k then if whole (bs (coS β k) k false) then coS β k else bs (coS β k) k false else coS β k
theorem coS_lo {β : Bd} {j : Nat} (hj : j < 8) : ∀ k, coS β k j = β j
  | 0 => rfl
  | k + 1 => by
    rw [coS]
    split
    · split
      · exact coS_lo hj k
      · rw [bs_lo hj]; exact coS_lo hj k
    · exact coS_lo hj k
theorem coS_wf {β : Bd} (h : Wf β) : ∀ k, k ≤ β 0 * β 1 → Wf (coS β k)
  | 0, _ => h
  | k + 1, hk => by
    have ih := coS_wf h k (by omega)
    rw [coS]
    split
    · split
      · exact ih
      · exact bs_wf ih (by rw [coS_lo (by decide), coS_lo (by decide)]; omega)
    · exact ih
theorem coS_out {β : Bd} {y : Nat} (hy : β 0 ≤ y) : ∀ k, k ≤ β 0 * β 1 → coS β k (8 + y) = β (8 + y)
  | 0, _ => rfl
  | k + 1, hk => by
    have ih := coS_out hy k (by omega)
    rw [coS]
    split
    · split
      · exact ih
      · rw [bs_out (by rw [coS_lo (by decide)]; exact hy) (by rw [coS_lo (by decide), coS_lo (by decide)]; omega)]; exact ih
    · exact ih
/-- cells from k on are as they were -/
theorem coS_up {β : Bd} (h : Wf β) {i : Nat} (hi : i < β 0 * β 1) : ∀ k, k ≤ i → bt (coS β k) i = bt β i
  | 0, _ => rfl
  | k + 1, hk => by
    have ih := coS_up h hi k (by omega)
    have hw := coS_wf h k (by omega)
    rw [coS]
    split
    · split
      · exact ih
      · rw [bs_bt hw (by rw [coS_lo (by decide), coS_lo (by decide)]; omega) (by rw [coS_lo (by decide), coS_lo (by decide)]; exact hi), if_neg (by omega)]; exact ih
    · exact ih
/-- cells below k don't change any more -/
theorem coS_dn {β : Bd} (h : Wf β) {i k : Nat} (hik : i < k) (hk : k ≤ β 0 * β 1) : bt (coS β k) i = bt (coS β (i + 1)) i := by
  obtain ⟨d, rfl⟩ : ∃ d, k = i + 1 + d := ⟨k - i - 1, by omega⟩
  clear hik
  induction d with
  | zero => rfl
  | succ d ih =>
    have hw := coS_wf h (i + 1 + d) (by omega)
    rw [← ih (by omega)]
    rw [show i + 1 + (d + 1) = (i + 1 + d) + 1 from rfl, coS]
    split
    · split
      · rfl
      · rw [bs_bt hw (by rw [coS_lo (by decide), coS_lo (by decide)]; omega) (by rw [coS_lo (by decide), coS_lo (by decide)]; omega), if_neg (by omega)]
    · rfl
def cb (β : Bd) (k : Nat) : Bool := bt (coS β (k + 1)) k
def coM (β : Bd) : Nat := if whole β then 0 else bm (cb β) (β 0 * β 1)
def crb (β : Bd) (k : Nat) : Bool := !bt β k && !whole (bs β k true)
def crM (β : Bd) : Nat := if whole β then bm (crb β) (β 0 * β 1) else 0
theorem Mb.bw {β : Bd} {mi : Mi} (h : Mb β mi) {y v : Nat} : Mb (bu β y v) (va_up mi 52 (va_up (mi 52) y (nI v))) := by
  intro z hz
  show va_up (mi 52) y (nI v) z = _
  by_cases hzy : z = y
  · subst hzy; rw [gm_upS]; unfold bu; rw [gm_upS]
  · rw [gm_upN hzy, h z hz]; unfold bu; rw [gm_upN (by omega)]
theorem HW49 {β : Bd} (h : Wf β) : β 0 * β 1 ≤ 49 := by
  have := Nat.mul_le_mul h.1.2 h.2.1.2
  omega
/-- memories that differ in the board and in what isWhole writes -/
def f52 (mi mi' : Mi) : Prop := fr [52, 58, 59] mi mi' ∧ ∀ y, 7 ≤ y → mi' 52 y = mi 52 y
theorem f52.rf {mi : Mi} : f52 mi mi := ⟨fr.rf, fun _ _ => rfl⟩
theorem f52.w {mi m1 m2 : Mi} (h : f52 mi m1) (q : fr [58, 59] m1 m2) : f52 mi m2 := ⟨h.1.tr (q.mono (by decide)), fun y hy => by rw [q 52 (by decide)]; exact h.2 y hy⟩
theorem f52.u {mi m1 : Mi} (h : f52 mi m1) {y : Nat} {v : Int32} (hy : y < 7) : f52 mi (va_up m1 52 (va_up (m1 52) y v)) := ⟨h.1.up (by decide), fun z hz => by
  show va_up (m1 52) y v z = _
  rw [gm_upN (by omega)]; exact h.2 z hz⟩
theorem f52.fin {mi m1 : Mi} (h : f52 mi m1) {β : Bd} (h1 : Mb β mi) (h2 : Mb β m1) : fr [58, 59] mi m1 := by
  intro c hc
  by_cases h52 : c = 52
  · subst h52
    funext y
    by_cases hy : y < 7
    · rw [h1 y hy, h2 y hy]
    · exact h.2 y (by omega)
  · exact h.1 c (by simp at hc ⊢; exact ⟨h52, hc⟩)
theorem f52.T {mi m1 : Mi} (h : f52 mi m1) {β γ : Bd} (hT : MT β mi) (e1 : γ 1 = β 1) (e2 : γ 2 = β 2) (e3 : γ 3 = β 3) : MT γ m1 := by
  show MS m1 (γ 1) (γ 2) (γ 3)
  rw [e1, e2, e3]
  exact hT.fr h.1 (by decide) (by decide) (by decide) (by decide) (by decide)
section C30
variable {ml : Ml}
/-- whole now, for a board that differs in its cells -/
theorem c145b {mi mi' : Mi} {F : Int32 → Mi → Ml → Prop} {β γ : Bd} (hM : Md β mi) (hT : MT β mi) (hγ : Wf γ) (hlo : ∀ j, j < 8 → γ j = β j) (hf : f52 mi mi') (hB : Mb γ mi') (h : ∀ m2, f52 mi m2 → Mb γ m2 → F (bI (whole γ)) m2 ml) : Sg 145 0 [some (.ref 47)] [] mi' ml (qi F) := by
  have hn : γ 2 ≤ 7 := by have := hγ.2.2.1; have := hγ.2.1; omega
  refine c145 (β := γ) (H := γ 0) (by rw [hf.1 47 (by decide), hlo 0 (by decide)]; exact hM.1.1) hγ.1 rfl hγ.2.1.2 hn (hf.T hT (hlo 1 (by decide)) (hlo 2 (by decide)) (hlo 3 (by decide))) hB (fun z hz => hγ.bd hz) (fun m2 q => h m2 (hf.w q) (fun z hz => ?_))
  rw [q 52 (by decide)]; exact hB z hz
theorem c137b {mi mi' : Mi} {F : Mi → Ml → Prop} {γ : Bd} {x y z : Int32} {k : Nat} {v : Bool} (hγ : Wf γ) (hk : k < γ 0 * γ 1) (hf : f52 mi mi') (hB : Mb γ mi') (hx : x = nI (k % γ 1)) (hy : y = nI (k / γ 1)) (hz : z = bI v) (h : ∀ m2, f52 mi m2 → Mb (bs γ k v) m2 → F m2 ml) : Sg 137 0 [some (.ref 47), some (.int x), some (.int y), some (.int z)] [] mi' ml (qv F) := by
  have h1 := hγ.1
  have h2 := hγ.2.1
  have hy' := kH hk
  have hx' := kW (k := k) h2.1
  exact c137 hx hy hz (by omega) (by omega) (hγ.bd (by omega)) (hB _ (by omega)) (h _ (hf.u (by omega)) hB.bw)
theorem bs_bs {γ : Bd} (k : Nat) (u v : Bool) (h : Wf γ) (hk : k < γ 0 * γ 1) : bs (bs γ k u) k v = bs γ k v := by
  have h1 := h.1
  have h2 := h.2.1
  have hy := kH hk
  have hx := kW (k := k) h2.1
  have hb := h.bd (show k / γ 1 < 7 by omega)
  have key : ∀ b, b < 128 → ∀ x, x < 7 → ∀ u v, sb (sb b x u) x v = sb b x v := by decide +kernel
  have e1 : bs γ k u 1 = γ 1 := bs_lo (by decide)
  have e2 : bs γ k u (8 + k / γ 1) = sb (γ (8 + k / γ 1)) (k % γ 1) u := gm_upS
  show bu (bs γ k u) (k / bs γ k u 1) (sb (bs γ k u (8 + k / bs γ k u 1)) (k % bs γ k u 1) v) = _
  rw [e1, e2, key _ hb _ (by omega)]
  unfold bs
  rw [bu_bu]
theorem bs_id {γ : Bd} (k : Nat) (h : Wf γ) (hk : k < γ 0 * γ 1) : bs γ k (bt γ k) = γ := by
  have h1 := h.1
  have h2 := h.2.1
  have hy := kH hk
  have hx := kW (k := k) h2.1
  have hb := h.bd (show k / γ 1 < 7 by omega)
  have key : ∀ b, b < 128 → ∀ x, x < 7 → sb b x (b.testBit x) = b := by decide +kernel
  unfold bs bt
  rw [key _ hb _ (by omega), bu_id]
set_option maxHeartbeats 1000000 in
/-- criticalNow -/
theorem c164 {mi : Mi} {F : Int64 → Mi → Ml → Prop} {β : Bd} (hM : Md β mi) (hβ : Wf β) (hT : MT β mi) (h : ∀ mi', fr [58, 59] mi mi' → F (lN (crM β)) mi' ml) : Sg 164 0 [some (.ref 47), none, none, none, none, none] [] mi ml (ql F) := by
  have h49 := HW49 hβ
  have hH := hβ.1
  have hW := hβ.2.1
  refine rg164_0 (c145b hM hT hβ (fun _ _ => rfl) f52.rf hM.2 (fun m1 g1 g2 => ?_))
  refine bqn (fun hq => ?_) (fun hq => ?_)
  rotate_left
  · have := h m1 (g1.fin hM.2 g2)
    unfold crM at this
    rw [hq] at this
    exact this
  have key : ∀ k mi', k ≤ β 0 * β 1 → (f52 mi mi' ∧ Mb β mi') → Sg 164 13 [some (.ref 47), some (.long (lN (bm (crb β) k))), none, some (.int (nI k)), none, none] [] mi' ml (ql F) := by
    refine upI (β 0 * β 1) (fun k mi' => f52 mi mi' ∧ Mb β mi') (fun k mi' => Sg 164 13 [some (.ref 47), some (.long (lN (bm (crb β) k))), none, some (.int (nI k)), none, none] [] mi' ml (ql F)) ?_ ?_
    · rintro mi' ⟨f1, f2⟩
      have h5 : mi' 47 5 = nI (β 0) := by rw [f1.1 47 (by decide)]; exact hM.1.1
      have h6 : mi' 47 6 = nI (β 1) := by rw [f1.1 47 (by decide)]; exact hM.1.2.1
      refine rg164_13 (pk_le (β 0 * β 1) (β 0 * β 1) (fun _ => ?_) (fun h1 => by omega) (by rw [h5, h6, pk_mul]) rfl)
      have := h mi' (f1.fin hM.2 f2)
      unfold crM at this
      rw [hq, if_pos rfl] at this
      exact this
    · rintro k mi' hk ⟨f1, f2⟩ ih
      have h5 : mi' 47 5 = nI (β 0) := by rw [f1.1 47 (by decide)]; exact hM.1.1
      have h6 : mi' 47 6 = nI (β 1) := by rw [f1.1 47 (by decide)]; exact hM.1.2.1
      have hy := kH hk
      have hx := kW (k := k) hW.1
      refine rg164_13 (pk_le (β 0 * β 1) k (fun h1 => by omega) (fun _ => ?_) (by rw [h5, h6, pk_mul]) rfl)
      rw [h6, pk_rem (a := k) (d := β 1) (by omega) (by omega) (by omega), pk_div (a := k) (d := β 1) (by omega) (by omega) (by omega), nI_clamp (by omega), f2 _ (by omega)]
      refine ⟨fun q => ?_, pk_in (k / β 1) 7 (by omega), ?_⟩
      · rw [show (0 : Int32) = nI 0 from rfl, nI_eq (by omega) (by omega)] at q; omega
      refine c116 (nI_l (by have := hβ.bd (show k / β 1 < 7 by omega); omega)) rfl (by have := hβ.bd (show k / β 1 < 7 by omega); omega) (by omega) ?_
      show (¬ bI (bt β k) = 0 → _) ∧ (¬ ¬ bI (bt β k) = 0 → _)
      rw [nI_1]
      refine bqn (fun hb => ?_) (fun hb => ?_)
      · have e : bm (crb β) (k + 1) = bm (crb β) k := by
          rw [bm_s]; unfold crb; rw [hb]; simp
        have := ih mi' ⟨f1, f2⟩
        rw [e] at this
        exact this
      · refine c137b (v := true) hβ hk f1 f2 rfl rfl rfl (fun m2 q1 q2 => ?_)
        have hw := bs_wf (v := true) hβ hk
        refine c145b hM hT hw (fun j hj => bs_lo hj) q1 q2 (fun m3 q3 q4 => ?_)
        have close : ∀ v, v = (if crb β k then lshl 1 (nI k) else 0) → Sg 164 82 [some (.ref 47), some (.long (lN (bm (crb β) k))), none, some (.int (nI k)), some (.int (nI (k % β 1))), some (.int (nI (k / β 1)))] [.long v, .long (lN (bm (crb β) k))] m3 ml (ql F) := by
          intro v hv
          refine rg164_82 ?_
          refine c137b (γ := bs β k true) (k := k) (v := false) hw (by rw [bs_lo (by decide), bs_lo (by decide)]; exact hk) q3 q4 (by rw [bs_lo (by decide)]) (by rw [bs_lo (by decide)]) rfl (fun m4 r1 r2 => ?_)
          rw [bs_bs k true false hβ hk, ← hb, bs_id k hβ hk] at r2
          rw [bm_l (by omega) hv, nI_1]
          exact ih m4 ⟨r1, r2⟩
        refine bq (fun hr => close _ ?_) (fun hr => close _ ?_)
        · unfold crb; rw [hb, hr]; rfl
        · unfold crb; rw [hb, hr]; rfl
  exact key 0 m1 (Nat.zero_le _) ⟨g1, g2⟩
set_option maxHeartbeats 2000000 in
/-- coreNow -/
theorem c163 {mi : Mi} {F : Int64 → Mi → Ml → Prop} {β : Bd} (hM : Md β mi) (hβ : Wf β) (hT : MT β mi) (h : ∀ mi', fr [58, 59] mi mi' → F (lN (coM β)) mi' ml) : Sg 163 0 [some (.ref 47), none, none, none, none, none, none, none, none] [] mi ml (ql F) := by
  have h49 := HW49 hβ
  have hH := hβ.1
  have hW := hβ.2.1
  refine rg163_0 (c145b hM hT hβ (fun _ _ => rfl) f52.rf hM.2 (fun m1 g1 g2 => ?_))
  refine bq (fun hq => ?_) (fun hq => ?_)
  rotate_left
  · have := h m1 (g1.fin hM.2 g2)
    unfold coM at this
    rw [hq] at this
    exact this
  obtain ⟨K, hK⟩ : ∃ K, K = β 0 * β 1 := ⟨_, rfl⟩
  obtain ⟨gn, hgn'⟩ : ∃ gn : Nat → Bool, gn = fun k => bt β k && !cb β k := ⟨_, rfl⟩
  have hgn : ∀ k, gn k = (bt β k && !cb β k) := fun k => by rw [hgn']
  have hor : lN (bm gn K) ||| lN (bm (cb β) K) = lN (bm gn K ||| bm (cb β) K) := by
    have a1 := bm_lt gn K
    have a2 := bm_lt (cb β) K
    have a3 : 2 ^ K ≤ 2 ^ 49 := Nat.pow_le_pow_right (by decide) (by omega)
    exact wb_or (by omega) (by omega)
  have horlt : bm gn K ||| bm (cb β) K < 2 ^ 62 := by
    have a1 := bm_lt gn K
    have a2 := bm_lt (cb β) K
    have a3 : 2 ^ K ≤ 2 ^ 49 := Nat.pow_le_pow_right (by decide) (by omega)
    exact Nat.or_lt_two_pow (by omega) (by omega)
  have hcbb : ∀ k, k < K → cb β k = true → bt β k = true := by
    intro k hk hc
    unfold cb at hc
    rw [coS] at hc
    have hu := coS_up hβ (show k < β 0 * β 1 by omega) k (Nat.le_refl k)
    split at hc
    · rename_i h1
      rw [hu] at h1; exact h1
    · rw [hu] at hc; exact hc
  -- the restoring
  have back : ∀ k mi', k ≤ K → (∃ γ, Wf γ ∧ (∀ j, j < 8 → γ j = β j) ∧ (∀ y, β 0 ≤ y → γ (8 + y) = β (8 + y)) ∧ (∀ i, i < k → bt γ i = bt β i) ∧ f52 mi mi' ∧ Mb γ mi') → Sg 163 146 [some (.ref 47), some (.long (lN (bm (cb β) K))), none, some (.long (lN (bm gn K))), none, some (.int (nI k)), none, none, none] [] mi' ml (ql F) := by
    refine upI K (fun k mi' => ∃ γ, Wf γ ∧ (∀ j, j < 8 → γ j = β j) ∧ (∀ y, β 0 ≤ y → γ (8 + y) = β (8 + y)) ∧ (∀ i, i < k → bt γ i = bt β i) ∧ f52 mi mi' ∧ Mb γ mi') (fun k mi' => Sg 163 146 [some (.ref 47), some (.long (lN (bm (cb β) K))), none, some (.long (lN (bm gn K))), none, some (.int (nI k)), none, none, none] [] mi' ml (ql F)) ?_ ?_
    · rintro mi' ⟨γ, e1, e2, e3, e4, f1, f2⟩
      have h5 : mi' 47 5 = nI (β 0) := by rw [f1.1 47 (by decide)]; exact hM.1.1
      have h6 : mi' 47 6 = nI (β 1) := by rw [f1.1 47 (by decide)]; exact hM.1.2.1
      refine rg163_146 (pk_le K K (fun _ => ?_) (fun h1 => by omega) (by rw [h5, h6, pk_mul, hK]) rfl)
      have hB : Mb β mi' := fun y hy => by
        rw [f2 y hy, bd_ext hβ e1 (e2 0 (by decide)) (e2 1 (by decide)) (fun k hk => e4 k (by omega)) e3 y hy]
      have := h mi' (f1.fin hM.2 hB)
      unfold coM at this
      rw [hq, if_neg (by decide), ← hK] at this
      exact this
    · rintro k mi' hk ⟨γ, e1, e2, e3, e4, f1, f2⟩ ih
      have h5 : mi' 47 5 = nI (β 0) := by rw [f1.1 47 (by decide)]; exact hM.1.1
      have h6 : mi' 47 6 = nI (β 1) := by rw [f1.1 47 (by decide)]; exact hM.1.2.1
      have hkγ : k < γ 0 * γ 1 := by rw [e2 0 (by decide), e2 1 (by decide)]; omega
      have hx := kW (k := k) hW.1
      refine rg163_146 (pk_le K k (fun h1 => by omega) (fun _ => ?_) (by rw [h5, h6, pk_mul, hK]) rfl)
      rw [h6, pk_rem (a := k) (d := β 1) (by omega) (by omega) (by omega), pk_div (a := k) (d := β 1) (by omega) (by omega) (by omega), hor]
      refine ⟨fun q => ?_, c116 rfl rfl horlt (by omega) ?_⟩
      · rw [show (0 : Int32) = nI 0 from rfl, nI_eq (by omega) (by omega)] at q; omega
      have ev : (bm gn K ||| bm (cb β) K).testBit k = bt β k := by
        rw [Nat.testBit_or, bm_tb, bm_tb, decide_eq_true hk, Bool.true_and, Bool.true_and, hgn]
        cases hc : cb β k with
        | false => cases bt β k <;> rfl
        | true => rw [hcbb k hk hc]; rfl
      rw [ev, nI_1]
      refine c137b (γ := γ) (k := k) (v := bt β k) e1 hkγ f1 f2 (by rw [e2 1 (by decide)]) (by rw [e2 1 (by decide)]) rfl (fun m2 q1 q2 => ?_)
      refine ih m2 ⟨bs γ k (bt β k), bs_wf e1 hkγ, fun j hj => by rw [bs_lo hj]; exact e2 j hj, fun y hy => by rw [bs_out (by rw [e2 0 (by decide)]; exact hy) hkγ]; exact e3 y hy, fun i hi => ?_, q1, q2⟩
      rw [bs_bt e1 hkγ (by rw [e2 0 (by decide), e2 1 (by decide)]; omega)]
      by_cases hik : i = k
      · rw [if_pos hik, hik]
      · rw [if_neg hik]; exact e4 i (by omega)
  have key : ∀ k mi', k ≤ K → (f52 mi mi' ∧ Mb (coS β k) mi') → Sg 163 16 [some (.ref 47), some (.long (lN (bm (cb β) k))), none, some (.long (lN (bm gn k))), none, some (.int (nI k)), none, none, none] [] mi' ml (ql F) := by
    refine upI K (fun k mi' => f52 mi mi' ∧ Mb (coS β k) mi') (fun k mi' => Sg 163 16 [some (.ref 47), some (.long (lN (bm (cb β) k))), none, some (.long (lN (bm gn k))), none, some (.int (nI k)), none, none, none] [] mi' ml (ql F)) ?_ ?_
    · rintro mi' ⟨f1, f2⟩
      have h5 : mi' 47 5 = nI (β 0) := by rw [f1.1 47 (by decide)]; exact hM.1.1
      have h6 : mi' 47 6 = nI (β 1) := by rw [f1.1 47 (by decide)]; exact hM.1.2.1
      refine rg163_16 (pk_le K K (fun _ => ?_) (fun h1 => by omega) (by rw [h5, h6, pk_mul, hK]) rfl)
      exact back 0 mi' (Nat.zero_le _) ⟨coS β K, coS_wf hβ K (by omega), fun j hj => coS_lo hj K, fun y hy => coS_out hy K (by omega), fun i hi => by omega, f1, f2⟩
    · rintro k mi' hk ⟨f1, f2⟩ ih
      have h5 : mi' 47 5 = nI (β 0) := by rw [f1.1 47 (by decide)]; exact hM.1.1
      have h6 : mi' 47 6 = nI (β 1) := by rw [f1.1 47 (by decide)]; exact hM.1.2.1
      have hy := kH (show k < β 0 * β 1 by omega)
      have hx := kW (k := k) hW.1
      obtain ⟨γ, hγ⟩ : ∃ γ, γ = coS β k := ⟨_, rfl⟩
      have hγw : Wf γ := by rw [hγ]; exact coS_wf hβ k (by omega)
      have hγl : ∀ j, j < 8 → γ j = β j := fun j hj => by rw [hγ]; exact coS_lo hj k
      have hkγ : k < γ 0 * γ 1 := by rw [hγl 0 (by decide), hγl 1 (by decide)]; omega
      have hγu : bt γ k = bt β k := by rw [hγ]; exact coS_up hβ (by omega) k (Nat.le_refl k)
      have hS : coS β (k + 1) = if bt γ k then if whole (bs γ k false) then γ else bs γ k false else γ := by rw [coS, ← hγ]
      have hcb : cb β k = bt (coS β (k + 1)) k := rfl
      rw [← hγ] at f2
      refine rg163_16 (pk_le K k (fun h1 => by omega) (fun _ => ?_) (by rw [h5, h6, pk_mul, hK]) rfl)
      rw [h6, pk_rem (a := k) (d := β 1) (by omega) (by omega) (by omega), pk_div (a := k) (d := β 1) (by omega) (by omega) (by omega), nI_clamp (by omega), f2 _ (by omega)]
      refine ⟨fun q => ?_, pk_in (k / β 1) 7 (by omega), ?_⟩
      · rw [show (0 : Int32) = nI 0 from rfl, nI_eq (by omega) (by omega)] at q; omega
      have hbd := hγw.bd (show k / β 1 < 7 by omega)
      refine c116 (nI_l (by omega)) rfl (by omega) (by omega) ?_
      have ebt : (γ (8 + k / β 1)).testBit (k % β 1) = bt γ k := by unfold bt; rw [hγl 1 (by decide)]
      rw [ebt, nI_1]
      refine bq (fun hb => ?_) (fun hb => ?_)
      · rw [hb, if_neg (by decide)] at hS
        have e1 : bm (cb β) (k + 1) = bm (cb β) k := by rw [bm_s, hcb, hS, hb]; simp
        have e2 : bm gn (k + 1) = bm gn k := by rw [bm_s, hgn, ← hγu, hb]; simp
        have := ih mi' ⟨f1, by rw [hS]; exact f2⟩
        rw [e1, e2] at this
        exact this
      · rw [hb, if_pos rfl] at hS
        refine c137b (γ := γ) (k := k) (v := false) hγw hkγ f1 f2 (by rw [hγl 1 (by decide)]) (by rw [hγl 1 (by decide)]) rfl (fun m2 q1 q2 => ?_)
        have hw := bs_wf (v := false) hγw hkγ
        refine c145b hM hT hw (fun j hj => by rw [bs_lo hj]; exact hγl j hj) q1 q2 (fun m3 q3 q4 => ?_)
        refine bqn (fun hr => ?_) (fun hr => ?_)
        · -- needed
          rw [hr, if_pos rfl] at hS
          have hct : cb β k = true := by rw [hcb, hS]; exact hb
          refine rg163_85 ⟨fun _ => ?_, fun q => absurd rfl q⟩
          refine rg163_101 ⟨fun _ => ?_, fun q => absurd rfl q⟩
          refine rg163_117 ⟨fun q => absurd rfl q, fun _ => ?_⟩
          refine rg163_134 ?_
          refine c137b (γ := bs γ k false) (k := k) (v := true) hw (by rw [bs_lo (by decide), bs_lo (by decide)]; exact hkγ) q3 q4 (by rw [bs_lo (by decide), hγl 1 (by decide)]) (by rw [bs_lo (by decide), hγl 1 (by decide)]) rfl (fun m4 r1 r2 => ?_)
          rw [bs_bs k false true hγw hkγ] at r2
          have hid := bs_id k hγw hkγ
          rw [hb] at hid
          rw [hid] at r2
          rw [bm_l (p := cb β) (n := k) (by omega) (by rw [hct]; rfl), bm_l (p := gn) (n := k) (by omega) (by rw [hgn, hct]; simp), nI_1]
          exact ih m4 ⟨r1, by rw [hS]; exact r2⟩
        · rw [hr, if_neg (by decide)] at hS
          have hct : cb β k = false := by rw [hcb, hS, bs_bt hγw hkγ hkγ, if_pos rfl]
          refine rg163_85 ⟨fun q => absurd q (by decide), fun _ => ?_⟩
          refine rg163_101 ⟨fun q => absurd q (by decide), fun _ => ?_⟩
          refine rg163_117 ⟨fun _ => ?_, fun q => absurd (by decide) q⟩
          refine rg163_134 ?_
          refine c137b (γ := bs γ k false) (k := k) (v := false) hw (by rw [bs_lo (by decide), bs_lo (by decide)]; exact hkγ) q3 q4 (by rw [bs_lo (by decide), hγl 1 (by decide)]) (by rw [bs_lo (by decide), hγl 1 (by decide)]) rfl (fun m4 r1 r2 => ?_)
          rw [bs_bs k false false hγw hkγ] at r2
          rw [bm_l (p := cb β) (n := k) (by omega) (by rw [hct]; rfl), bm_l (p := gn) (n := k) (by omega) (by rw [hgn, hct, ← hγu, hb]; rfl), nI_1]
          exact ih m4 ⟨r1, by rw [hS]; exact r2⟩
  exact key 0 m1 (Nat.zero_le _) ⟨g1, g2⟩
end C30
