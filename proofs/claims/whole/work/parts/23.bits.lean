/-! contracts: bits, columns, fill -/
theorem ushr_bit {b k : Nat} (hb : b < 65536) (hk : k < 32) : (ushr (nI b) (nI k)) &&& 1 = bI (b.testBit k) := by
  have e : ushr (nI b) (nI k) = nI (b >>> k) := nx_ush hb hk
  have e2 : nI (b >>> k) &&& 1 = nI ((b >>> k) &&& 1) := nx_and (b >>> k) 1
  rw [e, e2, tb_div, Nat.and_one_is_mod, Nat.shiftRight_eq_div_pow]
  have h2 : b / 2 ^ k % 2 < 2 := Nat.mod_lt _ (by decide)
  rcases (by omega : b / 2 ^ k % 2 = 0 ∨ b / 2 ^ k % 2 = 1) with h | h <;> rw [h] <;> rfl
def bc1 (x : Int32) : Int32 := x - ((ushr x 1) &&& 1431655765)
def bc2 (x : Int32) : Int32 := (x &&& 858993459) + ((ushr x 2) &&& 858993459)
def bc3 (x : Int32) : Int32 := (x + (ushr x 4)) &&& 252645135
def bc4 (x : Int32) : Int32 := x + (ushr x 8)
def bc5 (x : Int32) : Int32 := x + (ushr x 16)
def bc32 (x : Int32) : Int32 := (bc5 (bc4 (bc3 (bc2 (bc1 x))))) &&& 63
theorem bc32_N : ∀ b, b < 128 → bc32 (nI b) = nI (pcn b) := by decide +kernel
theorem ct_low : ∀ b, b < 128 → ∀ x, x < 7 → pcn (b &&& (2 ^ x - 1)) = ct b x := by decide +kernel
theorem shl_N : ∀ x, x < 31 → (1 : Int32) <<< (nI x &&& 31) = nI (2 ^ x) := by decide +kernel
theorem shl_m1 : ∀ x, x < 31 → ((1 : Int32) <<< (nI x &&& 31)) - 1 = nI (2 ^ x - 1) := by decide +kernel
theorem and_lt {a b n : Nat} (h : a < n) : a &&& b < n := Nat.lt_of_le_of_lt Nat.and_le_left h
theorem cj_inj {a b j : Nat} : cj a j = cj b j ↔ cn a j = cn b j := by
  have h1 := cn_le a j
  have h2 := cn_le b j
  have key : ∀ x, x ≤ 7 → ∀ y, y ≤ 7 → ((if x = 7 then (-1 : Int32) else nI x) = (if y = 7 then (-1 : Int32) else nI y) ↔ x = y) := by decide
  exact key _ h1 _ h2
/-- how many of the first n tasks are elsewhere -/
def mvN (a b n : Nat) : Nat := fb_ct (fun j => decide (cn a j ≠ cn b j)) n
def fl {α : Type} (f : Nat → α) (i : Nat) (v : α) : Nat → α := fun k => if k < i then v else f k
theorem fl_0 {α : Type} (f : Nat → α) (v : α) : fl f 0 v = f := funext fun k => if_neg (Nat.not_lt_zero k)
theorem fl_s {α : Type} (f : Nat → α) (i : Nat) (v : α) : va_up (fl f i v) i v = fl f (i + 1) v := by
  funext k
  unfold va_up fl
  by_cases h : k = i
  · subst h; simp
  · by_cases h2 : k < i
    · rw [if_neg h, if_pos h2, if_pos (by omega)]
    · rw [if_neg h, if_neg h2, if_neg (by omega)]
theorem up_id {α : Type} (f : Nat → α) (k : Nat) : va_up f k (f k) = f := by
  funext j
  by_cases h : j = k
  · subst h; simp [va_up]
  · simp [va_up, h]
section C23
variable {mi : Mi} {ml : Ml} {F : Int32 → Mi → Ml → Prop}
theorem c109 {x y : Int32} {b k : Nat} (hx : x = nI b) (hy : y = nI k) (hb : b < 65536) (hk : k < 32) (h : F (bI (b.testBit k)) mi ml) : Sg 109 0 [some (.int x), some (.int y)] [] mi ml (qi F) := by
  subst hx hy
  refine rg109_0 ?_
  rw [ushr_bit hb hk]
  exact h
theorem bq1 {b : Bool} {A B : Prop} (f : b = false → A) (g : b = true → B) : (¬ bI b = 1 → A) ∧ (¬ ¬ bI b = 1 → B) := ⟨fun h => f (by cases b; rfl; exact absurd rfl h), fun h => g (by cases b; exact absurd (by simp [bI]) h; rfl)⟩
theorem c110 {x y : Int32} {b j : Nat} (hx : x = nI b) (hy : y = nI j) (hb : b < 65536) (hj : j < 2 ^ 31) (h : F (cj b j) mi ml) : Sg 110 0 [some (.int x), some (.int y), none, none] [] mi ml (qi F) := by
  subst hx hy
  refine rg110_0 ?_
  have key : ∀ i (_ : Unit), i ≤ 7 → ct b i ≤ j → Sg 110 4 [some (.int (nI b)), some (.int (nI j)), some (.int (nI (j - ct b i))), some (.int (nI i))] [] mi ml (qi F) := by
    refine upI 7 (fun i _ => ct b i ≤ j) (fun i _ => Sg 110 4 [some (.int (nI b)), some (.int (nI j)), some (.int (nI (j - ct b i))), some (.int (nI i))] [] mi ml (qi F)) ?_ ?_
    · intro _ hI
      refine rg110_4 (pk_le 7 7 (fun _ => ?_) (fun h1 => by omega))
      unfold cj at h
      rw [if_pos (cn_no hI)] at h
      exact h
    · intro i _ hi hI ih
      refine rg110_4 (pk_le 7 i (fun h1 => by omega) (fun _ => ?_))
      refine c109 rfl rfl hb (by omega) ?_
      rw [nI_1]
      refine bq1 (fun h1 => ?_) (fun h1 => ?_)
      · have e : ct b (i + 1) = ct b i := by rw [ct_succ, h1]; rfl
        have := ih () (by rw [e]; exact hI)
        rw [e] at this
        exact this
      · have e : ct b (i + 1) = ct b i + 1 := by rw [ct_succ, h1]; rfl
        refine pk_ne (j - ct b i) 0 (fun h2 => ?_) (fun h2 => ?_)
        · have := ih () (by rw [e]; omega)
          rw [e] at this
          have e2 : nI (j - ct b i) + (-1) = nI (j - (ct b i + 1)) := by
            have := pk_m1 (j - (ct b i + 1))
            rw [← this]
            congr 2
            omega
          rw [e2]
          exact this
        · have e3 : cn b j = i := cn_eq hi h1 (by omega)
          unfold cj at h
          rw [e3, if_neg (by omega)] at h
          exact h
  have := key 0 () (by omega) (Nat.zero_le j)
  exact this
theorem c140 {x y : Int32} {b j : Nat} (hx : x = nI b) (hy : y = nI j) (hb : b < 65536) (hj : j < 2 ^ 31) (h : F (cj b j) mi ml) : Sg 140 0 [some (.int x), some (.int y), none, none] [] mi ml (qi F) := by
  subst hx hy
  refine rg140_0 ?_
  have key : ∀ i (_ : Unit), i ≤ 7 → ct b i ≤ j → Sg 140 4 [some (.int (nI b)), some (.int (nI j)), some (.int (nI (ct b i))), some (.int (nI i))] [] mi ml (qi F) := by
    refine upI 7 (fun i _ => ct b i ≤ j) (fun i _ => Sg 140 4 [some (.int (nI b)), some (.int (nI j)), some (.int (nI (ct b i))), some (.int (nI i))] [] mi ml (qi F)) ?_ ?_
    · intro _ hI
      refine rg140_4 (pk_le 7 7 (fun _ => ?_) (fun h1 => by omega))
      unfold cj at h
      rw [if_pos (cn_no hI)] at h
      exact h
    · intro i _ hi hI ih
      refine rg140_4 (pk_le 7 i (fun h1 => by omega) (fun _ => ?_))
      refine c116 (nI_l (by omega)) rfl (by omega) (by omega) ?_
      have hci : ct b i ≤ i := fb_ct_le _ i
      rw [nI_1, nI_1]
      refine bq (fun h1 => ?_) (fun h1 => ?_)
      · have e : ct b (i + 1) = ct b i := by rw [ct_succ, h1]; rfl
        have := ih () (by rw [e]; exact hI)
        rw [e] at this
        exact this
      · have e : ct b (i + 1) = ct b i + 1 := by rw [ct_succ, h1]; rfl
        refine pk_ne (ct b i) j (fun h2 => ?_) (fun h2 => ?_)
        · have := ih () (by rw [e]; omega)
          rw [e] at this
          exact this
        · have e3 : cn b j = i := cn_eq hi h1 h2
          unfold cj at h
          rw [e3, if_neg (by omega)] at h
          exact h
  have := key 0 () (by omega) (Nat.zero_le j)
  exact this
theorem c194 {x : Int32} {b : Nat} (hx : x = nI b) (hb : b < 128) (h : F (nI (pcn b)) mi ml) : Sg 194 0 [some (.int x)] [] mi ml (qi F) := by
  subst hx
  refine rg194_0 ?_
  show F (bc32 (nI b)) mi ml
  rw [bc32_N b hb]
  exact h
theorem c111 {x y : Int32} {b k : Nat} (hx : x = nI b) (hy : y = nI k) (hb : b < 128) (hk : k < 7) (h : F (if b.testBit k then nI (ct b k) else -1) mi ml) : Sg 111 0 [some (.int x), some (.int y)] [] mi ml (qi F) := by
  subst hx hy
  refine rg111_0 (c109 rfl rfl (by omega) (by omega) ?_)
  refine bq1 (fun h1 => ?_) (fun h1 => ?_)
  · rw [h1] at h; exact h
  · rw [h1] at h
    refine c194 (b := b &&& (2 ^ k - 1)) ?_ (and_lt hb) ?_
    · rw [shl_m1 k (by omega), nx_and]
    · rw [ct_low b hb k hk]; exact h
theorem c112 {x y z : Int32} {a b n : Nat} (hx : x = nI a) (hy : y = nI b) (hz : z = nI n) (ha : a < 65536) (hb : b < 65536) (hn : n < 2 ^ 30) (h : F (nI (mvN a b n)) mi ml) : Sg 112 0 [some (.int x), some (.int y), some (.int z), none, none] [] mi ml (qi F) := by
  subst hx hy hz
  refine rg112_0 ?_
  have key : ∀ i (_ : Unit), i ≤ n → True → Sg 112 5 [some (.int (nI a)), some (.int (nI b)), some (.int (nI n)), some (.int (nI (mvN a b i))), some (.int (nI i))] [] mi ml (qi F) := by
    refine upI n (fun _ _ => True) (fun i _ => Sg 112 5 [some (.int (nI a)), some (.int (nI b)), some (.int (nI n)), some (.int (nI (mvN a b i))), some (.int (nI i))] [] mi ml (qi F)) ?_ ?_
    · intro _ _
      exact rg112_5 (pk_le n n (fun _ => h) (fun h1 => by omega))
    · intro i _ hi _ ih
      refine rg112_5 (pk_le n i (fun h1 => by omega) (fun _ => ?_))
      refine c110 rfl rfl ha (by omega) (c110 rfl rfl hb (by omega) ?_)
      rw [nI_1, nI_1]
      have hs := ih () trivial
      refine ⟨fun h1 => ?_, fun h1 => ?_⟩
      · have e : mvN a b (i + 1) = mvN a b i := by
          show fb_ct _ (i + 1) = _
          rw [fb_ct_succ, if_neg (by simpa using cj_inj.mp h1)]; rfl
        rw [e] at hs; exact hs
      · have e : mvN a b (i + 1) = mvN a b i + 1 := by
          show fb_ct _ (i + 1) = _
          rw [fb_ct_succ, if_pos (by simpa using fun q => h1 (cj_inj.mpr q))]; rfl
        rw [e] at hs; exact hs
  exact key 0 () (Nat.zero_le n) trivial
end C23
theorem c198 {mi : Mi} {ml : Ml} {F : Mi → Ml → Prop} {r n : Nat} {v : Int32} (hr : SH[r]? = some (1, n)) (hn : n < 2 ^ 30) (h : F (va_up mi r (fl (mi r) n v)) ml) : Sg 198 0 [some (.ref r), some (.int v), none, none] [] mi ml (qv F) := by
  refine rg198_0 hr ?_
  have key : ∀ i (_ : Unit), i ≤ n → True → Sg 198 5 [some (.ref r), some (.int v), some (.int (nI i)), some (.int (nI n))] [] (va_up mi r (fl (mi r) i v)) ml (qv F) := by
    refine upI n (fun _ _ => True) (fun i _ => Sg 198 5 [some (.ref r), some (.int v), some (.int (nI i)), some (.int (nI n))] [] (va_up mi r (fl (mi r) i v)) ml (qv F)) ?_ ?_
    · intro _ _
      exact rg198_5 hr (pk_le n n (fun _ => h) (fun h1 => by omega))
    · intro i _ hi _ ih
      refine rg198_5 hr (pk_le n i (fun h1 => by omega) (fun _ => ⟨pk_in i n hi, ?_⟩))
      have hs := ih () trivial
      rw [nI_1, nI_clamp (by omega), bx_uu, gm_upS, fl_s]
      exact hs
  have := key 0 () (Nat.zero_le n) trivial
  rw [fl_0, up_id] at this
  exact this
