/-! the heap behind the two constructors: shapes and references stay -/
def SH : List (Nat × Nat) := [(0, 6), (0, 0), (1, 7), (0, 3), (0, 4), (1, 35), (1, 245), (2, 35), (2, 7), (0, 4), (1, 35), (1, 245), (2, 35), (2, 7), (1, 7), (1, 7), (1, 245), (1, 7), (0, 1), (1, 81), (1, 81), (1, 162), (1, 162), (0, 2), (1, 7), (6, 6), (9, 4), (0, 2), (1, 7), (0, 2), (1, 7), (0, 2), (1, 7), (0, 2), (1, 7), (0, 2), (1, 7), (0, 2), (1, 7), (0, 5), (1, 60), (0, 5), (1, 60), (0, 5), (1, 60), (0, 5), (1, 60), (0, 7), (1, 4), (1, 4), (1, 240), (1, 60), (1, 7), (1, 7), (1, 40), (1, 280), (3, 40), (3, 1600), (3, 40), (3, 40), (1, 280), (1, 7), (3, 49), (3, 196), (1, 98), (1, 98), (1, 42), (1, 6), (1, 6), (1, 6)]
def MR : Nat → Nat → Option Nat := fun r k => match r with
  | 0 => (match k with | 0 => some 1 | 1 => some 3 | 2 => some 18 | 3 => some 23 | 4 => some 25 | 5 => some 26 | _ => none)
  | 1 => (match k with | 6 => some 2 | _ => none)
  | 3 => (match k with | 0 => some 1 | 1 => some 4 | 2 => some 8 | 3 => some 9 | 4 => some 13 | 5 => some 14 | 6 => some 15 | 7 => some 16 | 8 => some 17 | _ => none)
  | 4 => (match k with | 1 => some 5 | 2 => some 6 | 3 => some 7 | _ => none)
  | 9 => (match k with | 1 => some 10 | 2 => some 11 | 3 => some 12 | _ => none)
  | 18 => (match k with | 0 => some 1 | 1 => some 19 | 2 => some 20 | 3 => some 21 | 4 => some 22 | _ => none)
  | 23 => (match k with | 4 => some 24 | _ => none)
  | 25 => (match k with | 0 => some 27 | 1 => some 29 | 2 => some 31 | 3 => some 33 | 4 => some 35 | 5 => some 37 | _ => none)
  | 26 => (match k with | 0 => some 39 | 1 => some 41 | 2 => some 43 | 3 => some 45 | _ => none)
  | 27 => (match k with | 4 => some 28 | _ => none)
  | 29 => (match k with | 4 => some 30 | _ => none)
  | 31 => (match k with | 4 => some 32 | _ => none)
  | 33 => (match k with | 4 => some 34 | _ => none)
  | 35 => (match k with | 4 => some 36 | _ => none)
  | 37 => (match k with | 4 => some 38 | _ => none)
  | 39 => (match k with | 3 => some 40 | _ => none)
  | 41 => (match k with | 3 => some 42 | _ => none)
  | 43 => (match k with | 3 => some 44 | _ => none)
  | 45 => (match k with | 3 => some 46 | _ => none)
  | 47 => (match k with | 0 => some 48 | 1 => some 49 | 2 => some 50 | 3 => some 51 | 10 => some 52 | 12 => some 53 | 14 => some 54 | 15 => some 55 | 16 => some 56 | 17 => some 57 | 19 => some 58 | 20 => some 59 | 21 => some 60 | 22 => some 61 | 23 => some 62 | 24 => some 63 | 25 => some 64 | 26 => some 65 | 29 => some 66 | 30 => some 67 | 31 => some 68 | 32 => some 69 | _ => none)
  | _ => none
abbrev Mi : Type := Nat → Nat → Int32
abbrev Ml : Type := Nat → Nat → Int64
def gm_w (Q : Value → Mi → Ml → Prop) : Value → gm_H → Prop := fun v h => h.1 = SH ∧ h.2.2.2 = MR ∧ Q v h.2.1 h.2.2.1
def Sg (m pc : Nat) (ls : gm_L) (st : List Value) (mi : Mi) (ml : Ml) (Q : Value → Mi → Ml → Prop) : Prop := ∀ (L : Nat) (xs : Nat → Int32), Go L xs m pc ls st (SH, mi, ml, MR) 0 0 (gm_w Q)
def qi (F : Int32 → Mi → Ml → Prop) : Value → Mi → Ml → Prop := fun v mi ml => ∃ x, v = .int x ∧ F x mi ml
def ql (F : Int64 → Mi → Ml → Prop) : Value → Mi → Ml → Prop := fun v mi ml => ∃ x, v = .long x ∧ F x mi ml
def qv (F : Mi → Ml → Prop) : Value → Mi → Ml → Prop := fun _ mi ml => F mi ml
def qr (F : Option Nat → Mi → Ml → Prop) : Value → Mi → Ml → Prop := fun v mi ml => ∃ x, v = gm_ov x ∧ F x mi ml
/-- the tables of seats, the layings, the sheets, the rows of longs, any row of ints -/
def isT (r : Nat) : Prop := SH[r]? = some (0, 4) ∧ MR r 1 = some (r + 1) ∧ MR r 2 = some (r + 2) ∧ MR r 3 = some (r + 3) ∧ SH[r + 1]? = some (1, 35) ∧ SH[r + 2]? = some (1, 245) ∧ SH[r + 3]? = some (2, 35)
def isY (r : Nat) : Prop := SH[r]? = some (0, 2) ∧ MR r 4 = some (r + 1) ∧ SH[r + 1]? = some (1, 7)
def isS (r : Nat) : Prop := SH[r]? = some (0, 5) ∧ MR r 3 = some (r + 1) ∧ SH[r + 1]? = some (1, 60)
def isJ (r : Nat) : Prop := SH[r]? = some (2, 7)
def isI (r n : Nat) : Prop := SH[r]? = some (1, n)
section GmS
variable {m pc nx lk a b : Nat} {z : Int} {ls : gm_L} {st : List Value} {mi : Mi} {ml : Ml} {Q : Value → Mi → Ml → Prop}
theorem sg_psh {ins : Instr} (f : gm_fetch m pc = some (nx, ins, lk, a, b, z)) {v : Value} (hv : gm_psh ins z = some v) (g : Sg m nx ls (v :: st) mi ml Q) : Sg m pc ls st mi ml Q := fun L xs => go_psh f hv (g L xs)
theorem sg_ld {ins : Instr} (f : gm_fetch m pc = some (nx, ins, lk, a, b, z)) {v : Value} {k : Nat} (hv : gm_ldi ins = some (gm_kd v, k)) (hk : ls[k]? = some (some v)) (g : Sg m nx ls (v :: st) mi ml Q) : Sg m pc ls st mi ml Q := fun L xs => go_ld f hv hk (g L xs)
theorem sg_st1 {ins : Instr} (f : gm_fetch m pc = some (nx, ins, lk, a, b, z)) {v : Value} {k : Nat} {ls' : gm_L} (hv : gm_sti ins = some (gm_kd v, k)) (h1 : Nat.beq (gm_kd v) 1 = false) (hk : Nat.blt k ls.length = true) (he : gm_s1 ls k v = ls') (g : Sg m nx ls' st mi ml Q) : Sg m pc ls (v :: st) mi ml Q := fun L xs => go_st1 f hv (fun hz => by rw [hz] at h1; cases h1) (Nat.le_of_ble_eq_true hk) (he ▸ g L xs)
theorem sg_st2 {ins : Instr} (f : gm_fetch m pc = some (nx, ins, lk, a, b, z)) {x : Int64} {k : Nat} {ls' : gm_L} (hv : gm_sti ins = some (1, k)) (hk : Nat.blt (k + 1) ls.length = true) (he : gm_s2 ls k (.long x) = ls') (g : Sg m nx ls' st mi ml Q) : Sg m pc ls (.long x :: st) mi ml Q := fun L xs => go_st2 f hv (Nat.le_of_ble_eq_true hk) (he ▸ g L xs)
theorem sg_inc {k : Nat} {n : Int} (f : gm_fetch m pc = some (nx, .iinc k n, lk, a, b, z)) {x d : Int32} {ls' : gm_L} (hk : ls[k]? = some (some (.int x))) (hd : Int32.ofInt n = d) (he : gm_s1 ls k (.int (x + d)) = ls') (g : Sg m nx ls' st mi ml Q) : Sg m pc ls st mi ml Q := fun L xs => go_inc f hk (by rw [hd, he]; exact g L xs)
theorem sg_bin {ins : Instr} (f : gm_fetch m pc = some (nx, ins, lk, a, b, z)) {F : Int32 → Int32 → Int32} {x y : Int32} (hv : gm_bin ins = some F) (g : Sg m nx ls (.int (F x y) :: st) mi ml Q) : Sg m pc ls (.int y :: .int x :: st) mi ml Q := fun L xs => go_bin f hv (g L xs)
theorem sg_div (f : gm_fetch m pc = some (nx, .idiv, lk, a, b, z)) {x y : Int32} (h : ¬ y = 0) (g : Sg m nx ls (.int (x / y) :: st) mi ml Q) : Sg m pc ls (.int y :: .int x :: st) mi ml Q := fun L xs => go_div f h (g L xs)
theorem sg_rem (f : gm_fetch m pc = some (nx, .irem, lk, a, b, z)) {x y : Int32} (h : ¬ y = 0) (g : Sg m nx ls (.int (x - x / y * y) :: st) mi ml Q) : Sg m pc ls (.int y :: .int x :: st) mi ml Q := fun L xs => go_rem f h (g L xs)
theorem sg_un {ins : Instr} (f : gm_fetch m pc = some (nx, ins, lk, a, b, z)) {F : Int32 → Int32} {x : Int32} (hv : gm_un ins = some F) (g : Sg m nx ls (.int (F x) :: st) mi ml Q) : Sg m pc ls (.int x :: st) mi ml Q := fun L xs => go_un f hv (g L xs)
theorem sg_binl {ins : Instr} (f : gm_fetch m pc = some (nx, ins, lk, a, b, z)) {F : Int64 → Int64 → Int64} {x y : Int64} (hv : gm_binl ins = some F) (g : Sg m nx ls (.long (F x y) :: st) mi ml Q) : Sg m pc ls (.long y :: .long x :: st) mi ml Q := fun L xs => go_binl f hv (g L xs)
theorem sg_shl {ins : Instr} (f : gm_fetch m pc = some (nx, ins, lk, a, b, z)) {F : Int64 → Int32 → Int64} {x : Int64} {y : Int32} (hv : gm_shl ins = some F) (g : Sg m nx ls (.long (F x y) :: st) mi ml Q) : Sg m pc ls (.int y :: .long x :: st) mi ml Q := fun L xs => go_shl f hv (g L xs)
theorem sg_lcmp (f : gm_fetch m pc = some (nx, .lcmp, lk, a, b, z)) {x y : Int64} (g : Sg m nx ls (.int (lg_cmp x y) :: st) mi ml Q) : Sg m pc ls (.long y :: .long x :: st) mi ml Q := fun L xs => go_lcmp f (g L xs)
theorem sg_i2l (f : gm_fetch m pc = some (nx, .i2l, lk, a, b, z)) {x : Int32} (g : Sg m nx ls (.long x.toInt64 :: st) mi ml Q) : Sg m pc ls (.int x :: st) mi ml Q := fun L xs => go_i2l f (g L xs)
theorem sg_l2i (f : gm_fetch m pc = some (nx, .l2i, lk, a, b, z)) {x : Int64} (g : Sg m nx ls (.int x.toInt32 :: st) mi ml Q) : Sg m pc ls (.long x :: st) mi ml Q := fun L xs => go_l2i f (g L xs)
theorem sg_dup (f : gm_fetch m pc = some (nx, .dup, lk, a, b, z)) {v : Value} (hv : v.category = 1) (g : Sg m nx ls (v :: v :: st) mi ml Q) : Sg m pc ls (v :: st) mi ml Q := fun L xs => go_dup f hv (g L xs)
theorem sg_pop (f : gm_fetch m pc = some (nx, .pop, lk, a, b, z)) {v : Value} (hv : v.category = 1) (g : Sg m nx ls st mi ml Q) : Sg m pc ls (v :: st) mi ml Q := fun L xs => go_pop f hv (g L xs)
theorem sg_dup2 (f : gm_fetch m pc = some (nx, .dup2, lk, a, b, z)) {v w : Value} (hv : v.category = 1) (hw : w.category = 1) (g : Sg m nx ls (v :: w :: v :: w :: st) mi ml Q) : Sg m pc ls (v :: w :: st) mi ml Q := fun L xs => go_dup2 f hv hw (g L xs)
theorem sg_if {c : ClassFile.Cond} {off : Int} (f : gm_fetch m pc = some (nx, .ifCond c off, lk, a, b, z)) {x : Int32} (g0 : gm_cnd c x 0 → Sg m a ls st mi ml Q) (g1 : ¬ gm_cnd c x 0 → Sg m nx ls st mi ml Q) : Sg m pc ls (.int x :: st) mi ml Q := fun L xs => go_if f (fun h => g0 h L xs) (fun h => g1 h L xs)
theorem sg_icmp {c : ClassFile.Cond} {off : Int} (f : gm_fetch m pc = some (nx, .if_icmp c off, lk, a, b, z)) {x y : Int32} (g0 : gm_cnd c x y → Sg m a ls st mi ml Q) (g1 : ¬ gm_cnd c x y → Sg m nx ls st mi ml Q) : Sg m pc ls (.int y :: .int x :: st) mi ml Q := fun L xs => go_icmp f (fun h => g0 h L xs) (fun h => g1 h L xs)
theorem sg_goto {off : Int} (f : gm_fetch m pc = some (nx, .goto off, lk, a, b, z)) (g : Sg m a ls st mi ml Q) : Sg m pc ls st mi ml Q := fun L xs => go_goto f (g L xs)
theorem sg_ifnull {off : Int} (f : gm_fetch m pc = some (nx, .ifnull off, lk, a, b, z)) {r : Nat} (g : Sg m nx ls st mi ml Q) : Sg m pc ls (.ref r :: st) mi ml Q := fun L xs => go_ifnull f (g L xs)
theorem sg_ifnullN {off : Int} (f : gm_fetch m pc = some (nx, .ifnull off, lk, a, b, z)) (g : Sg m a ls st mi ml Q) : Sg m pc ls (.null :: st) mi ml Q := fun L xs => go_ifnullN f (g L xs)
theorem sg_ifnn {off : Int} (f : gm_fetch m pc = some (nx, .ifnonnull off, lk, a, b, z)) {r : Nat} (g : Sg m a ls st mi ml Q) : Sg m pc ls (.ref r :: st) mi ml Q := fun L xs => go_ifnn f (g L xs)
theorem sg_ifnnN {off : Int} (f : gm_fetch m pc = some (nx, .ifnonnull off, lk, a, b, z)) (g : Sg m nx ls st mi ml Q) : Sg m pc ls (.null :: st) mi ml Q := fun L xs => go_ifnnN f (g L xs)
theorem sg_tabO {d lo hi : Int} {offs : Array Int} (f : gm_fetch m pc = some (nx, .tableswitch d lo hi offs, lk, a, b, z)) {x : Int32} {t : Nat} (h : x.toInt < lo ∨ hi < x.toInt) (ht : (pc : Int) + d = (t : Int)) (g : Sg m t ls st mi ml Q) : Sg m pc ls (.int x :: st) mi ml Q := fun L xs => go_tabO f h ht (g L xs)
theorem sg_tabI {d lo hi off : Int} {offs : Array Int} (f : gm_fetch m pc = some (nx, .tableswitch d lo hi offs, lk, a, b, z)) {x : Int32} {t : Nat} (h1 : ¬ x.toInt < lo) (h2 : ¬ hi < x.toInt) (ho : offs[(x.toInt - lo).toNat]? = some off) (ht : (pc : Int) + off = (t : Int)) (g : Sg m t ls st mi ml Q) : Sg m pc ls (.int x :: st) mi ml Q := fun L xs => go_tabI f h1 h2 ho ht (g L xs)
theorem sg_geti {idx r : Nat} (f : gm_fetch m pc = some (nx, .getfield idx, lk, a, b, z)) (hr : SH[r]? = some (0, a)) (hf : gm_ft a b = 0) {x : Int32} (hx : mi r b = x) (g : Sg m nx ls (.int x :: st) mi ml Q) : Sg m pc ls (.ref r :: st) mi ml Q := fun L xs => go_get f hr (by rw [gm_fvI hf]; show Go L xs m nx ls (.int (mi r b) :: st) _ _ _ _; rw [hx]; exact g L xs)
theorem sg_getl {idx r : Nat} (f : gm_fetch m pc = some (nx, .getfield idx, lk, a, b, z)) (hr : SH[r]? = some (0, a)) (hf : gm_ft a b = 1) {x : Int64} (hx : ml r b = x) (g : Sg m nx ls (.long x :: st) mi ml Q) : Sg m pc ls (.ref r :: st) mi ml Q := fun L xs => go_get f hr (by rw [gm_fvL hf]; show Go L xs m nx ls (.long (ml r b) :: st) _ _ _ _; rw [hx]; exact g L xs)
theorem sg_getr {idx r w : Nat} (f : gm_fetch m pc = some (nx, .getfield idx, lk, a, b, z)) (hr : SH[r]? = some (0, a)) (hf : gm_ft a b = 2) (hw : MR r b = some w) (g : Sg m nx ls (.ref w :: st) mi ml Q) : Sg m pc ls (.ref r :: st) mi ml Q := fun L xs => go_get f hr (by rw [gm_fvR hf]; show Go L xs m nx ls (gm_ov (MR r b) :: st) _ _ _ _; rw [hw]; exact g L xs)
theorem sg_puti {idx r : Nat} {x : Int32} (f : gm_fetch m pc = some (nx, .putfield idx, lk, a, b, z)) (hr : SH[r]? = some (0, a)) (hf : gm_ft a b = 0) (hn : gm_fin a b = false) (hb : gm_ty a b = .boolean → x = 0 ∨ x = 1) (g : Sg m nx ls st (va_up mi r (va_up (mi r) b x)) ml Q) : Sg m pc ls (.int x :: .ref r :: st) mi ml Q := fun L xs => go_puti f hr hf hn hb (g L xs)
theorem sg_puti2 {idx r : Nat} {x : Int32} {mj : Mi} {fj : Nat → Int32} (f : gm_fetch m pc = some (nx, .putfield idx, lk, a, b, z)) (hr : SH[r]? = some (0, a)) (hf : gm_ft a b = 0) (hn : gm_fin a b = false) (hb : gm_ty a b = .boolean → x = 0 ∨ x = 1) (g : Sg m nx ls st (va_up mj r (va_up fj b x)) ml Q) : Sg m pc ls (.int x :: .ref r :: st) (va_up mj r fj) ml Q := sg_puti f hr hf hn hb (by rw [bx_uu, gm_upS]; exact g)
theorem sg_putl {idx r : Nat} {x : Int64} (f : gm_fetch m pc = some (nx, .putfield idx, lk, a, b, z)) (hr : SH[r]? = some (0, a)) (hf : gm_ft a b = 1) (hn : gm_fin a b = false) (g : Sg m nx ls st mi (va_up ml r (va_up (ml r) b x)) Q) : Sg m pc ls (.long x :: .ref r :: st) mi ml Q := fun L xs => go_putl f hr hf hn (g L xs)
theorem sg_iald {r n : Nat} {i : Int32} (f : gm_fetch m pc = some (nx, .iaload, lk, a, b, z)) (hr : SH[r]? = some (1, n)) (hi : vp_in i n) {x : Int32} (hx : mi r i.toNatClampNeg = x) (g : Sg m nx ls (.int x :: st) mi ml Q) : Sg m pc ls (.int i :: .ref r :: st) mi ml Q := fun L xs => go_iald f hr hi (by show Go L xs m nx ls (.int (mi r i.toNatClampNeg) :: st) _ _ _ _; rw [hx]; exact g L xs)
theorem sg_lald {r n : Nat} {i : Int32} (f : gm_fetch m pc = some (nx, .laload, lk, a, b, z)) (hr : SH[r]? = some (2, n)) (hi : vp_in i n) {x : Int64} (hx : ml r i.toNatClampNeg = x) (g : Sg m nx ls (.long x :: st) mi ml Q) : Sg m pc ls (.int i :: .ref r :: st) mi ml Q := fun L xs => go_lald f hr hi (by show Go L xs m nx ls (.long (ml r i.toNatClampNeg) :: st) _ _ _ _; rw [hx]; exact g L xs)
theorem sg_zald {r n : Nat} {i : Int32} (f : gm_fetch m pc = some (nx, .baload, lk, a, b, z)) (hr : SH[r]? = some (3, n)) (hi : vp_in i n) {x : Int32} (hx : mi r i.toNatClampNeg = x) (g : Sg m nx ls (.int x :: st) mi ml Q) : Sg m pc ls (.int i :: .ref r :: st) mi ml Q := fun L xs => go_zald f hr hi (by show Go L xs m nx ls (.int (mi r i.toNatClampNeg) :: st) _ _ _ _; rw [hx]; exact g L xs)
theorem sg_aald {r n j : Nat} {i : Int32} (f : gm_fetch m pc = some (nx, .aaload, lk, a, b, z)) (hr : SH[r]? = some (j + 4, n)) (hi : vp_in i n) (hj : j = 2 ∨ j = 5) (g : Sg m nx ls (gm_ov (MR r i.toNatClampNeg) :: st) mi ml Q) : Sg m pc ls (.int i :: .ref r :: st) mi ml Q := fun L xs => go_aald f hr hi hj (g L xs)
theorem sg_iast {r n : Nat} {i x : Int32} (f : gm_fetch m pc = some (nx, .iastore, lk, a, b, z)) (hr : SH[r]? = some (1, n)) (hi : vp_in i n) (g : Sg m nx ls st (va_up mi r (va_up (mi r) i.toNatClampNeg x)) ml Q) : Sg m pc ls (.int x :: .int i :: .ref r :: st) mi ml Q := fun L xs => go_iast f hr hi (g L xs)
theorem sg_last {r n : Nat} {i : Int32} {x : Int64} (f : gm_fetch m pc = some (nx, .lastore, lk, a, b, z)) (hr : SH[r]? = some (2, n)) (hi : vp_in i n) (g : Sg m nx ls st mi (va_up ml r (va_up (ml r) i.toNatClampNeg x)) Q) : Sg m pc ls (.long x :: .int i :: .ref r :: st) mi ml Q := fun L xs => go_last f hr hi (g L xs)
theorem sg_zast {r n : Nat} {i x : Int32} (f : gm_fetch m pc = some (nx, .bastore, lk, a, b, z)) (hr : SH[r]? = some (3, n)) (hi : vp_in i n) (hx : x = 0 ∨ x = 1) (g : Sg m nx ls st (va_up mi r (va_up (mi r) i.toNatClampNeg x)) ml Q) : Sg m pc ls (.int x :: .int i :: .ref r :: st) mi ml Q := fun L xs => go_zast f hr hi hx (g L xs)
theorem sg_iast2 {r n : Nat} {i x : Int32} {mj : Mi} {fj : Nat → Int32} (f : gm_fetch m pc = some (nx, .iastore, lk, a, b, z)) (hr : SH[r]? = some (1, n)) (hi : vp_in i n) (g : Sg m nx ls st (va_up mj r (va_up fj i.toNatClampNeg x)) ml Q) : Sg m pc ls (.int x :: .int i :: .ref r :: st) (va_up mj r fj) ml Q := sg_iast f hr hi (by rw [bx_uu, gm_upS]; exact g)
theorem sg_zast2 {r n : Nat} {i x : Int32} {mj : Mi} {fj : Nat → Int32} (f : gm_fetch m pc = some (nx, .bastore, lk, a, b, z)) (hr : SH[r]? = some (3, n)) (hi : vp_in i n) (hx : x = 0 ∨ x = 1) (g : Sg m nx ls st (va_up mj r (va_up fj i.toNatClampNeg x)) ml Q) : Sg m pc ls (.int x :: .int i :: .ref r :: st) (va_up mj r fj) ml Q := sg_zast f hr hi hx (by rw [bx_uu, gm_upS]; exact g)
theorem sg_last2 {r n : Nat} {i : Int32} {x : Int64} {mj : Ml} {fj : Nat → Int64} (f : gm_fetch m pc = some (nx, .lastore, lk, a, b, z)) (hr : SH[r]? = some (2, n)) (hi : vp_in i n) (g : Sg m nx ls st mi (va_up mj r (va_up fj i.toNatClampNeg x)) Q) : Sg m pc ls (.long x :: .int i :: .ref r :: st) mi (va_up mj r fj) Q := sg_last f hr hi (by rw [bx_uu, gm_upS]; exact g)
theorem sg_drop (ks : List Nat) {ls2 : gm_L} (he : gm_dr ls ks = ls2) (g : Sg m pc ls2 st mi ml Q) : Sg m pc ls st mi ml Q := fun L xs => go_drop (ks := ks) (by rw [he]; exact g L xs)
theorem gm_kd_ov (x : Option Nat) : gm_kd (gm_ov x) = 2 := by cases x <;> rfl
theorem sg_ldo {ins : Instr} (f : gm_fetch m pc = some (nx, ins, lk, a, b, z)) {x : Option Nat} {k : Nat} (hv : gm_ldi ins = some (2, k)) (hk : ls[k]? = some (some (gm_ov x))) (g : Sg m nx ls (gm_ov x :: st) mi ml Q) : Sg m pc ls st mi ml Q := sg_ld f (by rw [gm_kd_ov]; exact hv) hk g
theorem sg_sto {ins : Instr} (f : gm_fetch m pc = some (nx, ins, lk, a, b, z)) {x : Option Nat} {k : Nat} {ls' : gm_L} (hv : gm_sti ins = some (2, k)) (hk : Nat.blt k ls.length = true) (he : gm_s1 ls k (gm_ov x) = ls') (g : Sg m nx ls' st mi ml Q) : Sg m pc ls (gm_ov x :: st) mi ml Q := sg_st1 f (by rw [gm_kd_ov]; exact hv) (by rw [gm_kd_ov]; rfl) hk he g
theorem gm_kill_ov (x : Option Nat) : gm_kill (some (gm_ov x)) = some (gm_ov x) := by cases x <;> rfl
theorem gm_nz {x : Int32} (h : x = 0 ∨ x = 1) : narrow .boolean (.int x) = .int x := by rcases h with rfl | rfl <;> decide
theorem gm_qv {F : Mi → Ml → Prop} {v : Value} (h : qv F v mi ml) : F mi ml := h
theorem gm_swk {x : Int32} {n : Nat} (c : ¬ (x.toInt < 0 ∨ (n : Int) < x.toInt)) : ∃ k : Nat, k ≤ n ∧ x = nI k := by
  refine ⟨x.toInt.toNat, by omega, ?_⟩
  have h0 : 0 ≤ x.toInt := by omega
  apply Int32.toInt_inj.mp
  have hlt : x.toInt.toNat < 2 ^ 31 := by
    have := Int32.toInt_lt x
    omega
  rw [nI_toInt hlt]
  omega
theorem sg_alen {r n : Nat} (f : gm_fetch m pc = some (nx, .arraylength, lk, a, b, z)) (hr : SH[r]? = some (1, n)) (g : Sg m nx ls (.int (Int32.ofNat n) :: st) mi ml Q) : Sg m pc ls (.ref r :: st) mi ml Q := fun L xs => go_alen f hr (g L xs)
theorem gm_fq {ins : Instr} (f : gm_fetch m pc = some (nx, ins, lk, a, b, z)) : ∃ q, gm_PT[m]? = some q := by
  unfold gm_fetch at f
  cases h : gm_PT[m]? with
  | none => rw [h] at f; cases f
  | some q => exact ⟨q, rfl⟩
theorem sg_cV {idx r : Nat} {vs rest : List Value} {q2 : gm_M} {en : gm_L} {R : Value → Mi → Ml → Prop} (f : gm_fetch m pc = some (nx, .invokevirtual idx, lk, a, b, z)) (hq2 : gm_PT[a]? = some q2) (h0 : q2.2.2.2.2.2.2.2.2.1 = 0 ∧ q2.2.2.2.2.2.2.2.2.2.1 = 0) (hst : st = vs.reverse ++ .ref r :: rest) (hr : SH[r]? = some (0, q2.2.2.2.2.1)) (hlen : vs.length = q2.2.2.2.2.2.1) (hsl : Nat.ble (gm_sl (.ref r :: vs)).length q2.2.2.1 = true) (hcat : Nat.ble (rest.map fun v => v.category).sum 8 = true) (hen : gm_ent q2.2.2.1 (.ref r :: vs) = en)
    (g0 : Sg a 0 en [] mi ml R) (g1 : ∀ v mi2 ml2, R v mi2 ml2 → Sg m nx ls ((q2.2.2.2.1.map fun _ => v).toList ++ rest) mi2 ml2 Q) : Sg m pc ls st mi ml Q := by
  intro L xs
  obtain ⟨q, hq⟩ := gm_fq f
  subst hen
  refine go_cV (R := gm_w R) f hst hr hq2 hq hlen (Nat.le_of_ble_eq_true hsl) (Nat.le_of_ble_eq_true hcat) (by rw [h0.1]; exact Nat.zero_le _) (by rw [h0.2]; exact Nat.zero_le _) (g0 L xs) (fun v h2 hR => ?_)
  obtain ⟨s2, i2, l2, r2⟩ := h2
  obtain ⟨e1, e2, hR⟩ := hR
  cases e1; cases e2
  rw [h0.1, h0.2]
  exact g1 v i2 l2 hR L xs
theorem sg_cS {idx : Nat} {vs rest : List Value} {q2 : gm_M} {en : gm_L} {R : Value → Mi → Ml → Prop} (f : gm_fetch m pc = some (nx, .invokestatic idx, lk, a, b, z)) (hb : ¬ b = 2 ∧ ¬ (b = 4 ∨ b = 5)) (hq2 : gm_PT[a]? = some q2) (h0 : q2.2.2.2.2.2.2.2.2.1 = 0 ∧ q2.2.2.2.2.2.2.2.2.2.1 = 0) (hst : st = vs.reverse ++ rest) (hlen : vs.length = q2.2.2.2.2.2.1) (hsl : Nat.ble (gm_sl vs).length q2.2.2.1 = true) (hcat : Nat.ble (rest.map fun v => v.category).sum 8 = true) (hen : gm_ent q2.2.2.1 vs = en)
    (g0 : Sg a 0 en [] mi ml R) (g1 : ∀ v mi2 ml2, R v mi2 ml2 → Sg m nx ls ((q2.2.2.2.1.map fun _ => v).toList ++ rest) mi2 ml2 Q) : Sg m pc ls st mi ml Q := by
  intro L xs
  obtain ⟨q, hq⟩ := gm_fq f
  subst hen
  refine go_cS (R := gm_w R) f hb hst hq2 hq hlen (Nat.le_of_ble_eq_true hsl) (Nat.le_of_ble_eq_true hcat) (by rw [h0.1]; exact Nat.zero_le _) (by rw [h0.2]; exact Nat.zero_le _) (g0 L xs) (fun v h2 hR => ?_)
  obtain ⟨s2, i2, l2, r2⟩ := h2
  obtain ⟨e1, e2, hR⟩ := hR
  cases e1; cases e2
  rw [h0.1, h0.2]
  exact g1 v i2 l2 hR L xs
theorem sg_mmin {idx : Nat} {x y : Int32} (f : gm_fetch m pc = some (nx, .invokestatic idx, lk, a, 4, z)) (hcat : Nat.ble (st.map fun v => v.category).sum 8 = true) (g : Sg m nx ls (.int (if y < x then y else x) :: st) mi ml Q) : Sg m pc ls (.int y :: .int x :: st) mi ml Q := by
  intro L xs
  obtain ⟨q, hq⟩ := gm_fq f
  exact go_mmin f rfl hq (Nat.le_of_ble_eq_true hcat) (Nat.zero_le _) (Nat.zero_le _) (g L xs)
theorem sg_mabs {idx : Nat} {x : Int32} (f : gm_fetch m pc = some (nx, .invokestatic idx, lk, a, 5, z)) (hcat : Nat.ble (st.map fun v => v.category).sum 8 = true) (g : Sg m nx ls (.int (if 0 ≤ x then x else 0 - x) :: st) mi ml Q) : Sg m pc ls (.int x :: st) mi ml Q := by
  intro L xs
  obtain ⟨q, hq⟩ := gm_fq f
  exact go_mabs f rfl hq (Nat.le_of_ble_eq_true hcat) (Nat.zero_le _) (Nat.zero_le _) (g L xs)
theorem sg_cpi {idx r w n1 n2 : Nat} {sp dp n : Int32} (f : gm_fetch m pc = some (nx, .invokestatic idx, lk, a, 2, z)) (hr : SH[r]? = some (1, n1)) (hw : SH[w]? = some (1, n2)) (h1 : ¬ sp < 0) (h2 : ¬ dp < 0) (h3 : ¬ n < 0) (h4 : sp.toNatClampNeg + n.toNatClampNeg ≤ n1) (h5 : dp.toNatClampNeg + n.toNatClampNeg ≤ n2) (hcat : Nat.ble (st.map fun v => v.category).sum 8 = true)
    (g : Sg m nx ls st (va_up mi w (va_cpy (mi r) (mi w) sp.toNatClampNeg dp.toNatClampNeg n.toNatClampNeg)) ml Q) : Sg m pc ls (.int n :: .int dp :: .ref w :: .int sp :: .ref r :: st) mi ml Q := fun L xs => go_cpi f rfl hr hw h1 h2 h3 h4 h5 (Nat.le_of_ble_eq_true hcat) (g L xs)
theorem sg_cpl {idx r w n1 n2 : Nat} {sp dp n : Int32} (f : gm_fetch m pc = some (nx, .invokestatic idx, lk, a, 2, z)) (hr : SH[r]? = some (2, n1)) (hw : SH[w]? = some (2, n2)) (h1 : ¬ sp < 0) (h2 : ¬ dp < 0) (h3 : ¬ n < 0) (h4 : sp.toNatClampNeg + n.toNatClampNeg ≤ n1) (h5 : dp.toNatClampNeg + n.toNatClampNeg ≤ n2) (hcat : Nat.ble (st.map fun v => v.category).sum 8 = true)
    (g : Sg m nx ls st mi (va_up ml w (va_cpy (ml r) (ml w) sp.toNatClampNeg dp.toNatClampNeg n.toNatClampNeg)) Q) : Sg m pc ls (.int n :: .int dp :: .ref w :: .int sp :: .ref r :: st) mi ml Q := fun L xs => go_cpl f rfl hr hw h1 h2 h3 h4 h5 (Nat.le_of_ble_eq_true hcat) (g L xs)
theorem sg_iret {q : gm_M} {ty : FieldType} {x : Int32} (f : gm_fetch m pc = some (nx, .ireturn, lk, a, b, z)) (hq : gm_PT[m]? = some q) (ht : q.2.2.2.1 = some ty) (hn : narrow ty (.int x) = .int x) (g : Q (.int x) mi ml) : Sg m pc ls [.int x] mi ml Q := fun L xs => go_iret f hq ht hn (Nat.zero_le _) (Nat.zero_le _) ⟨rfl, rfl, g⟩
theorem sg_lret {q : gm_M} {x : Int64} (f : gm_fetch m pc = some (nx, .lreturn, lk, a, b, z)) (hq : gm_PT[m]? = some q) (ht : q.2.2.2.1 = some .long) (g : Q (.long x) mi ml) : Sg m pc ls [.long x] mi ml Q := fun L xs => go_lret f hq ht (Nat.zero_le _) (Nat.zero_le _) ⟨rfl, rfl, g⟩
theorem sg_aret {q : gm_M} {n : String} {x : Option Nat} (f : gm_fetch m pc = some (nx, .areturn, lk, a, b, z)) (hq : gm_PT[m]? = some q) (ht : q.2.2.2.1 = some (.object n)) (g : Q (gm_ov x) mi ml) : Sg m pc ls [gm_ov x] mi ml Q := fun L xs => go_aret f hq ht (by cases x with | none => exact Or.inl rfl | some r => exact Or.inr ⟨r, rfl⟩) (Nat.zero_le _) (Nat.zero_le _) ⟨rfl, rfl, g⟩
theorem sg_ret {q : gm_M} (f : gm_fetch m pc = some (nx, .return_, lk, a, b, z)) (hq : gm_PT[m]? = some q) (ht : q.2.2.2.1 = none) (g : Q .null mi ml) : Sg m pc ls [] mi ml Q := fun L xs => go_ret f hq ht (Nat.zero_le _) (Nat.zero_le _) ⟨rfl, rfl, g⟩
end GmS
