/-! the abstract machine: values are the machine's, a reference is a cell's number (the script: .retAddr), the heap is shapes, ints, longs and references by cell and place -/
abbrev gm_H : Type := List (Nat × Nat) × (Nat → Nat → Int32) × (Nat → Nat → Int64) × (Nat → Nat → Option Nat)
abbrev gm_L : Type := List (Option Value)
abbrev gm_X : Type := Nat → Nat → gm_L → List Value → gm_H → Nat → Nat → (Value → gm_H → Prop) → Prop
def gm_find (pc : Nat) : List (Nat × Nat × gm_I) → Option (Nat × gm_I)
  | [] => none
  | r :: t => if r.1 = pc then some r.2 else gm_find pc t
def gm_fetch (m pc : Nat) : Option (Nat × gm_I) := match gm_PT[m]? with
  | some q => gm_find pc q.2.2.2.2.2.2.2.2.2.2
  | none => none
def gm_psh (ins : Instr) (z : Int) : Option Value := match ins with
  | .iconst n => some (.int (Int32.ofInt n))
  | .bipush n => some (.int (Int8.ofInt n).toInt32)
  | .sipush n => some (.int (Int16.ofInt n).toInt32)
  | .lconst n => some (.long (Int64.ofNat (n : Nat)))
  | .ldc _ => some (.int (Int32.ofInt z))
  | .ldc_w _ => some (.int (Int32.ofInt z))
  | .ldc2_w _ => some (.long (Int64.ofInt z))
  | .aconst_null => some .null
  | _ => none
def gm_kd : Value → Nat
  | .int _ => 0
  | .long _ => 1
  | .null => 2
  | .ref _ => 2
  | .retAddr _ => 2
  | _ => 3
def gm_ldi : Instr → Option (Nat × Nat)
  | .iload k => some (0, k)
  | .iload_n k => some (0, (k : Nat))
  | .lload k => some (1, k)
  | .lload_n k => some (1, (k : Nat))
  | .aload k => some (2, k)
  | .aload_n k => some (2, (k : Nat))
  | _ => none
def gm_sti : Instr → Option (Nat × Nat)
  | .istore k => some (0, k)
  | .istore_n k => some (0, (k : Nat))
  | .lstore k => some (1, k)
  | .lstore_n k => some (1, (k : Nat))
  | .astore k => some (2, k)
  | .astore_n k => some (2, (k : Nat))
  | _ => none
def gm_kill : Option Value → Option Value
  | some (.long _) => none
  | some (.double _) => none
  | x => x
def gm_s1 : gm_L → Nat → Value → gm_L
  | [], _, _ => []
  | _ :: t, 0, v => some v :: t
  | x :: t, 1, v => gm_kill x :: gm_s1 t 0 v
  | x :: t, k + 2, v => x :: gm_s1 t (k + 1) v
def gm_tn : gm_L → gm_L
  | [] => []
  | _ :: t => none :: t
def gm_s2 : gm_L → Nat → Value → gm_L
  | [], _, _ => []
  | _ :: t, 0, v => some v :: gm_tn t
  | x :: t, 1, v => gm_kill x :: gm_s2 t 0 v
  | x :: t, k + 2, v => x :: gm_s2 t (k + 1) v
def gm_sl : List Value → gm_L
  | [] => []
  | v :: t => if v.category = 2 then some v :: none :: gm_sl t else some v :: gm_sl t
def gm_ent (n : Nat) (vs : List Value) : gm_L := gm_sl vs ++ List.replicate (n - (gm_sl vs).length) none
/-- places of the locals that aren't wanted any more -/
def gm_dr (ls : gm_L) : List Nat → gm_L
  | [] => ls
  | k :: ks => gm_dr (ls.set k none) ks
def ushr (x y : Int32) : Int32 := (x.toUInt32 >>> (y.toUInt32 &&& Int32.toUInt32 31)).toInt32
def i2ch (x : Int32) : Int32 := (x.toUInt32 % 65536).toInt32
def lshl (x : Int64) (y : Int32) : Int64 := x <<< (y.toInt64 &&& 63)
def lshr (x : Int64) (y : Int32) : Int64 := x >>> (y.toInt64 &&& 63)
def lushr (x : Int64) (y : Int32) : Int64 := (x.toUInt64 >>> (y.toInt64.toUInt64 &&& Int64.toUInt64 63)).toInt64
def gm_bin : Instr → Option (Int32 → Int32 → Int32)
  | .iadd => some (fun x y => x + y)
  | .isub => some (fun x y => x - y)
  | .imul => some (fun x y => x * y)
  | .iand => some (fun x y => x &&& y)
  | .ior => some (fun x y => x ||| y)
  | .ixor => some (fun x y => x ^^^ y)
  | .ishl => some (fun x y => x <<< (y &&& 31))
  | .iushr => some ushr
  | _ => none
def gm_un : Instr → Option (Int32 → Int32)
  | .ineg => some (fun x => -x)
  | .i2c => some i2ch
  | _ => none
def gm_binl : Instr → Option (Int64 → Int64 → Int64)
  | .ladd => some (fun x y => x + y)
  | .lsub => some (fun x y => x - y)
  | .lmul => some (fun x y => x * y)
  | .land => some (fun x y => x &&& y)
  | .lor => some (fun x y => x ||| y)
  | _ => none
def gm_shl : Instr → Option (Int64 → Int32 → Int64)
  | .lshl => some lshl
  | .lshr => some lshr
  | .lushr => some lushr
  | _ => none
def gm_cnd : ClassFile.Cond → Int32 → Int32 → Prop
  | .eq, x, y => x = y
  | .ne, x, y => ¬ x = y
  | .lt, x, y => x < y
  | .ge, x, y => y ≤ x
  | .gt, x, y => y < x
  | .le, x, y => x ≤ y
def gm_ak : ArrayType → Option Nat
  | .int => some 1
  | .long => some 2
  | .boolean => some 3
  | _ => none
def gm_tys : List (Nat → FieldType) := [tyX0, tyX1, tyX2, tyX3, tyX4, tyX5, tyX6, tyX7]
def gm_ty (ci k : Nat) : FieldType := (gm_tys.getD ci tyX0) k
def gm_ftt : FieldType → Nat
  | .int => 0
  | .boolean => 0
  | .long => 1
  | _ => 2
def gm_ft (ci k : Nat) : Nat := gm_ftt (gm_ty ci k)
def gm_fin (ci k : Nat) : Bool := match gm_cl[ci]? with
  | some c => (c.2.1 k).2.2.2
  | none => false
def gm_ov : Option Nat → Value
  | some k => .ref k
  | none => .null
def gm_fv (h : gm_H) (r ci k : Nat) : Value := match gm_ft ci k with
  | 0 => .int (h.2.1 r k)
  | 1 => .long (h.2.2.1 r k)
  | _ => gm_ov (h.2.2.2 r k)

def rl_psh (L : Nat) (xs : Nat → Int32) (X : gm_X) : Prop := ∀ {m pc nx lk a b : Nat} {z : Int} {ls : gm_L} {st : List Value} {h : gm_H} {nc ns : Nat} {Q : Value → gm_H → Prop} {ins : Instr} {v : Value}, (gm_fetch m pc = some (nx, ins, lk, a, b, z)) → (gm_psh ins z = some v) → (X m nx ls (v :: st) h nc ns Q) → X m pc ls st h nc ns Q
def rl_ld (L : Nat) (xs : Nat → Int32) (X : gm_X) : Prop := ∀ {m pc nx lk a b : Nat} {z : Int} {ls : gm_L} {st : List Value} {h : gm_H} {nc ns : Nat} {Q : Value → gm_H → Prop} {ins : Instr} {v : Value} {k : Nat}, (gm_fetch m pc = some (nx, ins, lk, a, b, z)) → (gm_ldi ins = some (gm_kd v, k)) → (ls[k]? = some (some v)) → (X m nx ls (v :: st) h nc ns Q) → X m pc ls st h nc ns Q
def rl_st1 (L : Nat) (xs : Nat → Int32) (X : gm_X) : Prop := ∀ {m pc nx lk a b : Nat} {z : Int} {ls : gm_L} {st : List Value} {h : gm_H} {nc ns : Nat} {Q : Value → gm_H → Prop} {ins : Instr} {v : Value} {k : Nat}, (gm_fetch m pc = some (nx, ins, lk, a, b, z)) → (gm_sti ins = some (gm_kd v, k)) → (¬ gm_kd v = 1) → (k < ls.length) → (X m nx (gm_s1 ls k v) st h nc ns Q) → X m pc ls (v :: st) h nc ns Q
def rl_st2 (L : Nat) (xs : Nat → Int32) (X : gm_X) : Prop := ∀ {m pc nx lk a b : Nat} {z : Int} {ls : gm_L} {st : List Value} {h : gm_H} {nc ns : Nat} {Q : Value → gm_H → Prop} {ins : Instr} {x : Int64} {k : Nat}, (gm_fetch m pc = some (nx, ins, lk, a, b, z)) → (gm_sti ins = some (1, k)) → (k + 1 < ls.length) → (X m nx (gm_s2 ls k (.long x)) st h nc ns Q) → X m pc ls (.long x :: st) h nc ns Q
def rl_inc (L : Nat) (xs : Nat → Int32) (X : gm_X) : Prop := ∀ {m pc nx lk a b : Nat} {z : Int} {ls : gm_L} {st : List Value} {h : gm_H} {nc ns : Nat} {Q : Value → gm_H → Prop} {k : Nat} {n : Int} {x : Int32}, (gm_fetch m pc = some (nx, .iinc k n, lk, a, b, z)) → (ls[k]? = some (some (.int x))) → (X m nx (gm_s1 ls k (.int (x + Int32.ofInt n))) st h nc ns Q) → X m pc ls st h nc ns Q
def rl_bin (L : Nat) (xs : Nat → Int32) (X : gm_X) : Prop := ∀ {m pc nx lk a b : Nat} {z : Int} {ls : gm_L} {st : List Value} {h : gm_H} {nc ns : Nat} {Q : Value → gm_H → Prop} {ins : Instr} {f : Int32 → Int32 → Int32} {x y : Int32}, (gm_fetch m pc = some (nx, ins, lk, a, b, z)) → (gm_bin ins = some f) → (X m nx ls (.int (f x y) :: st) h nc ns Q) → X m pc ls (.int y :: .int x :: st) h nc ns Q
def rl_div (L : Nat) (xs : Nat → Int32) (X : gm_X) : Prop := ∀ {m pc nx lk a b : Nat} {z : Int} {ls : gm_L} {st : List Value} {h : gm_H} {nc ns : Nat} {Q : Value → gm_H → Prop} {x y : Int32}, (gm_fetch m pc = some (nx, .idiv, lk, a, b, z)) → (¬ y = 0) → (X m nx ls (.int (x / y) :: st) h nc ns Q) → X m pc ls (.int y :: .int x :: st) h nc ns Q
def rl_rem (L : Nat) (xs : Nat → Int32) (X : gm_X) : Prop := ∀ {m pc nx lk a b : Nat} {z : Int} {ls : gm_L} {st : List Value} {h : gm_H} {nc ns : Nat} {Q : Value → gm_H → Prop} {x y : Int32}, (gm_fetch m pc = some (nx, .irem, lk, a, b, z)) → (¬ y = 0) → (X m nx ls (.int (x - x / y * y) :: st) h nc ns Q) → X m pc ls (.int y :: .int x :: st) h nc ns Q
def rl_un (L : Nat) (xs : Nat → Int32) (X : gm_X) : Prop := ∀ {m pc nx lk a b : Nat} {z : Int} {ls : gm_L} {st : List Value} {h : gm_H} {nc ns : Nat} {Q : Value → gm_H → Prop} {ins : Instr} {f : Int32 → Int32} {x : Int32}, (gm_fetch m pc = some (nx, ins, lk, a, b, z)) → (gm_un ins = some f) → (X m nx ls (.int (f x) :: st) h nc ns Q) → X m pc ls (.int x :: st) h nc ns Q
def rl_binl (L : Nat) (xs : Nat → Int32) (X : gm_X) : Prop := ∀ {m pc nx lk a b : Nat} {z : Int} {ls : gm_L} {st : List Value} {h : gm_H} {nc ns : Nat} {Q : Value → gm_H → Prop} {ins : Instr} {f : Int64 → Int64 → Int64} {x y : Int64}, (gm_fetch m pc = some (nx, ins, lk, a, b, z)) → (gm_binl ins = some f) → (X m nx ls (.long (f x y) :: st) h nc ns Q) → X m pc ls (.long y :: .long x :: st) h nc ns Q
def rl_shl (L : Nat) (xs : Nat → Int32) (X : gm_X) : Prop := ∀ {m pc nx lk a b : Nat} {z : Int} {ls : gm_L} {st : List Value} {h : gm_H} {nc ns : Nat} {Q : Value → gm_H → Prop} {ins : Instr} {f : Int64 → Int32 → Int64} {x : Int64} {y : Int32}, (gm_fetch m pc = some (nx, ins, lk, a, b, z)) → (gm_shl ins = some f) → (X m nx ls (.long (f x y) :: st) h nc ns Q) → X m pc ls (.int y :: .long x :: st) h nc ns Q
def rl_lcmp (L : Nat) (xs : Nat → Int32) (X : gm_X) : Prop := ∀ {m pc nx lk a b : Nat} {z : Int} {ls : gm_L} {st : List Value} {h : gm_H} {nc ns : Nat} {Q : Value → gm_H → Prop} {x y : Int64}, (gm_fetch m pc = some (nx, .lcmp, lk, a, b, z)) → (X m nx ls (.int (lg_cmp x y) :: st) h nc ns Q) → X m pc ls (.long y :: .long x :: st) h nc ns Q
def rl_i2l (L : Nat) (xs : Nat → Int32) (X : gm_X) : Prop := ∀ {m pc nx lk a b : Nat} {z : Int} {ls : gm_L} {st : List Value} {h : gm_H} {nc ns : Nat} {Q : Value → gm_H → Prop} {x : Int32}, (gm_fetch m pc = some (nx, .i2l, lk, a, b, z)) → (X m nx ls (.long x.toInt64 :: st) h nc ns Q) → X m pc ls (.int x :: st) h nc ns Q
def rl_l2i (L : Nat) (xs : Nat → Int32) (X : gm_X) : Prop := ∀ {m pc nx lk a b : Nat} {z : Int} {ls : gm_L} {st : List Value} {h : gm_H} {nc ns : Nat} {Q : Value → gm_H → Prop} {x : Int64}, (gm_fetch m pc = some (nx, .l2i, lk, a, b, z)) → (X m nx ls (.int x.toInt32 :: st) h nc ns Q) → X m pc ls (.long x :: st) h nc ns Q
def rl_dup (L : Nat) (xs : Nat → Int32) (X : gm_X) : Prop := ∀ {m pc nx lk a b : Nat} {z : Int} {ls : gm_L} {st : List Value} {h : gm_H} {nc ns : Nat} {Q : Value → gm_H → Prop} {v : Value}, (gm_fetch m pc = some (nx, .dup, lk, a, b, z)) → (v.category = 1) → (X m nx ls (v :: v :: st) h nc ns Q) → X m pc ls (v :: st) h nc ns Q
def rl_pop (L : Nat) (xs : Nat → Int32) (X : gm_X) : Prop := ∀ {m pc nx lk a b : Nat} {z : Int} {ls : gm_L} {st : List Value} {h : gm_H} {nc ns : Nat} {Q : Value → gm_H → Prop} {v : Value}, (gm_fetch m pc = some (nx, .pop, lk, a, b, z)) → (v.category = 1) → (X m nx ls st h nc ns Q) → X m pc ls (v :: st) h nc ns Q
def rl_dup2 (L : Nat) (xs : Nat → Int32) (X : gm_X) : Prop := ∀ {m pc nx lk a b : Nat} {z : Int} {ls : gm_L} {st : List Value} {h : gm_H} {nc ns : Nat} {Q : Value → gm_H → Prop} {v w : Value}, (gm_fetch m pc = some (nx, .dup2, lk, a, b, z)) → (v.category = 1) → (w.category = 1) → (X m nx ls (v :: w :: v :: w :: st) h nc ns Q) → X m pc ls (v :: w :: st) h nc ns Q
def rl_if (L : Nat) (xs : Nat → Int32) (X : gm_X) : Prop := ∀ {m pc nx lk a b : Nat} {z : Int} {ls : gm_L} {st : List Value} {h : gm_H} {nc ns : Nat} {Q : Value → gm_H → Prop} {c : ClassFile.Cond} {off : Int} {x : Int32}, (gm_fetch m pc = some (nx, .ifCond c off, lk, a, b, z)) → (gm_cnd c x 0 → X m a ls st h nc ns Q) → (¬ gm_cnd c x 0 → X m nx ls st h nc ns Q) → X m pc ls (.int x :: st) h nc ns Q
def rl_icmp (L : Nat) (xs : Nat → Int32) (X : gm_X) : Prop := ∀ {m pc nx lk a b : Nat} {z : Int} {ls : gm_L} {st : List Value} {h : gm_H} {nc ns : Nat} {Q : Value → gm_H → Prop} {c : ClassFile.Cond} {off : Int} {x y : Int32}, (gm_fetch m pc = some (nx, .if_icmp c off, lk, a, b, z)) → (gm_cnd c x y → X m a ls st h nc ns Q) → (¬ gm_cnd c x y → X m nx ls st h nc ns Q) → X m pc ls (.int y :: .int x :: st) h nc ns Q
def rl_goto (L : Nat) (xs : Nat → Int32) (X : gm_X) : Prop := ∀ {m pc nx lk a b : Nat} {z : Int} {ls : gm_L} {st : List Value} {h : gm_H} {nc ns : Nat} {Q : Value → gm_H → Prop} {off : Int}, (gm_fetch m pc = some (nx, .goto off, lk, a, b, z)) → (X m a ls st h nc ns Q) → X m pc ls st h nc ns Q
def rl_ifnull (L : Nat) (xs : Nat → Int32) (X : gm_X) : Prop := ∀ {m pc nx lk a b : Nat} {z : Int} {ls : gm_L} {st : List Value} {h : gm_H} {nc ns : Nat} {Q : Value → gm_H → Prop} {off : Int} {r : Nat}, (gm_fetch m pc = some (nx, .ifnull off, lk, a, b, z)) → (X m nx ls st h nc ns Q) → X m pc ls (.ref r :: st) h nc ns Q
def rl_ifnullN (L : Nat) (xs : Nat → Int32) (X : gm_X) : Prop := ∀ {m pc nx lk a b : Nat} {z : Int} {ls : gm_L} {st : List Value} {h : gm_H} {nc ns : Nat} {Q : Value → gm_H → Prop} {off : Int}, (gm_fetch m pc = some (nx, .ifnull off, lk, a, b, z)) → (X m a ls st h nc ns Q) → X m pc ls (.null :: st) h nc ns Q
def rl_ifnn (L : Nat) (xs : Nat → Int32) (X : gm_X) : Prop := ∀ {m pc nx lk a b : Nat} {z : Int} {ls : gm_L} {st : List Value} {h : gm_H} {nc ns : Nat} {Q : Value → gm_H → Prop} {off : Int} {r : Nat}, (gm_fetch m pc = some (nx, .ifnonnull off, lk, a, b, z)) → (X m a ls st h nc ns Q) → X m pc ls (.ref r :: st) h nc ns Q
def rl_ifnnN (L : Nat) (xs : Nat → Int32) (X : gm_X) : Prop := ∀ {m pc nx lk a b : Nat} {z : Int} {ls : gm_L} {st : List Value} {h : gm_H} {nc ns : Nat} {Q : Value → gm_H → Prop} {off : Int}, (gm_fetch m pc = some (nx, .ifnonnull off, lk, a, b, z)) → (X m nx ls st h nc ns Q) → X m pc ls (.null :: st) h nc ns Q
def rl_tabO (L : Nat) (xs : Nat → Int32) (X : gm_X) : Prop := ∀ {m pc nx lk a b : Nat} {z : Int} {ls : gm_L} {st : List Value} {h : gm_H} {nc ns : Nat} {Q : Value → gm_H → Prop} {d lo hi : Int} {offs : Array Int} {x : Int32} {t : Nat}, (gm_fetch m pc = some (nx, .tableswitch d lo hi offs, lk, a, b, z)) → (x.toInt < lo ∨ hi < x.toInt) → ((pc : Int) + d = (t : Int)) → (X m t ls st h nc ns Q) → X m pc ls (.int x :: st) h nc ns Q
def rl_tabI (L : Nat) (xs : Nat → Int32) (X : gm_X) : Prop := ∀ {m pc nx lk a b : Nat} {z : Int} {ls : gm_L} {st : List Value} {h : gm_H} {nc ns : Nat} {Q : Value → gm_H → Prop} {d lo hi off : Int} {offs : Array Int} {x : Int32} {t : Nat}, (gm_fetch m pc = some (nx, .tableswitch d lo hi offs, lk, a, b, z)) → (¬ x.toInt < lo) → (¬ hi < x.toInt) → (offs[(x.toInt - lo).toNat]? = some off) → ((pc : Int) + off = (t : Int)) → (X m t ls st h nc ns Q) → X m pc ls (.int x :: st) h nc ns Q
def rl_get (L : Nat) (xs : Nat → Int32) (X : gm_X) : Prop := ∀ {m pc nx lk a b : Nat} {z : Int} {ls : gm_L} {st : List Value} {h : gm_H} {nc ns : Nat} {Q : Value → gm_H → Prop} {idx r : Nat}, (gm_fetch m pc = some (nx, .getfield idx, lk, a, b, z)) → (h.1[r]? = some (0, a)) → (X m nx ls (gm_fv h r a b :: st) h nc ns Q) → X m pc ls (.ref r :: st) h nc ns Q
def rl_puti (L : Nat) (xs : Nat → Int32) (X : gm_X) : Prop := ∀ {m pc nx lk a b : Nat} {z : Int} {ls : gm_L} {st : List Value} {h : gm_H} {nc ns : Nat} {Q : Value → gm_H → Prop} {idx r : Nat} {x : Int32}, (gm_fetch m pc = some (nx, .putfield idx, lk, a, b, z)) → (h.1[r]? = some (0, a)) → (gm_ft a b = 0) → (gm_fin a b = false) → (gm_ty a b = .boolean → x = 0 ∨ x = 1) → (X m nx ls st (h.1, va_up h.2.1 r (va_up (h.2.1 r) b x), h.2.2.1, h.2.2.2) nc ns Q) → X m pc ls (.int x :: .ref r :: st) h nc ns Q
def rl_putl (L : Nat) (xs : Nat → Int32) (X : gm_X) : Prop := ∀ {m pc nx lk a b : Nat} {z : Int} {ls : gm_L} {st : List Value} {h : gm_H} {nc ns : Nat} {Q : Value → gm_H → Prop} {idx r : Nat} {x : Int64}, (gm_fetch m pc = some (nx, .putfield idx, lk, a, b, z)) → (h.1[r]? = some (0, a)) → (gm_ft a b = 1) → (gm_fin a b = false) → (X m nx ls st (h.1, h.2.1, va_up h.2.2.1 r (va_up (h.2.2.1 r) b x), h.2.2.2) nc ns Q) → X m pc ls (.long x :: .ref r :: st) h nc ns Q
def rl_putr (L : Nat) (xs : Nat → Int32) (X : gm_X) : Prop := ∀ {m pc nx lk a b : Nat} {z : Int} {ls : gm_L} {st : List Value} {h : gm_H} {nc ns : Nat} {Q : Value → gm_H → Prop} {q : gm_M} {idx r w : Nat}, (gm_fetch m pc = some (nx, .putfield idx, lk, a, b, z)) → (h.1[r]? = some (0, a)) → (gm_ft a b = 2) → (gm_fin a b = true) → (gm_PT[m]? = some q) → (q.1.name = "<init>") → (q.2.2.2.2.1 = a) → (X m nx ls st (h.1, h.2.1, h.2.2.1, va_up h.2.2.2 r (va_up (h.2.2.2 r) b (some w))) nc ns Q) → X m pc ls (.ref w :: .ref r :: st) h nc ns Q
def rl_iald (L : Nat) (xs : Nat → Int32) (X : gm_X) : Prop := ∀ {m pc nx lk a b : Nat} {z : Int} {ls : gm_L} {st : List Value} {h : gm_H} {nc ns : Nat} {Q : Value → gm_H → Prop} {r n : Nat} {i : Int32}, (gm_fetch m pc = some (nx, .iaload, lk, a, b, z)) → (h.1[r]? = some (1, n)) → (vp_in i n) → (X m nx ls (.int (h.2.1 r i.toNatClampNeg) :: st) h nc ns Q) → X m pc ls (.int i :: .ref r :: st) h nc ns Q
def rl_lald (L : Nat) (xs : Nat → Int32) (X : gm_X) : Prop := ∀ {m pc nx lk a b : Nat} {z : Int} {ls : gm_L} {st : List Value} {h : gm_H} {nc ns : Nat} {Q : Value → gm_H → Prop} {r n : Nat} {i : Int32}, (gm_fetch m pc = some (nx, .laload, lk, a, b, z)) → (h.1[r]? = some (2, n)) → (vp_in i n) → (X m nx ls (.long (h.2.2.1 r i.toNatClampNeg) :: st) h nc ns Q) → X m pc ls (.int i :: .ref r :: st) h nc ns Q
def rl_zald (L : Nat) (xs : Nat → Int32) (X : gm_X) : Prop := ∀ {m pc nx lk a b : Nat} {z : Int} {ls : gm_L} {st : List Value} {h : gm_H} {nc ns : Nat} {Q : Value → gm_H → Prop} {r n : Nat} {i : Int32}, (gm_fetch m pc = some (nx, .baload, lk, a, b, z)) → (h.1[r]? = some (3, n)) → (vp_in i n) → (X m nx ls (.int (h.2.1 r i.toNatClampNeg) :: st) h nc ns Q) → X m pc ls (.int i :: .ref r :: st) h nc ns Q
def rl_aald (L : Nat) (xs : Nat → Int32) (X : gm_X) : Prop := ∀ {m pc nx lk a b : Nat} {z : Int} {ls : gm_L} {st : List Value} {h : gm_H} {nc ns : Nat} {Q : Value → gm_H → Prop} {r n j : Nat} {i : Int32}, (gm_fetch m pc = some (nx, .aaload, lk, a, b, z)) → (h.1[r]? = some (j + 4, n)) → (vp_in i n) → (j = 2 ∨ j = 5) → (X m nx ls (gm_ov (h.2.2.2 r i.toNatClampNeg) :: st) h nc ns Q) → X m pc ls (.int i :: .ref r :: st) h nc ns Q
def rl_iast (L : Nat) (xs : Nat → Int32) (X : gm_X) : Prop := ∀ {m pc nx lk a b : Nat} {z : Int} {ls : gm_L} {st : List Value} {h : gm_H} {nc ns : Nat} {Q : Value → gm_H → Prop} {r n : Nat} {i x : Int32}, (gm_fetch m pc = some (nx, .iastore, lk, a, b, z)) → (h.1[r]? = some (1, n)) → (vp_in i n) → (X m nx ls st (h.1, va_up h.2.1 r (va_up (h.2.1 r) i.toNatClampNeg x), h.2.2.1, h.2.2.2) nc ns Q) → X m pc ls (.int x :: .int i :: .ref r :: st) h nc ns Q
def rl_last (L : Nat) (xs : Nat → Int32) (X : gm_X) : Prop := ∀ {m pc nx lk a b : Nat} {z : Int} {ls : gm_L} {st : List Value} {h : gm_H} {nc ns : Nat} {Q : Value → gm_H → Prop} {r n : Nat} {i : Int32} {x : Int64}, (gm_fetch m pc = some (nx, .lastore, lk, a, b, z)) → (h.1[r]? = some (2, n)) → (vp_in i n) → (X m nx ls st (h.1, h.2.1, va_up h.2.2.1 r (va_up (h.2.2.1 r) i.toNatClampNeg x), h.2.2.2) nc ns Q) → X m pc ls (.long x :: .int i :: .ref r :: st) h nc ns Q
def rl_zast (L : Nat) (xs : Nat → Int32) (X : gm_X) : Prop := ∀ {m pc nx lk a b : Nat} {z : Int} {ls : gm_L} {st : List Value} {h : gm_H} {nc ns : Nat} {Q : Value → gm_H → Prop} {r n : Nat} {i x : Int32}, (gm_fetch m pc = some (nx, .bastore, lk, a, b, z)) → (h.1[r]? = some (3, n)) → (vp_in i n) → (x = 0 ∨ x = 1) → (X m nx ls st (h.1, va_up h.2.1 r (va_up (h.2.1 r) i.toNatClampNeg x), h.2.2.1, h.2.2.2) nc ns Q) → X m pc ls (.int x :: .int i :: .ref r :: st) h nc ns Q
def rl_aast (L : Nat) (xs : Nat → Int32) (X : gm_X) : Prop := ∀ {m pc nx lk a b : Nat} {z : Int} {ls : gm_L} {st : List Value} {h : gm_H} {nc ns : Nat} {Q : Value → gm_H → Prop} {r n j w : Nat} {i : Int32}, (gm_fetch m pc = some (nx, .aastore, lk, a, b, z)) → (h.1[r]? = some (j + 4, n)) → (vp_in i n) → (h.1[w]? = some (0, j)) → (j = 2 ∨ j = 5) → (X m nx ls st (h.1, h.2.1, h.2.2.1, va_up h.2.2.2 r (va_up (h.2.2.2 r) i.toNatClampNeg (some w))) nc ns Q) → X m pc ls (.ref w :: .int i :: .ref r :: st) h nc ns Q
def rl_alen (L : Nat) (xs : Nat → Int32) (X : gm_X) : Prop := ∀ {m pc nx lk a b : Nat} {z : Int} {ls : gm_L} {st : List Value} {h : gm_H} {nc ns : Nat} {Q : Value → gm_H → Prop} {r n : Nat}, (gm_fetch m pc = some (nx, .arraylength, lk, a, b, z)) → (h.1[r]? = some (1, n)) → (X m nx ls (.int (Int32.ofNat n) :: st) h nc ns Q) → X m pc ls (.ref r :: st) h nc ns Q
def rl_sld (L : Nat) (xs : Nat → Int32) (X : gm_X) : Prop := ∀ {m pc nx lk a b : Nat} {z : Int} {ls : gm_L} {st : List Value} {h : gm_H} {nc ns : Nat} {Q : Value → gm_H → Prop} {t : Nat} {i : Int32}, (gm_fetch m pc = some (nx, .iaload, lk, a, b, z)) → (vp_in i L) → (X m nx ls (.int (xs i.toNatClampNeg) :: st) h nc ns Q) → X m pc ls (.int i :: .retAddr t :: st) h nc ns Q
def rl_slen (L : Nat) (xs : Nat → Int32) (X : gm_X) : Prop := ∀ {m pc nx lk a b : Nat} {z : Int} {ls : gm_L} {st : List Value} {h : gm_H} {nc ns : Nat} {Q : Value → gm_H → Prop} {t : Nat}, (gm_fetch m pc = some (nx, .arraylength, lk, a, b, z)) → (X m nx ls (.int (Int32.ofNat L) :: st) h nc ns Q) → X m pc ls (.retAddr t :: st) h nc ns Q
def rl_new (L : Nat) (xs : Nat → Int32) (X : gm_X) : Prop := ∀ {m pc nx lk a b : Nat} {z : Int} {ls : gm_L} {st : List Value} {h : gm_H} {nc ns : Nat} {Q : Value → gm_H → Prop} {q : gm_M} {idx : Nat} {cw : vw_C}, (gm_fetch m pc = some (nx, .new idx, lk, a, b, z)) → (gm_PT[m]? = some q) → (gm_cl[a]? = some cw) → (nc + 1 ≤ q.2.2.2.2.2.2.2.2.1) → (ns + cw.2.2 ≤ q.2.2.2.2.2.2.2.2.2.1) → (X m nx ls (.ref h.1.length :: st) (h.1 ++ [(0, a)], va_up h.2.1 h.1.length (fun _ => 0), va_up h.2.2.1 h.1.length (fun _ => 0), va_up h.2.2.2 h.1.length (fun _ => none)) (nc + 1) (ns + cw.2.2) Q) → X m pc ls st h nc ns Q
def rl_newa (L : Nat) (xs : Nat → Int32) (X : gm_X) : Prop := ∀ {m pc nx lk a b : Nat} {z : Int} {ls : gm_L} {st : List Value} {h : gm_H} {nc ns : Nat} {Q : Value → gm_H → Prop} {q : gm_M} {t : ArrayType} {n : Int32} {N kd : Nat}, (gm_fetch m pc = some (nx, .newarray t, lk, a, b, z)) → (gm_PT[m]? = some q) → (gm_ak t = some kd) → (¬ n < 0) → (n.toNatClampNeg = N) → (N ≤ 100000) → (nc + 1 ≤ q.2.2.2.2.2.2.2.2.1) → (ns + N ≤ q.2.2.2.2.2.2.2.2.2.1) → (X m nx ls (.ref h.1.length :: st) (h.1 ++ [(kd, N)], va_up h.2.1 h.1.length (fun _ => 0), va_up h.2.2.1 h.1.length (fun _ => 0), va_up h.2.2.2 h.1.length (fun _ => none)) (nc + 1) (ns + N) Q) → X m pc ls (.int n :: st) h nc ns Q
def rl_anew (L : Nat) (xs : Nat → Int32) (X : gm_X) : Prop := ∀ {m pc nx lk a b : Nat} {z : Int} {ls : gm_L} {st : List Value} {h : gm_H} {nc ns : Nat} {Q : Value → gm_H → Prop} {q : gm_M} {idx : Nat} {n : Int32} {N : Nat}, (gm_fetch m pc = some (nx, .anewarray idx, lk, a, b, z)) → (gm_PT[m]? = some q) → (¬ n < 0) → (n.toNatClampNeg = N) → (N ≤ 100000) → (nc + 1 ≤ q.2.2.2.2.2.2.2.2.1) → (ns + N ≤ q.2.2.2.2.2.2.2.2.2.1) → (X m nx ls (.ref h.1.length :: st) (h.1 ++ [(a + 4, N)], va_up h.2.1 h.1.length (fun _ => 0), va_up h.2.2.1 h.1.length (fun _ => 0), va_up h.2.2.2 h.1.length (fun _ => none)) (nc + 1) (ns + N) Q) → X m pc ls (.int n :: st) h nc ns Q
def rl_cV (L : Nat) (xs : Nat → Int32) (X : gm_X) : Prop := ∀ {m pc nx lk a b : Nat} {z : Int} {ls : gm_L} {st : List Value} {h : gm_H} {nc ns : Nat} {Q : Value → gm_H → Prop} {q q2 : gm_M} {idx r : Nat} {vs rest : List Value} {R : Value → gm_H → Prop}, (gm_fetch m pc = some (nx, .invokevirtual idx, lk, a, b, z)) → (st = vs.reverse ++ .ref r :: rest) → (h.1[r]? = some (0, q2.2.2.2.2.1)) → (gm_PT[a]? = some q2) → (gm_PT[m]? = some q) → (vs.length = q2.2.2.2.2.2.1) → ((gm_sl (.ref r :: vs)).length ≤ q2.2.2.1) → ((rest.map fun v => v.category).sum ≤ 8) → (nc + q2.2.2.2.2.2.2.2.2.1 ≤ q.2.2.2.2.2.2.2.2.1) → (ns + q2.2.2.2.2.2.2.2.2.2.1 ≤ q.2.2.2.2.2.2.2.2.2.1) → (X a 0 (gm_ent q2.2.2.1 (.ref r :: vs)) [] h 0 0 R) → (∀ (v : Value) (h2 : gm_H), R v h2 → X m nx ls ((q2.2.2.2.1.map fun _ => v).toList ++ rest) h2 (nc + q2.2.2.2.2.2.2.2.2.1) (ns + q2.2.2.2.2.2.2.2.2.2.1) Q) → X m pc ls st h nc ns Q
def rl_cS (L : Nat) (xs : Nat → Int32) (X : gm_X) : Prop := ∀ {m pc nx lk a b : Nat} {z : Int} {ls : gm_L} {st : List Value} {h : gm_H} {nc ns : Nat} {Q : Value → gm_H → Prop} {q q2 : gm_M} {idx : Nat} {vs rest : List Value} {R : Value → gm_H → Prop}, (gm_fetch m pc = some (nx, .invokestatic idx, lk, a, b, z)) → (¬ b = 2 ∧ ¬ (b = 4 ∨ b = 5)) → (st = vs.reverse ++ rest) → (gm_PT[a]? = some q2) → (gm_PT[m]? = some q) → (vs.length = q2.2.2.2.2.2.1) → ((gm_sl vs).length ≤ q2.2.2.1) → ((rest.map fun v => v.category).sum ≤ 8) → (nc + q2.2.2.2.2.2.2.2.2.1 ≤ q.2.2.2.2.2.2.2.2.1) → (ns + q2.2.2.2.2.2.2.2.2.2.1 ≤ q.2.2.2.2.2.2.2.2.2.1) → (X a 0 (gm_ent q2.2.2.1 vs) [] h 0 0 R) → (∀ (v : Value) (h2 : gm_H), R v h2 → X m nx ls ((q2.2.2.2.1.map fun _ => v).toList ++ rest) h2 (nc + q2.2.2.2.2.2.2.2.2.1) (ns + q2.2.2.2.2.2.2.2.2.2.1) Q) → X m pc ls st h nc ns Q
def rl_cI (L : Nat) (xs : Nat → Int32) (X : gm_X) : Prop := ∀ {m pc nx lk a b : Nat} {z : Int} {ls : gm_L} {st : List Value} {h : gm_H} {nc ns : Nat} {Q : Value → gm_H → Prop} {q q2 : gm_M} {idx r : Nat} {vs rest : List Value} {R : Value → gm_H → Prop}, (gm_fetch m pc = some (nx, .invokespecial idx, lk, a, b, z)) → (¬ b = 3) → (st = vs.reverse ++ .ref r :: rest) → (gm_PT[a]? = some q2) → (gm_PT[m]? = some q) → (vs.length = q2.2.2.2.2.2.1) → ((gm_sl (.ref r :: vs)).length ≤ q2.2.2.1) → ((rest.map fun v => v.category).sum ≤ 8) → (nc + q2.2.2.2.2.2.2.2.2.1 ≤ q.2.2.2.2.2.2.2.2.1) → (ns + q2.2.2.2.2.2.2.2.2.2.1 ≤ q.2.2.2.2.2.2.2.2.2.1) → (X a 0 (gm_ent q2.2.2.1 (.ref r :: vs)) [] h 0 0 R) → (∀ (v : Value) (h2 : gm_H), R v h2 → X m nx ls ((q2.2.2.2.1.map fun _ => v).toList ++ rest) h2 (nc + q2.2.2.2.2.2.2.2.2.1) (ns + q2.2.2.2.2.2.2.2.2.2.1) Q) → X m pc ls st h nc ns Q
def rl_obj (L : Nat) (xs : Nat → Int32) (X : gm_X) : Prop := ∀ {m pc nx lk a b : Nat} {z : Int} {ls : gm_L} {st : List Value} {h : gm_H} {nc ns : Nat} {Q : Value → gm_H → Prop} {idx r : Nat}, (gm_fetch m pc = some (nx, .invokespecial idx, lk, a, b, z)) → (b = 3) → ((st.map fun v => v.category).sum ≤ 8) → (X m nx ls st h nc ns Q) → X m pc ls (.ref r :: st) h nc ns Q
def rl_cpi (L : Nat) (xs : Nat → Int32) (X : gm_X) : Prop := ∀ {m pc nx lk a b : Nat} {z : Int} {ls : gm_L} {st : List Value} {h : gm_H} {nc ns : Nat} {Q : Value → gm_H → Prop} {idx r w n1 n2 : Nat} {sp dp n : Int32}, (gm_fetch m pc = some (nx, .invokestatic idx, lk, a, b, z)) → (b = 2) → (h.1[r]? = some (1, n1)) → (h.1[w]? = some (1, n2)) → (¬ sp < 0) → (¬ dp < 0) → (¬ n < 0) → (sp.toNatClampNeg + n.toNatClampNeg ≤ n1) → (dp.toNatClampNeg + n.toNatClampNeg ≤ n2) → ((st.map fun v => v.category).sum ≤ 8) → (X m nx ls st (h.1, va_up h.2.1 w (va_cpy (h.2.1 r) (h.2.1 w) sp.toNatClampNeg dp.toNatClampNeg n.toNatClampNeg), h.2.2.1, h.2.2.2) nc ns Q) → X m pc ls (.int n :: .int dp :: .ref w :: .int sp :: .ref r :: st) h nc ns Q
def rl_cpl (L : Nat) (xs : Nat → Int32) (X : gm_X) : Prop := ∀ {m pc nx lk a b : Nat} {z : Int} {ls : gm_L} {st : List Value} {h : gm_H} {nc ns : Nat} {Q : Value → gm_H → Prop} {idx r w n1 n2 : Nat} {sp dp n : Int32}, (gm_fetch m pc = some (nx, .invokestatic idx, lk, a, b, z)) → (b = 2) → (h.1[r]? = some (2, n1)) → (h.1[w]? = some (2, n2)) → (¬ sp < 0) → (¬ dp < 0) → (¬ n < 0) → (sp.toNatClampNeg + n.toNatClampNeg ≤ n1) → (dp.toNatClampNeg + n.toNatClampNeg ≤ n2) → ((st.map fun v => v.category).sum ≤ 8) → (X m nx ls st (h.1, h.2.1, va_up h.2.2.1 w (va_cpy (h.2.2.1 r) (h.2.2.1 w) sp.toNatClampNeg dp.toNatClampNeg n.toNatClampNeg), h.2.2.2) nc ns Q) → X m pc ls (.int n :: .int dp :: .ref w :: .int sp :: .ref r :: st) h nc ns Q
def rl_mmin (L : Nat) (xs : Nat → Int32) (X : gm_X) : Prop := ∀ {m pc nx lk a b : Nat} {z : Int} {ls : gm_L} {st : List Value} {h : gm_H} {nc ns : Nat} {Q : Value → gm_H → Prop} {idx : Nat} {q : gm_M} {x y : Int32}, (gm_fetch m pc = some (nx, .invokestatic idx, lk, a, b, z)) → (b = 4) → (gm_PT[m]? = some q) → ((st.map fun v => v.category).sum ≤ 8) → (nc ≤ q.2.2.2.2.2.2.2.2.1) → (ns ≤ q.2.2.2.2.2.2.2.2.2.1) → (X m nx ls (.int (if y < x then y else x) :: st) h nc ns Q) → X m pc ls (.int y :: .int x :: st) h nc ns Q
def rl_mabs (L : Nat) (xs : Nat → Int32) (X : gm_X) : Prop := ∀ {m pc nx lk a b : Nat} {z : Int} {ls : gm_L} {st : List Value} {h : gm_H} {nc ns : Nat} {Q : Value → gm_H → Prop} {idx : Nat} {q : gm_M} {x : Int32}, (gm_fetch m pc = some (nx, .invokestatic idx, lk, a, b, z)) → (b = 5) → (gm_PT[m]? = some q) → ((st.map fun v => v.category).sum ≤ 8) → (nc ≤ q.2.2.2.2.2.2.2.2.1) → (ns ≤ q.2.2.2.2.2.2.2.2.2.1) → (X m nx ls (.int (if 0 ≤ x then x else 0 - x) :: st) h nc ns Q) → X m pc ls (.int x :: st) h nc ns Q
def rl_drop (L : Nat) (xs : Nat → Int32) (X : gm_X) : Prop := ∀ {m pc : Nat} {ls : gm_L} {st : List Value} {h : gm_H} {nc ns : Nat} {Q : Value → gm_H → Prop} {ks : List Nat}, (X m pc (gm_dr ls ks) st h nc ns Q) → X m pc ls st h nc ns Q
def rl_iret (L : Nat) (xs : Nat → Int32) (X : gm_X) : Prop := ∀ {m pc nx lk a b : Nat} {z : Int} {ls : gm_L} {h : gm_H} {nc ns : Nat} {Q : Value → gm_H → Prop} {q : gm_M} {ty : FieldType} {x : Int32}, (gm_fetch m pc = some (nx, .ireturn, lk, a, b, z)) → (gm_PT[m]? = some q) → (q.2.2.2.1 = some ty) → (narrow ty (.int x) = .int x) → (nc ≤ q.2.2.2.2.2.2.2.2.1) → (ns ≤ q.2.2.2.2.2.2.2.2.2.1) → (Q (.int x) h) → X m pc ls [.int x] h nc ns Q
def rl_lret (L : Nat) (xs : Nat → Int32) (X : gm_X) : Prop := ∀ {m pc nx lk a b : Nat} {z : Int} {ls : gm_L} {h : gm_H} {nc ns : Nat} {Q : Value → gm_H → Prop} {q : gm_M} {x : Int64}, (gm_fetch m pc = some (nx, .lreturn, lk, a, b, z)) → (gm_PT[m]? = some q) → (q.2.2.2.1 = some .long) → (nc ≤ q.2.2.2.2.2.2.2.2.1) → (ns ≤ q.2.2.2.2.2.2.2.2.2.1) → (Q (.long x) h) → X m pc ls [.long x] h nc ns Q
def rl_aret (L : Nat) (xs : Nat → Int32) (X : gm_X) : Prop := ∀ {m pc nx lk a b : Nat} {z : Int} {ls : gm_L} {h : gm_H} {nc ns : Nat} {Q : Value → gm_H → Prop} {q : gm_M} {n : String} {v : Value}, (gm_fetch m pc = some (nx, .areturn, lk, a, b, z)) → (gm_PT[m]? = some q) → (q.2.2.2.1 = some (.object n)) → (v = .null ∨ ∃ r, v = .ref r) → (nc ≤ q.2.2.2.2.2.2.2.2.1) → (ns ≤ q.2.2.2.2.2.2.2.2.2.1) → (Q v h) → X m pc ls [v] h nc ns Q
def rl_ret (L : Nat) (xs : Nat → Int32) (X : gm_X) : Prop := ∀ {m pc nx lk a b : Nat} {z : Int} {ls : gm_L} {h : gm_H} {nc ns : Nat} {Q : Value → gm_H → Prop} {q : gm_M}, (gm_fetch m pc = some (nx, .return_, lk, a, b, z)) → (gm_PT[m]? = some q) → (q.2.2.2.1 = none) → (nc ≤ q.2.2.2.2.2.2.2.2.1) → (ns ≤ q.2.2.2.2.2.2.2.2.2.1) → (Q .null h) → X m pc ls [] h nc ns Q
def gm_Cl (L : Nat) (xs : Nat → Int32) (X : gm_X) : Prop := rl_psh L xs X ∧ rl_ld L xs X ∧ rl_st1 L xs X ∧ rl_st2 L xs X ∧ rl_inc L xs X ∧ rl_bin L xs X ∧ rl_div L xs X ∧ rl_rem L xs X ∧ rl_un L xs X ∧ rl_binl L xs X ∧ rl_shl L xs X ∧ rl_lcmp L xs X ∧ rl_i2l L xs X ∧ rl_l2i L xs X ∧ rl_dup L xs X ∧ rl_pop L xs X ∧ rl_dup2 L xs X ∧ rl_if L xs X ∧ rl_icmp L xs X ∧ rl_goto L xs X ∧ rl_ifnull L xs X ∧ rl_ifnullN L xs X ∧ rl_ifnn L xs X ∧ rl_ifnnN L xs X ∧ rl_tabO L xs X ∧ rl_tabI L xs X ∧ rl_get L xs X ∧ rl_puti L xs X ∧ rl_putl L xs X ∧ rl_putr L xs X ∧ rl_iald L xs X ∧ rl_lald L xs X ∧ rl_zald L xs X ∧ rl_aald L xs X ∧ rl_iast L xs X ∧ rl_last L xs X ∧ rl_zast L xs X ∧ rl_aast L xs X ∧ rl_alen L xs X ∧ rl_sld L xs X ∧ rl_slen L xs X ∧ rl_new L xs X ∧ rl_newa L xs X ∧ rl_anew L xs X ∧ rl_cV L xs X ∧ rl_cS L xs X ∧ rl_cI L xs X ∧ rl_obj L xs X ∧ rl_cpi L xs X ∧ rl_cpl L xs X ∧ rl_mmin L xs X ∧ rl_mabs L xs X ∧ rl_drop L xs X ∧ rl_iret L xs X ∧ rl_lret L xs X ∧ rl_aret L xs X ∧ rl_ret L xs X
/-- the least predicate that the rules close -/
def Go (L : Nat) (xs : Nat → Int32) : gm_X := fun m pc ls st h nc ns Q => ∀ X : gm_X, gm_Cl L xs X → X m pc ls st h nc ns Q
theorem go_psh {L : Nat} {xs : Nat → Int32} : rl_psh L xs (Go L xs) := by
  intro m pc nx lk a b z ls st h nc ns Q ins v p0 p1 g0 X hX
  exact hX.1 p0 p1 (g0 X hX)
theorem go_ld {L : Nat} {xs : Nat → Int32} : rl_ld L xs (Go L xs) := by
  intro m pc nx lk a b z ls st h nc ns Q ins v k p0 p1 p2 g0 X hX
  exact hX.2.1 p0 p1 p2 (g0 X hX)
theorem go_st1 {L : Nat} {xs : Nat → Int32} : rl_st1 L xs (Go L xs) := by
  intro m pc nx lk a b z ls st h nc ns Q ins v k p0 p1 p2 p3 g0 X hX
  exact hX.2.2.1 p0 p1 p2 p3 (g0 X hX)
theorem go_st2 {L : Nat} {xs : Nat → Int32} : rl_st2 L xs (Go L xs) := by
  intro m pc nx lk a b z ls st h nc ns Q ins x k p0 p1 p2 g0 X hX
  exact hX.2.2.2.1 p0 p1 p2 (g0 X hX)
theorem go_inc {L : Nat} {xs : Nat → Int32} : rl_inc L xs (Go L xs) := by
  intro m pc nx lk a b z ls st h nc ns Q k n x p0 p1 g0 X hX
  exact hX.2.2.2.2.1 p0 p1 (g0 X hX)
theorem go_bin {L : Nat} {xs : Nat → Int32} : rl_bin L xs (Go L xs) := by
  intro m pc nx lk a b z ls st h nc ns Q ins f x y p0 p1 g0 X hX
  exact hX.2.2.2.2.2.1 p0 p1 (g0 X hX)
theorem go_div {L : Nat} {xs : Nat → Int32} : rl_div L xs (Go L xs) := by
  intro m pc nx lk a b z ls st h nc ns Q x y p0 p1 g0 X hX
  exact hX.2.2.2.2.2.2.1 p0 p1 (g0 X hX)
theorem go_rem {L : Nat} {xs : Nat → Int32} : rl_rem L xs (Go L xs) := by
  intro m pc nx lk a b z ls st h nc ns Q x y p0 p1 g0 X hX
  exact hX.2.2.2.2.2.2.2.1 p0 p1 (g0 X hX)
theorem go_un {L : Nat} {xs : Nat → Int32} : rl_un L xs (Go L xs) := by
  intro m pc nx lk a b z ls st h nc ns Q ins f x p0 p1 g0 X hX
  exact hX.2.2.2.2.2.2.2.2.1 p0 p1 (g0 X hX)
theorem go_binl {L : Nat} {xs : Nat → Int32} : rl_binl L xs (Go L xs) := by
  intro m pc nx lk a b z ls st h nc ns Q ins f x y p0 p1 g0 X hX
  exact hX.2.2.2.2.2.2.2.2.2.1 p0 p1 (g0 X hX)
theorem go_shl {L : Nat} {xs : Nat → Int32} : rl_shl L xs (Go L xs) := by
  intro m pc nx lk a b z ls st h nc ns Q ins f x y p0 p1 g0 X hX
  exact hX.2.2.2.2.2.2.2.2.2.2.1 p0 p1 (g0 X hX)
theorem go_lcmp {L : Nat} {xs : Nat → Int32} : rl_lcmp L xs (Go L xs) := by
  intro m pc nx lk a b z ls st h nc ns Q x y p0 g0 X hX
  exact hX.2.2.2.2.2.2.2.2.2.2.2.1 p0 (g0 X hX)
theorem go_i2l {L : Nat} {xs : Nat → Int32} : rl_i2l L xs (Go L xs) := by
  intro m pc nx lk a b z ls st h nc ns Q x p0 g0 X hX
  exact hX.2.2.2.2.2.2.2.2.2.2.2.2.1 p0 (g0 X hX)
theorem go_l2i {L : Nat} {xs : Nat → Int32} : rl_l2i L xs (Go L xs) := by
  intro m pc nx lk a b z ls st h nc ns Q x p0 g0 X hX
  exact hX.2.2.2.2.2.2.2.2.2.2.2.2.2.1 p0 (g0 X hX)
theorem go_dup {L : Nat} {xs : Nat → Int32} : rl_dup L xs (Go L xs) := by
  intro m pc nx lk a b z ls st h nc ns Q v p0 p1 g0 X hX
  exact hX.2.2.2.2.2.2.2.2.2.2.2.2.2.2.1 p0 p1 (g0 X hX)
theorem go_pop {L : Nat} {xs : Nat → Int32} : rl_pop L xs (Go L xs) := by
  intro m pc nx lk a b z ls st h nc ns Q v p0 p1 g0 X hX
  exact hX.2.2.2.2.2.2.2.2.2.2.2.2.2.2.2.1 p0 p1 (g0 X hX)
theorem go_dup2 {L : Nat} {xs : Nat → Int32} : rl_dup2 L xs (Go L xs) := by
  intro m pc nx lk a b z ls st h nc ns Q v w p0 p1 p2 g0 X hX
  exact hX.2.2.2.2.2.2.2.2.2.2.2.2.2.2.2.2.1 p0 p1 p2 (g0 X hX)
theorem go_if {L : Nat} {xs : Nat → Int32} : rl_if L xs (Go L xs) := by
  intro m pc nx lk a b z ls st h nc ns Q c off x p0 g0 g1 X hX
  exact hX.2.2.2.2.2.2.2.2.2.2.2.2.2.2.2.2.2.1 p0 (fun c => g0 c X hX) (fun c => g1 c X hX)
theorem go_icmp {L : Nat} {xs : Nat → Int32} : rl_icmp L xs (Go L xs) := by
  intro m pc nx lk a b z ls st h nc ns Q c off x y p0 g0 g1 X hX
  exact hX.2.2.2.2.2.2.2.2.2.2.2.2.2.2.2.2.2.2.1 p0 (fun c => g0 c X hX) (fun c => g1 c X hX)
theorem go_goto {L : Nat} {xs : Nat → Int32} : rl_goto L xs (Go L xs) := by
  intro m pc nx lk a b z ls st h nc ns Q off p0 g0 X hX
  exact hX.2.2.2.2.2.2.2.2.2.2.2.2.2.2.2.2.2.2.2.1 p0 (g0 X hX)
theorem go_ifnull {L : Nat} {xs : Nat → Int32} : rl_ifnull L xs (Go L xs) := by
  intro m pc nx lk a b z ls st h nc ns Q off r p0 g0 X hX
  exact hX.2.2.2.2.2.2.2.2.2.2.2.2.2.2.2.2.2.2.2.2.1 p0 (g0 X hX)
theorem go_ifnullN {L : Nat} {xs : Nat → Int32} : rl_ifnullN L xs (Go L xs) := by
  intro m pc nx lk a b z ls st h nc ns Q off p0 g0 X hX
  exact hX.2.2.2.2.2.2.2.2.2.2.2.2.2.2.2.2.2.2.2.2.2.1 p0 (g0 X hX)
theorem go_ifnn {L : Nat} {xs : Nat → Int32} : rl_ifnn L xs (Go L xs) := by
  intro m pc nx lk a b z ls st h nc ns Q off r p0 g0 X hX
  exact hX.2.2.2.2.2.2.2.2.2.2.2.2.2.2.2.2.2.2.2.2.2.2.1 p0 (g0 X hX)
theorem go_ifnnN {L : Nat} {xs : Nat → Int32} : rl_ifnnN L xs (Go L xs) := by
  intro m pc nx lk a b z ls st h nc ns Q off p0 g0 X hX
  exact hX.2.2.2.2.2.2.2.2.2.2.2.2.2.2.2.2.2.2.2.2.2.2.2.1 p0 (g0 X hX)
theorem go_tabO {L : Nat} {xs : Nat → Int32} : rl_tabO L xs (Go L xs) := by
  intro m pc nx lk a b z ls st h nc ns Q d lo hi offs x t p0 p1 p2 g0 X hX
  exact hX.2.2.2.2.2.2.2.2.2.2.2.2.2.2.2.2.2.2.2.2.2.2.2.2.1 p0 p1 p2 (g0 X hX)
theorem go_tabI {L : Nat} {xs : Nat → Int32} : rl_tabI L xs (Go L xs) := by
  intro m pc nx lk a b z ls st h nc ns Q d lo hi off offs x t p0 p1 p2 p3 p4 g0 X hX
  exact hX.2.2.2.2.2.2.2.2.2.2.2.2.2.2.2.2.2.2.2.2.2.2.2.2.2.1 p0 p1 p2 p3 p4 (g0 X hX)
theorem go_get {L : Nat} {xs : Nat → Int32} : rl_get L xs (Go L xs) := by
  intro m pc nx lk a b z ls st h nc ns Q idx r p0 p1 g0 X hX
  exact hX.2.2.2.2.2.2.2.2.2.2.2.2.2.2.2.2.2.2.2.2.2.2.2.2.2.2.1 p0 p1 (g0 X hX)
theorem go_puti {L : Nat} {xs : Nat → Int32} : rl_puti L xs (Go L xs) := by
  intro m pc nx lk a b z ls st h nc ns Q idx r x p0 p1 p2 p3 p4 g0 X hX
  exact hX.2.2.2.2.2.2.2.2.2.2.2.2.2.2.2.2.2.2.2.2.2.2.2.2.2.2.2.1 p0 p1 p2 p3 p4 (g0 X hX)
theorem go_putl {L : Nat} {xs : Nat → Int32} : rl_putl L xs (Go L xs) := by
  intro m pc nx lk a b z ls st h nc ns Q idx r x p0 p1 p2 p3 g0 X hX
  exact hX.2.2.2.2.2.2.2.2.2.2.2.2.2.2.2.2.2.2.2.2.2.2.2.2.2.2.2.2.1 p0 p1 p2 p3 (g0 X hX)
theorem go_putr {L : Nat} {xs : Nat → Int32} : rl_putr L xs (Go L xs) := by
  intro m pc nx lk a b z ls st h nc ns Q q idx r w p0 p1 p2 p3 p4 p5 p6 g0 X hX
  exact hX.2.2.2.2.2.2.2.2.2.2.2.2.2.2.2.2.2.2.2.2.2.2.2.2.2.2.2.2.2.1 p0 p1 p2 p3 p4 p5 p6 (g0 X hX)
theorem go_iald {L : Nat} {xs : Nat → Int32} : rl_iald L xs (Go L xs) := by
  intro m pc nx lk a b z ls st h nc ns Q r n i p0 p1 p2 g0 X hX
  exact hX.2.2.2.2.2.2.2.2.2.2.2.2.2.2.2.2.2.2.2.2.2.2.2.2.2.2.2.2.2.2.1 p0 p1 p2 (g0 X hX)
theorem go_lald {L : Nat} {xs : Nat → Int32} : rl_lald L xs (Go L xs) := by
  intro m pc nx lk a b z ls st h nc ns Q r n i p0 p1 p2 g0 X hX
  exact hX.2.2.2.2.2.2.2.2.2.2.2.2.2.2.2.2.2.2.2.2.2.2.2.2.2.2.2.2.2.2.2.1 p0 p1 p2 (g0 X hX)
theorem go_zald {L : Nat} {xs : Nat → Int32} : rl_zald L xs (Go L xs) := by
  intro m pc nx lk a b z ls st h nc ns Q r n i p0 p1 p2 g0 X hX
  exact hX.2.2.2.2.2.2.2.2.2.2.2.2.2.2.2.2.2.2.2.2.2.2.2.2.2.2.2.2.2.2.2.2.1 p0 p1 p2 (g0 X hX)
theorem go_aald {L : Nat} {xs : Nat → Int32} : rl_aald L xs (Go L xs) := by
  intro m pc nx lk a b z ls st h nc ns Q r n j i p0 p1 p2 p3 g0 X hX
  exact hX.2.2.2.2.2.2.2.2.2.2.2.2.2.2.2.2.2.2.2.2.2.2.2.2.2.2.2.2.2.2.2.2.2.1 p0 p1 p2 p3 (g0 X hX)
theorem go_iast {L : Nat} {xs : Nat → Int32} : rl_iast L xs (Go L xs) := by
  intro m pc nx lk a b z ls st h nc ns Q r n i x p0 p1 p2 g0 X hX
  exact hX.2.2.2.2.2.2.2.2.2.2.2.2.2.2.2.2.2.2.2.2.2.2.2.2.2.2.2.2.2.2.2.2.2.2.1 p0 p1 p2 (g0 X hX)
theorem go_last {L : Nat} {xs : Nat → Int32} : rl_last L xs (Go L xs) := by
  intro m pc nx lk a b z ls st h nc ns Q r n i x p0 p1 p2 g0 X hX
  exact hX.2.2.2.2.2.2.2.2.2.2.2.2.2.2.2.2.2.2.2.2.2.2.2.2.2.2.2.2.2.2.2.2.2.2.2.1 p0 p1 p2 (g0 X hX)
theorem go_zast {L : Nat} {xs : Nat → Int32} : rl_zast L xs (Go L xs) := by
  intro m pc nx lk a b z ls st h nc ns Q r n i x p0 p1 p2 p3 g0 X hX
  exact hX.2.2.2.2.2.2.2.2.2.2.2.2.2.2.2.2.2.2.2.2.2.2.2.2.2.2.2.2.2.2.2.2.2.2.2.2.1 p0 p1 p2 p3 (g0 X hX)
theorem go_aast {L : Nat} {xs : Nat → Int32} : rl_aast L xs (Go L xs) := by
  intro m pc nx lk a b z ls st h nc ns Q r n j w i p0 p1 p2 p3 p4 g0 X hX
  exact hX.2.2.2.2.2.2.2.2.2.2.2.2.2.2.2.2.2.2.2.2.2.2.2.2.2.2.2.2.2.2.2.2.2.2.2.2.2.1 p0 p1 p2 p3 p4 (g0 X hX)
theorem go_alen {L : Nat} {xs : Nat → Int32} : rl_alen L xs (Go L xs) := by
  intro m pc nx lk a b z ls st h nc ns Q r n p0 p1 g0 X hX
  exact hX.2.2.2.2.2.2.2.2.2.2.2.2.2.2.2.2.2.2.2.2.2.2.2.2.2.2.2.2.2.2.2.2.2.2.2.2.2.2.1 p0 p1 (g0 X hX)
theorem go_sld {L : Nat} {xs : Nat → Int32} : rl_sld L xs (Go L xs) := by
  intro m pc nx lk a b z ls st h nc ns Q t i p0 p1 g0 X hX
  exact hX.2.2.2.2.2.2.2.2.2.2.2.2.2.2.2.2.2.2.2.2.2.2.2.2.2.2.2.2.2.2.2.2.2.2.2.2.2.2.2.1 p0 p1 (g0 X hX)
theorem go_slen {L : Nat} {xs : Nat → Int32} : rl_slen L xs (Go L xs) := by
  intro m pc nx lk a b z ls st h nc ns Q t p0 g0 X hX
  exact hX.2.2.2.2.2.2.2.2.2.2.2.2.2.2.2.2.2.2.2.2.2.2.2.2.2.2.2.2.2.2.2.2.2.2.2.2.2.2.2.2.1 p0 (g0 X hX)
theorem go_new {L : Nat} {xs : Nat → Int32} : rl_new L xs (Go L xs) := by
  intro m pc nx lk a b z ls st h nc ns Q q idx cw p0 p1 p2 p3 p4 g0 X hX
  exact hX.2.2.2.2.2.2.2.2.2.2.2.2.2.2.2.2.2.2.2.2.2.2.2.2.2.2.2.2.2.2.2.2.2.2.2.2.2.2.2.2.2.1 p0 p1 p2 p3 p4 (g0 X hX)
theorem go_newa {L : Nat} {xs : Nat → Int32} : rl_newa L xs (Go L xs) := by
  intro m pc nx lk a b z ls st h nc ns Q q t n N kd p0 p1 p2 p3 p4 p5 p6 p7 g0 X hX
  exact hX.2.2.2.2.2.2.2.2.2.2.2.2.2.2.2.2.2.2.2.2.2.2.2.2.2.2.2.2.2.2.2.2.2.2.2.2.2.2.2.2.2.2.1 p0 p1 p2 p3 p4 p5 p6 p7 (g0 X hX)
theorem go_anew {L : Nat} {xs : Nat → Int32} : rl_anew L xs (Go L xs) := by
  intro m pc nx lk a b z ls st h nc ns Q q idx n N p0 p1 p2 p3 p4 p5 p6 g0 X hX
  exact hX.2.2.2.2.2.2.2.2.2.2.2.2.2.2.2.2.2.2.2.2.2.2.2.2.2.2.2.2.2.2.2.2.2.2.2.2.2.2.2.2.2.2.2.1 p0 p1 p2 p3 p4 p5 p6 (g0 X hX)
theorem go_cV {L : Nat} {xs : Nat → Int32} : rl_cV L xs (Go L xs) := by
  intro m pc nx lk a b z ls st h nc ns Q q q2 idx r vs rest R p0 p1 p2 p3 p4 p5 p6 p7 p8 p9 g0 g1 X hX
  exact hX.2.2.2.2.2.2.2.2.2.2.2.2.2.2.2.2.2.2.2.2.2.2.2.2.2.2.2.2.2.2.2.2.2.2.2.2.2.2.2.2.2.2.2.2.1 p0 p1 p2 p3 p4 p5 p6 p7 p8 p9 (g0 X hX) (fun v h2 r => g1 v h2 r X hX)
theorem go_cS {L : Nat} {xs : Nat → Int32} : rl_cS L xs (Go L xs) := by
  intro m pc nx lk a b z ls st h nc ns Q q q2 idx vs rest R p0 p1 p2 p3 p4 p5 p6 p7 p8 p9 g0 g1 X hX
  exact hX.2.2.2.2.2.2.2.2.2.2.2.2.2.2.2.2.2.2.2.2.2.2.2.2.2.2.2.2.2.2.2.2.2.2.2.2.2.2.2.2.2.2.2.2.2.1 p0 p1 p2 p3 p4 p5 p6 p7 p8 p9 (g0 X hX) (fun v h2 r => g1 v h2 r X hX)
theorem go_cI {L : Nat} {xs : Nat → Int32} : rl_cI L xs (Go L xs) := by
  intro m pc nx lk a b z ls st h nc ns Q q q2 idx r vs rest R p0 p1 p2 p3 p4 p5 p6 p7 p8 p9 g0 g1 X hX
  exact hX.2.2.2.2.2.2.2.2.2.2.2.2.2.2.2.2.2.2.2.2.2.2.2.2.2.2.2.2.2.2.2.2.2.2.2.2.2.2.2.2.2.2.2.2.2.2.1 p0 p1 p2 p3 p4 p5 p6 p7 p8 p9 (g0 X hX) (fun v h2 r => g1 v h2 r X hX)
theorem go_obj {L : Nat} {xs : Nat → Int32} : rl_obj L xs (Go L xs) := by
  intro m pc nx lk a b z ls st h nc ns Q idx r p0 p1 p2 g0 X hX
  exact hX.2.2.2.2.2.2.2.2.2.2.2.2.2.2.2.2.2.2.2.2.2.2.2.2.2.2.2.2.2.2.2.2.2.2.2.2.2.2.2.2.2.2.2.2.2.2.2.1 p0 p1 p2 (g0 X hX)
theorem go_cpi {L : Nat} {xs : Nat → Int32} : rl_cpi L xs (Go L xs) := by
  intro m pc nx lk a b z ls st h nc ns Q idx r w n1 n2 sp dp n p0 p1 p2 p3 p4 p5 p6 p7 p8 p9 g0 X hX
  exact hX.2.2.2.2.2.2.2.2.2.2.2.2.2.2.2.2.2.2.2.2.2.2.2.2.2.2.2.2.2.2.2.2.2.2.2.2.2.2.2.2.2.2.2.2.2.2.2.2.1 p0 p1 p2 p3 p4 p5 p6 p7 p8 p9 (g0 X hX)
theorem go_cpl {L : Nat} {xs : Nat → Int32} : rl_cpl L xs (Go L xs) := by
  intro m pc nx lk a b z ls st h nc ns Q idx r w n1 n2 sp dp n p0 p1 p2 p3 p4 p5 p6 p7 p8 p9 g0 X hX
  exact hX.2.2.2.2.2.2.2.2.2.2.2.2.2.2.2.2.2.2.2.2.2.2.2.2.2.2.2.2.2.2.2.2.2.2.2.2.2.2.2.2.2.2.2.2.2.2.2.2.2.1 p0 p1 p2 p3 p4 p5 p6 p7 p8 p9 (g0 X hX)
theorem go_mmin {L : Nat} {xs : Nat → Int32} : rl_mmin L xs (Go L xs) := by
  intro m pc nx lk a b z ls st h nc ns Q idx q x y p0 p1 p2 p3 p4 p5 g0 X hX
  exact hX.2.2.2.2.2.2.2.2.2.2.2.2.2.2.2.2.2.2.2.2.2.2.2.2.2.2.2.2.2.2.2.2.2.2.2.2.2.2.2.2.2.2.2.2.2.2.2.2.2.2.1 p0 p1 p2 p3 p4 p5 (g0 X hX)
theorem go_mabs {L : Nat} {xs : Nat → Int32} : rl_mabs L xs (Go L xs) := by
  intro m pc nx lk a b z ls st h nc ns Q idx q x p0 p1 p2 p3 p4 p5 g0 X hX
  exact hX.2.2.2.2.2.2.2.2.2.2.2.2.2.2.2.2.2.2.2.2.2.2.2.2.2.2.2.2.2.2.2.2.2.2.2.2.2.2.2.2.2.2.2.2.2.2.2.2.2.2.2.1 p0 p1 p2 p3 p4 p5 (g0 X hX)
theorem go_drop {L : Nat} {xs : Nat → Int32} : rl_drop L xs (Go L xs) := by
  intro m pc ls st h nc ns Q ks  g0 X hX
  exact hX.2.2.2.2.2.2.2.2.2.2.2.2.2.2.2.2.2.2.2.2.2.2.2.2.2.2.2.2.2.2.2.2.2.2.2.2.2.2.2.2.2.2.2.2.2.2.2.2.2.2.2.2.1  (g0 X hX)
theorem go_iret {L : Nat} {xs : Nat → Int32} : rl_iret L xs (Go L xs) := by
  intro m pc nx lk a b z ls h nc ns Q q ty x p0 p1 p2 p3 p4 p5 p6  X hX
  exact hX.2.2.2.2.2.2.2.2.2.2.2.2.2.2.2.2.2.2.2.2.2.2.2.2.2.2.2.2.2.2.2.2.2.2.2.2.2.2.2.2.2.2.2.2.2.2.2.2.2.2.2.2.2.1 p0 p1 p2 p3 p4 p5 p6 
theorem go_lret {L : Nat} {xs : Nat → Int32} : rl_lret L xs (Go L xs) := by
  intro m pc nx lk a b z ls h nc ns Q q x p0 p1 p2 p3 p4 p5  X hX
  exact hX.2.2.2.2.2.2.2.2.2.2.2.2.2.2.2.2.2.2.2.2.2.2.2.2.2.2.2.2.2.2.2.2.2.2.2.2.2.2.2.2.2.2.2.2.2.2.2.2.2.2.2.2.2.2.1 p0 p1 p2 p3 p4 p5 
theorem go_aret {L : Nat} {xs : Nat → Int32} : rl_aret L xs (Go L xs) := by
  intro m pc nx lk a b z ls h nc ns Q q n v p0 p1 p2 p3 p4 p5 p6  X hX
  exact hX.2.2.2.2.2.2.2.2.2.2.2.2.2.2.2.2.2.2.2.2.2.2.2.2.2.2.2.2.2.2.2.2.2.2.2.2.2.2.2.2.2.2.2.2.2.2.2.2.2.2.2.2.2.2.2.1 p0 p1 p2 p3 p4 p5 p6 
theorem go_ret {L : Nat} {xs : Nat → Int32} : rl_ret L xs (Go L xs) := by
  intro m pc nx lk a b z ls h nc ns Q q p0 p1 p2 p3 p4 p5  X hX
  exact hX.2.2.2.2.2.2.2.2.2.2.2.2.2.2.2.2.2.2.2.2.2.2.2.2.2.2.2.2.2.2.2.2.2.2.2.2.2.2.2.2.2.2.2.2.2.2.2.2.2.2.2.2.2.2.2.2 p0 p1 p2 p3 p4 p5 
