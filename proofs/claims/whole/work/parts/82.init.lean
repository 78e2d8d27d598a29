/-! the constructors -/
def gcI : List (Nat × Nat × Int32) → Mi
  | [] => fun _ _ => 0
  | e :: t => va_up (gcI t) e.1 (va_up (gcI t e.1) e.2.1 e.2.2)
def gcR : List (Nat × Nat × Nat) → Nat → Nat → Option Nat
  | [] => fun _ _ => none
  | e :: t => va_up (gcR t) e.1 (va_up (gcR t e.1) e.2.1 (some e.2.2))
def zL : Ml := fun _ _ => 0
theorem frIg {n : Nat} : ∀ {t : List (Nat × Nat × Int32)}, (t.all fun e => Nat.blt e.1 n) = true → ∀ c, n ≤ c → gcI t c = fun _ => 0
  | [], _, _, _ => rfl
  | e :: t, h, c, hc => by
    rw [List.all_cons, Bool.and_eq_true] at h
    have h1 : e.1 < n := Nat.le_of_ble_eq_true h.1
    rw [gcI, gm_upN (by omega)]
    exact frIg h.2 c hc
theorem frRg {n : Nat} : ∀ {t : List (Nat × Nat × Nat)}, (t.all fun e => Nat.blt e.1 n) = true → ∀ c, n ≤ c → gcR t c = fun _ => none
  | [], _, _, _ => rfl
  | e :: t, h, c, hc => by
    rw [List.all_cons, Bool.and_eq_true] at h
    have h1 : e.1 < n := Nat.le_of_ble_eq_true h.1
    rw [gcR, gm_upN (by omega)]
    exact frRg h.2 c hc
theorem frI {n : Nat} {t : List (Nat × Nat × Int32)} (h : (t.all fun e => Nat.blt e.1 n) = true) : gcI t n = fun _ => 0 := frIg h n (Nat.le_refl n)
theorem frR {n : Nat} {t : List (Nat × Nat × Nat)} (h : (t.all fun e => Nat.blt e.1 n) = true) : gcR t n = fun _ => none := frRg h n (Nat.le_refl n)
theorem al_id {α : Type} {f : Nat → α} {n : Nat} {v : α} (h : f n = v) : va_up f n v = f := by rw [← h]; exact up_id f n
theorem tkS {n : Nat} {x : Nat × Nat} (h : SH[n]? = some x) : SH.take n ++ [x] = SH.take (n + 1) := by rw [List.take_add_one, h]; rfl
theorem tkL {n : Nat} {x : Nat × Nat} (h : SH[n]? = some x) : (SH.take n).length = n := by
  rw [List.length_take]
  have := (List.getElem?_eq_some_iff.mp h).1
  omega
theorem tkG {n r : Nat} {x : Nat × Nat} (h : SH[r]? = some x) (hr : Nat.blt r n = true) : (SH.take n)[r]? = some x := by
  rw [List.getElem?_take, if_pos (show r < n from Nat.le_of_ble_eq_true hr)]; exact h
section GW
variable {L : Nat} {xs : Nat → Int32} {m pc nx lk a b : Nat} {z : Int} {ls : gm_L} {st : List Value} {nc ns n n' : Nat} {Q : Value → gm_H → Prop} {ti : List (Nat × Nat × Int32)} {tr : List (Nat × Nat × Nat)} {q : gm_M}
theorem gw_st1 {ins : Instr} {h : gm_H} (f : gm_fetch m pc = some (nx, ins, lk, a, b, z)) {v : Value} {k : Nat} {ls' : gm_L} (hv : gm_sti ins = some (gm_kd v, k)) (h1 : Nat.beq (gm_kd v) 1 = false) (hk : Nat.blt k ls.length = true) (he : gm_s1 ls k v = ls') (g : Go L xs m nx ls' st h nc ns Q) : Go L xs m pc ls (v :: st) h nc ns Q := go_st1 f hv (fun hz => by rw [hz] at h1; cases h1) (Nat.le_of_ble_eq_true hk) (he ▸ g)
theorem gw_inc {k : Nat} {d : Int} {h : gm_H} (f : gm_fetch m pc = some (nx, .iinc k d, lk, a, b, z)) {x y : Int32} {ls' : gm_L} (hk : ls[k]? = some (some (.int x))) (hy : x + Int32.ofInt d = y) (he : gm_s1 ls k (.int y) = ls') (g : Go L xs m nx ls' st h nc ns Q) : Go L xs m pc ls st h nc ns Q := go_inc f hk (by rw [hy, he]; exact g)
theorem gw_new {idx : Nat} {cw : vw_C} (f : gm_fetch m pc = some (nx, .new idx, lk, a, b, z)) (hq : gm_PT[m]? = some q) (hc : gm_cl[a]? = some cw) (h1 : Nat.ble (nc + 1) q.2.2.2.2.2.2.2.2.1 = true) (h2 : Nat.ble (ns + cw.2.2) q.2.2.2.2.2.2.2.2.2.1 = true) (hs : SH[n]? = some (0, a)) (hn : n + 1 = n') (hi : gcI ti n = fun _ => 0) (hr : gcR tr n = fun _ => none) (g : Go L xs m nx ls (.ref n :: st) (SH.take n', gcI ti, zL, gcR tr) (nc + 1) (ns + cw.2.2) Q) : Go L xs m pc ls st (SH.take n, gcI ti, zL, gcR tr) nc ns Q := by
  refine go_new f hq hc (Nat.le_of_ble_eq_true h1) (Nat.le_of_ble_eq_true h2) ?_
  show Go L xs m nx ls (.ref (SH.take n).length :: st) (SH.take n ++ [(0, a)], va_up (gcI ti) (SH.take n).length (fun _ => 0), va_up zL (SH.take n).length (fun _ => 0), va_up (gcR tr) (SH.take n).length (fun _ => none)) _ _ _
  rw [tkL hs, tkS hs, al_id hi, al_id hr, al_id (show zL n = fun _ => 0 from rfl), hn]
  exact g
theorem gw_newa {t : ArrayType} {x : Int32} {N kd : Nat} (f : gm_fetch m pc = some (nx, .newarray t, lk, a, b, z)) (hq : gm_PT[m]? = some q) (hk : gm_ak t = some kd) (h0 : ¬ x < 0) (hN : x.toNatClampNeg = N) (hN2 : Nat.ble N 100000 = true) (h1 : Nat.ble (nc + 1) q.2.2.2.2.2.2.2.2.1 = true) (h2 : Nat.ble (ns + N) q.2.2.2.2.2.2.2.2.2.1 = true) (hs : SH[n]? = some (kd, N)) (hn : n + 1 = n') (hi : gcI ti n = fun _ => 0) (hr : gcR tr n = fun _ => none) (g : Go L xs m nx ls (.ref n :: st) (SH.take n', gcI ti, zL, gcR tr) (nc + 1) (ns + N) Q) : Go L xs m pc ls (.int x :: st) (SH.take n, gcI ti, zL, gcR tr) nc ns Q := by
  refine go_newa f hq hk h0 hN (Nat.le_of_ble_eq_true hN2) (Nat.le_of_ble_eq_true h1) (Nat.le_of_ble_eq_true h2) ?_
  show Go L xs m nx ls (.ref (SH.take n).length :: st) (SH.take n ++ [(kd, N)], va_up (gcI ti) (SH.take n).length (fun _ => 0), va_up zL (SH.take n).length (fun _ => 0), va_up (gcR tr) (SH.take n).length (fun _ => none)) _ _ _
  rw [tkL hs, tkS hs, al_id hi, al_id hr, al_id (show zL n = fun _ => 0 from rfl), hn]
  exact g
theorem gw_anew {idx : Nat} {x : Int32} {N : Nat} (f : gm_fetch m pc = some (nx, .anewarray idx, lk, a, b, z)) (hq : gm_PT[m]? = some q) (h0 : ¬ x < 0) (hN : x.toNatClampNeg = N) (hN2 : Nat.ble N 100000 = true) (h1 : Nat.ble (nc + 1) q.2.2.2.2.2.2.2.2.1 = true) (h2 : Nat.ble (ns + N) q.2.2.2.2.2.2.2.2.2.1 = true) (hs : SH[n]? = some (a + 4, N)) (hn : n + 1 = n') (hi : gcI ti n = fun _ => 0) (hr : gcR tr n = fun _ => none) (g : Go L xs m nx ls (.ref n :: st) (SH.take n', gcI ti, zL, gcR tr) (nc + 1) (ns + N) Q) : Go L xs m pc ls (.int x :: st) (SH.take n, gcI ti, zL, gcR tr) nc ns Q := by
  refine go_anew f hq h0 hN (Nat.le_of_ble_eq_true hN2) (Nat.le_of_ble_eq_true h1) (Nat.le_of_ble_eq_true h2) ?_
  show Go L xs m nx ls (.ref (SH.take n).length :: st) (SH.take n ++ [(a + 4, N)], va_up (gcI ti) (SH.take n).length (fun _ => 0), va_up zL (SH.take n).length (fun _ => 0), va_up (gcR tr) (SH.take n).length (fun _ => none)) _ _ _
  rw [tkL hs, tkS hs, al_id hi, al_id hr, al_id (show zL n = fun _ => 0 from rfl), hn]
  exact g
theorem gw_puti {idx r : Nat} {x : Int32} (f : gm_fetch m pc = some (nx, .putfield idx, lk, a, b, z)) (hr : SH[r]? = some (0, a)) (hl : Nat.blt r n = true) (hf : gm_ft a b = 0) (hn : gm_fin a b = false) (hb : gm_ty a b = .boolean → x = 0 ∨ x = 1) (g : Go L xs m nx ls st (SH.take n, gcI ((r, b, x) :: ti), zL, gcR tr) nc ns Q) : Go L xs m pc ls (.int x :: .ref r :: st) (SH.take n, gcI ti, zL, gcR tr) nc ns Q := go_puti f (tkG hr hl) hf hn hb g
theorem gw_putr {idx r w : Nat} (f : gm_fetch m pc = some (nx, .putfield idx, lk, a, b, z)) (hr : SH[r]? = some (0, a)) (hl : Nat.blt r n = true) (hf : gm_ft a b = 2) (hn : gm_fin a b = true) (hq : gm_PT[m]? = some q) (hi : q.1.name = "<init>") (ho : q.2.2.2.2.1 = a) (g : Go L xs m nx ls st (SH.take n, gcI ti, zL, gcR ((r, b, w) :: tr)) nc ns Q) : Go L xs m pc ls (.ref w :: .ref r :: st) (SH.take n, gcI ti, zL, gcR tr) nc ns Q := go_putr f (tkG hr hl) hf hn hq hi ho g
theorem gw_getr {idx r w : Nat} (f : gm_fetch m pc = some (nx, .getfield idx, lk, a, b, z)) (hr : SH[r]? = some (0, a)) (hl : Nat.blt r n = true) (hf : gm_ft a b = 2) (hw : gcR tr r b = some w) (g : Go L xs m nx ls (.ref w :: st) (SH.take n, gcI ti, zL, gcR tr) nc ns Q) : Go L xs m pc ls (.ref r :: st) (SH.take n, gcI ti, zL, gcR tr) nc ns Q := go_get f (tkG hr hl) (by rw [gm_fvR hf]; show Go L xs m nx ls (gm_ov (gcR tr r b) :: st) _ _ _ _; rw [hw]; exact g)
theorem gw_aast {r N j w k : Nat} {i : Int32} (f : gm_fetch m pc = some (nx, .aastore, lk, a, b, z)) (hr : SH[r]? = some (j + 4, N)) (hl : Nat.blt r n = true) (hi : vp_in i N) (hk : i.toNatClampNeg = k) (hw : SH[w]? = some (0, j)) (hl2 : Nat.blt w n = true) (hj : j = 2 ∨ j = 5) (g : Go L xs m nx ls st (SH.take n, gcI ti, zL, gcR ((r, k, w) :: tr)) nc ns Q) : Go L xs m pc ls (.ref w :: .int i :: .ref r :: st) (SH.take n, gcI ti, zL, gcR tr) nc ns Q := by
  subst hk
  exact go_aast f (tkG hr hl) hi (tkG hw hl2) hj g
theorem gw_iast {r N k : Nat} {i x : Int32} (f : gm_fetch m pc = some (nx, .iastore, lk, a, b, z)) (hr : SH[r]? = some (1, N)) (hl : Nat.blt r n = true) (hi : vp_in i N) (hk : i.toNatClampNeg = k) (g : Go L xs m nx ls st (SH.take n, gcI ((r, k, x) :: ti), zL, gcR tr) nc ns Q) : Go L xs m pc ls (.int x :: .int i :: .ref r :: st) (SH.take n, gcI ti, zL, gcR tr) nc ns Q := by
  subst hk
  exact go_iast f (tkG hr hl) hi g
theorem gw_cI {idx r : Nat} {h : gm_H} {vs rest : List Value} {q2 : gm_M} {en : gm_L} (f : gm_fetch m pc = some (nx, .invokespecial idx, lk, a, b, z)) (hb : ¬ b = 3) (hst : st = vs.reverse ++ .ref r :: rest) (hq2 : gm_PT[a]? = some q2) (hq : gm_PT[m]? = some q) (hlen : vs.length = q2.2.2.2.2.2.1) (hsl : Nat.ble (gm_sl (.ref r :: vs)).length q2.2.2.1 = true) (hcat : Nat.ble (rest.map fun v => v.category).sum 8 = true) (h1 : Nat.ble (nc + q2.2.2.2.2.2.2.2.2.1) q.2.2.2.2.2.2.2.2.1 = true) (h2 : Nat.ble (ns + q2.2.2.2.2.2.2.2.2.2.1) q.2.2.2.2.2.2.2.2.2.1 = true) (hen : gm_ent q2.2.2.1 (.ref r :: vs) = en) (hv : q2.2.2.2.1 = none)
    (g : Go L xs a 0 en [] h 0 0 (fun _ h2 => Go L xs m nx ls rest h2 (nc + q2.2.2.2.2.2.2.2.2.1) (ns + q2.2.2.2.2.2.2.2.2.2.1) Q)) : Go L xs m pc ls st h nc ns Q := by
  subst hen
  refine go_cI f hb hst hq2 hq hlen (Nat.le_of_ble_eq_true hsl) (Nat.le_of_ble_eq_true hcat) (Nat.le_of_ble_eq_true h1) (Nat.le_of_ble_eq_true h2) g (fun v h2 hR => ?_)
  rw [hv]
  exact hR
/-- a laying -/
theorem gi24 {r : Nat} (hY : isY r) (hi : ∀ c, r + 1 ≤ c → gcI ti c = fun _ => 0) (hr : ∀ c, r + 1 ≤ c → gcR tr c = fun _ => none) (h : Q .null (SH.take (r + 2), gcI ti, zL, gcR ((r, 4, r + 1) :: tr))) : Go L xs 24 0 [some (.ref r)] [] (SH.take (r + 1), gcI ti, zL, gcR tr) 0 0 Q := by
  have l1 : Nat.blt r (r + 1 + 1) = true := Nat.ble_eq_true_of_le (by omega)
  refine go_ld f24_0 (v := .ref r) rfl rfl ?_
  refine go_obj f24_1 rfl (Nat.le_of_ble_eq_true rfl) ?_
  refine go_ld f24_4 (v := .ref r) rfl rfl ?_
  refine go_psh f24_5 (v := .int 7) (by decide) ?_
  refine gw_newa f24_7 pq24 rfl (N := 7) (n' := r + 1 + 1) (by decide) (by decide) rfl rfl rfl hY.2.2 rfl (hi _ (Nat.le_refl _)) (hr _ (Nat.le_refl _)) ?_
  refine gw_putr f24_9 hY.1 l1 rfl rfl pq24 rfl rfl ?_
  exact go_ret f24_12 pq24 rfl (Nat.le_of_ble_eq_true rfl) (Nat.le_of_ble_eq_true rfl) h
/-- a sheet -/
theorem gi65 {r : Nat} (hY : isS r) (hi : ∀ c, r + 1 ≤ c → gcI ti c = fun _ => 0) (hr : ∀ c, r + 1 ≤ c → gcR tr c = fun _ => none) (h : Q .null (SH.take (r + 2), gcI ((r, 0, 1) :: ti), zL, gcR ((r, 3, r + 1) :: tr))) : Go L xs 65 0 [some (.ref r)] [] (SH.take (r + 1), gcI ti, zL, gcR tr) 0 0 Q := by
  have l0 : Nat.blt r (r + 1) = true := Nat.ble_eq_true_of_le (by omega)
  have l1 : Nat.blt r (r + 1 + 1) = true := Nat.ble_eq_true_of_le (by omega)
  refine go_ld f65_0 (v := .ref r) rfl rfl ?_
  refine go_obj f65_1 rfl (Nat.le_of_ble_eq_true rfl) ?_
  refine go_ld f65_4 (v := .ref r) rfl rfl ?_
  refine go_psh f65_5 (v := .int 1) (by decide) ?_
  refine gw_puti f65_6 hY.1 l0 rfl rfl (fun _ => by decide) ?_
  refine go_ld f65_9 (v := .ref r) rfl rfl ?_
  refine go_psh f65_10 (v := .int 60) (by decide) ?_
  refine gw_newa f65_12 pq65 rfl (N := 60) (n' := r + 1 + 1) (by decide) (by decide) rfl rfl rfl hY.2.2 rfl ?_ (hr _ (Nat.le_refl _)) ?_
  · show va_up (gcI ti) r _ (r + 1) = _
    rw [gm_upN (by omega)]; exact hi _ (Nat.le_refl _)
  refine gw_putr f65_14 hY.1 l1 rfl rfl pq65 rfl rfl ?_
  exact go_ret f65_17 pq65 rfl (Nat.le_of_ble_eq_true rfl) (Nat.le_of_ble_eq_true rfl) h
/-- a table of seats -/
theorem gi55 {r : Nat} (hY : isT r) (hi : ∀ c, r + 1 ≤ c → gcI ti c = fun _ => 0) (hr : ∀ c, r + 1 ≤ c → gcR tr c = fun _ => none) (h : Q .null (SH.take (r + 4), gcI ti, zL, gcR ((r, 3, r + 3) :: (r, 2, r + 2) :: (r, 1, r + 1) :: tr))) : Go L xs 55 0 [some (.ref r)] [] (SH.take (r + 1), gcI ti, zL, gcR tr) 0 0 Q := by
  have l1 : Nat.blt r (r + 1 + 1) = true := Nat.ble_eq_true_of_le (by omega)
  have l2 : Nat.blt r (r + 2 + 1) = true := Nat.ble_eq_true_of_le (by omega)
  have l3 : Nat.blt r (r + 3 + 1) = true := Nat.ble_eq_true_of_le (by omega)
  refine go_ld f55_0 (v := .ref r) rfl rfl ?_
  refine go_obj f55_1 rfl (Nat.le_of_ble_eq_true rfl) ?_
  refine go_ld f55_4 (v := .ref r) rfl rfl ?_
  refine go_psh f55_5 (v := .int 35) (by decide) ?_
  refine gw_newa f55_7 pq55 rfl (n := r + 1) (N := 35) (n' := r + 1 + 1) (by decide) (by decide) rfl rfl rfl hY.2.2.2.2.1 rfl (hi _ (Nat.le_refl _)) (hr _ (Nat.le_refl _)) ?_
  refine gw_putr f55_9 hY.1 l1 rfl rfl pq55 rfl rfl ?_
  refine go_ld f55_12 (v := .ref r) rfl rfl ?_
  refine go_psh f55_13 (v := .int 245) (by decide) ?_
  refine gw_newa f55_16 pq55 rfl (n := r + 2) (N := 245) (n' := r + 2 + 1) (by decide) (by decide) rfl rfl rfl hY.2.2.2.2.2.1 rfl (hi _ (by omega)) ?_ ?_
  · show va_up (gcR tr) r _ (r + 2) = _
    rw [gm_upN (by omega)]; exact hr _ (by omega)
  refine gw_putr f55_18 hY.1 l2 rfl rfl pq55 rfl rfl ?_
  refine go_ld f55_21 (v := .ref r) rfl rfl ?_
  refine go_psh f55_22 (v := .int 35) (by decide) ?_
  refine gw_newa f55_24 pq55 rfl (n := r + 3) (N := 35) (n' := r + 3 + 1) (by decide) (by decide) rfl rfl rfl hY.2.2.2.2.2.2 rfl (hi _ (by omega)) ?_ ?_
  · show va_up (va_up (gcR tr) r _) r _ (r + 3) = _
    rw [gm_upN (by omega), gm_upN (by omega)]; exact hr _ (by omega)
  refine gw_putr f55_26 hY.1 l3 rfl rfl pq55 rfl rfl ?_
  exact go_ret f55_29 pq55 rfl (Nat.le_of_ble_eq_true rfl) (Nat.le_of_ble_eq_true rfl) h
end GW
set_option maxRecDepth 20000 in
set_option maxHeartbeats 4000000 in
theorem gi0 {L : Nat} {xs : Nat → Int32} {Q : Value → gm_H → Prop} (h : Q .null (SH.take 3, gcI [(1, 5, 1), (1, 4, 4), (1, 3, 1), (1, 2, 4), (1, 1, 6), (1, 0, 5)], zL, gcR [(1, 6, 2)])) : Go L xs 0 0 [some (.ref 1)] [] (SH.take 2, gcI [], zL, gcR []) 0 0 Q := by
  refine go_ld f0_0 (v := .ref 1) rfl rfl ?_
  refine go_obj f0_1 rfl (Nat.le_of_ble_eq_true rfl) ?_
  refine go_ld f0_4 (v := .ref 1) rfl rfl ?_
  refine go_psh f0_5 (v := .int 5) (by decide) ?_
  refine gw_puti f0_6 rfl rfl rfl rfl (fun hz => by cases hz) ?_
  refine go_ld f0_9 (v := .ref 1) rfl rfl ?_
  refine go_psh f0_10 (v := .int 6) (by decide) ?_
  refine gw_puti f0_12 rfl rfl rfl rfl (fun hz => by cases hz) ?_
  refine go_ld f0_15 (v := .ref 1) rfl rfl ?_
  refine go_psh f0_16 (v := .int 4) (by decide) ?_
  refine gw_puti f0_17 rfl rfl rfl rfl (fun hz => by cases hz) ?_
  refine go_ld f0_20 (v := .ref 1) rfl rfl ?_
  refine go_psh f0_21 (v := .int 1) (by decide) ?_
  refine gw_puti f0_22 rfl rfl rfl rfl (fun hz => by cases hz) ?_
  refine go_ld f0_25 (v := .ref 1) rfl rfl ?_
  refine go_psh f0_26 (v := .int 4) (by decide) ?_
  refine gw_puti f0_27 rfl rfl rfl rfl (fun hz => by cases hz) ?_
  refine go_ld f0_30 (v := .ref 1) rfl rfl ?_
  refine go_psh f0_31 (v := .int 1) (by decide) ?_
  refine gw_puti f0_32 rfl rfl rfl rfl (fun hz => by cases hz) ?_
  refine go_ld f0_35 (v := .ref 1) rfl rfl ?_
  refine go_psh f0_36 (v := .int 7) (by decide) ?_
  refine gw_newa f0_38 pq0 rfl (N := 7) (n' := 3) (by decide) (by decide) rfl rfl rfl rfl rfl (frI rfl) (frR rfl) ?_
  refine gw_putr f0_40 rfl rfl rfl rfl pq0 rfl rfl ?_
  exact go_ret f0_43 pq0 rfl (Nat.le_of_ble_eq_true rfl) (Nat.le_of_ble_eq_true rfl) h
set_option maxRecDepth 20000 in
set_option maxHeartbeats 4000000 in
theorem gi32 {L : Nat} {xs : Nat → Int32} {Q : Value → gm_H → Prop} (h : Q .null (SH.take 18, gcI [(1, 5, 1), (1, 4, 4), (1, 3, 1), (1, 2, 4), (1, 1, 6), (1, 0, 5)], zL, gcR [(3, 0, 1), (3, 8, 17), (3, 7, 16), (3, 6, 15), (3, 5, 14), (3, 4, 13), (3, 3, 9), (9, 3, 12), (9, 2, 11), (9, 1, 10), (3, 2, 8), (3, 1, 4), (4, 3, 7), (4, 2, 6), (4, 1, 5), (0, 0, 1), (1, 6, 2)])) : Go L xs 32 0 [some (.ref 3), some (.ref 1)] [] (SH.take 4, gcI [(1, 5, 1), (1, 4, 4), (1, 3, 1), (1, 2, 4), (1, 1, 6), (1, 0, 5)], zL, gcR [(0, 0, 1), (1, 6, 2)]) 0 0 Q := by
  refine go_ld f32_0 (v := .ref 3) rfl rfl ?_
  refine go_obj f32_1 rfl (Nat.le_of_ble_eq_true rfl) ?_
  refine go_ld f32_4 (v := .ref 3) rfl rfl ?_
  refine gw_new f32_5 pq32 (n' := 5) (cw := _) rfl rfl rfl rfl rfl (frI rfl) (frR rfl) ?_
  refine go_dup f32_8 rfl ?_
  refine gw_cI f32_9 (by decide) (vs := []) (r := 4) (rest := [.ref 4, .ref 3]) (en := [some (.ref 4)]) rfl pq55 pq32 rfl rfl rfl rfl rfl rfl rfl (gi55 (r := 4) ⟨rfl, rfl, rfl, rfl, rfl, rfl, rfl⟩ (fun c hc => frIg rfl c hc) (fun c hc => frRg rfl c hc) ?_)
  refine gw_putr f32_12 rfl rfl rfl rfl pq32 rfl rfl ?_
  refine go_ld f32_15 (v := .ref 3) rfl rfl ?_
  refine go_psh f32_16 (v := .int 7) (by decide) ?_
  refine gw_newa f32_18 pq32 rfl (N := 7) (n' := 9) (by decide) (by decide) rfl rfl rfl rfl rfl (frI rfl) (frR rfl) ?_
  refine gw_putr f32_20 rfl rfl rfl rfl pq32 rfl rfl ?_
  refine go_ld f32_23 (v := .ref 3) rfl rfl ?_
  refine gw_new f32_24 pq32 (n' := 10) (cw := _) rfl rfl rfl rfl rfl (frI rfl) (frR rfl) ?_
  refine go_dup f32_27 rfl ?_
  refine gw_cI f32_28 (by decide) (vs := []) (r := 9) (rest := [.ref 9, .ref 3]) (en := [some (.ref 9)]) rfl pq55 pq32 rfl rfl rfl rfl rfl rfl rfl (gi55 (r := 9) ⟨rfl, rfl, rfl, rfl, rfl, rfl, rfl⟩ (fun c hc => frIg rfl c hc) (fun c hc => frRg rfl c hc) ?_)
  refine gw_putr f32_31 rfl rfl rfl rfl pq32 rfl rfl ?_
  refine go_ld f32_34 (v := .ref 3) rfl rfl ?_
  refine go_psh f32_35 (v := .int 7) (by decide) ?_
  refine gw_newa f32_37 pq32 rfl (N := 7) (n' := 14) (by decide) (by decide) rfl rfl rfl rfl rfl (frI rfl) (frR rfl) ?_
  refine gw_putr f32_39 rfl rfl rfl rfl pq32 rfl rfl ?_
  refine go_ld f32_42 (v := .ref 3) rfl rfl ?_
  refine go_psh f32_43 (v := .int 7) (by decide) ?_
  refine gw_newa f32_45 pq32 rfl (N := 7) (n' := 15) (by decide) (by decide) rfl rfl rfl rfl rfl (frI rfl) (frR rfl) ?_
  refine gw_putr f32_47 rfl rfl rfl rfl pq32 rfl rfl ?_
  refine go_ld f32_50 (v := .ref 3) rfl rfl ?_
  refine go_psh f32_51 (v := .int 7) (by decide) ?_
  refine gw_newa f32_53 pq32 rfl (N := 7) (n' := 16) (by decide) (by decide) rfl rfl rfl rfl rfl (frI rfl) (frR rfl) ?_
  refine gw_putr f32_55 rfl rfl rfl rfl pq32 rfl rfl ?_
  refine go_ld f32_58 (v := .ref 3) rfl rfl ?_
  refine go_psh f32_59 (v := .int 245) (by decide) ?_
  refine gw_newa f32_62 pq32 rfl (N := 245) (n' := 17) (by decide) (by decide) rfl rfl rfl rfl rfl (frI rfl) (frR rfl) ?_
  refine gw_putr f32_64 rfl rfl rfl rfl pq32 rfl rfl ?_
  refine go_ld f32_67 (v := .ref 3) rfl rfl ?_
  refine go_psh f32_68 (v := .int 7) (by decide) ?_
  refine gw_newa f32_70 pq32 rfl (N := 7) (n' := 18) (by decide) (by decide) rfl rfl rfl rfl rfl (frI rfl) (frR rfl) ?_
  refine gw_putr f32_72 rfl rfl rfl rfl pq32 rfl rfl ?_
  refine go_ld f32_75 (v := .ref 3) rfl rfl ?_
  refine go_ld f32_76 (v := .ref 1) rfl rfl ?_
  refine gw_putr f32_77 rfl rfl rfl rfl pq32 rfl rfl ?_
  exact go_ret f32_80 pq32 rfl (Nat.le_of_ble_eq_true rfl) (Nat.le_of_ble_eq_true rfl) h
set_option maxRecDepth 20000 in
set_option maxHeartbeats 4000000 in
theorem gi12 {L : Nat} {xs : Nat → Int32} {Q : Value → gm_H → Prop} (h : Q .null (SH.take 23, gcI [(1, 5, 1), (1, 4, 4), (1, 3, 1), (1, 2, 4), (1, 1, 6), (1, 0, 5)], zL, gcR [(18, 0, 1), (18, 4, 22), (18, 3, 21), (18, 2, 20), (18, 1, 19), (0, 1, 3), (3, 0, 1), (3, 8, 17), (3, 7, 16), (3, 6, 15), (3, 5, 14), (3, 4, 13), (3, 3, 9), (9, 3, 12), (9, 2, 11), (9, 1, 10), (3, 2, 8), (3, 1, 4), (4, 3, 7), (4, 2, 6), (4, 1, 5), (0, 0, 1), (1, 6, 2)])) : Go L xs 12 0 [some (.ref 18), some (.ref 1)] [] (SH.take 19, gcI [(1, 5, 1), (1, 4, 4), (1, 3, 1), (1, 2, 4), (1, 1, 6), (1, 0, 5)], zL, gcR [(0, 1, 3), (3, 0, 1), (3, 8, 17), (3, 7, 16), (3, 6, 15), (3, 5, 14), (3, 4, 13), (3, 3, 9), (9, 3, 12), (9, 2, 11), (9, 1, 10), (3, 2, 8), (3, 1, 4), (4, 3, 7), (4, 2, 6), (4, 1, 5), (0, 0, 1), (1, 6, 2)]) 0 0 Q := by
  refine go_ld f12_0 (v := .ref 18) rfl rfl ?_
  refine go_obj f12_1 rfl (Nat.le_of_ble_eq_true rfl) ?_
  refine go_ld f12_4 (v := .ref 18) rfl rfl ?_
  refine go_psh f12_5 (v := .int 81) (by decide) ?_
  refine gw_newa f12_7 pq12 rfl (N := 81) (n' := 20) (by decide) (by decide) rfl rfl rfl rfl rfl (frI rfl) (frR rfl) ?_
  refine gw_putr f12_9 rfl rfl rfl rfl pq12 rfl rfl ?_
  refine go_ld f12_12 (v := .ref 18) rfl rfl ?_
  refine go_psh f12_13 (v := .int 81) (by decide) ?_
  refine gw_newa f12_15 pq12 rfl (N := 81) (n' := 21) (by decide) (by decide) rfl rfl rfl rfl rfl (frI rfl) (frR rfl) ?_
  refine gw_putr f12_17 rfl rfl rfl rfl pq12 rfl rfl ?_
  refine go_ld f12_20 (v := .ref 18) rfl rfl ?_
  refine go_psh f12_21 (v := .int 162) (by decide) ?_
  refine gw_newa f12_24 pq12 rfl (N := 162) (n' := 22) (by decide) (by decide) rfl rfl rfl rfl rfl (frI rfl) (frR rfl) ?_
  refine gw_putr f12_26 rfl rfl rfl rfl pq12 rfl rfl ?_
  refine go_ld f12_29 (v := .ref 18) rfl rfl ?_
  refine go_psh f12_30 (v := .int 162) (by decide) ?_
  refine gw_newa f12_33 pq12 rfl (N := 162) (n' := 23) (by decide) (by decide) rfl rfl rfl rfl rfl (frI rfl) (frR rfl) ?_
  refine gw_putr f12_35 rfl rfl rfl rfl pq12 rfl rfl ?_
  refine go_ld f12_38 (v := .ref 18) rfl rfl ?_
  refine go_ld f12_39 (v := .ref 1) rfl rfl ?_
  refine gw_putr f12_40 rfl rfl rfl rfl pq12 rfl rfl ?_
  exact go_ret f12_43 pq12 rfl (Nat.le_of_ble_eq_true rfl) (Nat.le_of_ble_eq_true rfl) h
set_option maxRecDepth 20000 in
set_option maxHeartbeats 4000000 in
theorem gi70 {L : Nat} {xs : Nat → Int32} {Q : Value → gm_H → Prop} (h : Q .null (SH.take 47, gcI [(45, 0, 1), (43, 0, 1), (41, 0, 1), (39, 0, 1), (1, 5, 1), (1, 4, 4), (1, 3, 1), (1, 2, 4), (1, 1, 6), (1, 0, 5)], zL, gcR [(26, 3, 45), (45, 3, 46), (26, 2, 43), (43, 3, 44), (26, 1, 41), (41, 3, 42), (26, 0, 39), (39, 3, 40), (25, 5, 37), (37, 4, 38), (25, 4, 35), (35, 4, 36), (25, 3, 33), (33, 4, 34), (25, 2, 31), (31, 4, 32), (25, 1, 29), (29, 4, 30), (25, 0, 27), (27, 4, 28), (0, 5, 26), (0, 4, 25), (0, 3, 23), (23, 4, 24), (0, 2, 18), (18, 0, 1), (18, 4, 22), (18, 3, 21), (18, 2, 20), (18, 1, 19), (0, 1, 3), (3, 0, 1), (3, 8, 17), (3, 7, 16), (3, 6, 15), (3, 5, 14), (3, 4, 13), (3, 3, 9), (9, 3, 12), (9, 2, 11), (9, 1, 10), (3, 2, 8), (3, 1, 4), (4, 3, 7), (4, 2, 6), (4, 1, 5), (0, 0, 1), (1, 6, 2)])) : Go L xs 70 0 [some (.ref 0), none] [] (SH.take 1, gcI [], zL, gcR []) 0 0 Q := by
  refine go_ld f70_0 (v := .ref 0) rfl rfl ?_
  refine go_obj f70_1 rfl (Nat.le_of_ble_eq_true rfl) ?_
  refine go_ld f70_4 (v := .ref 0) rfl rfl ?_
  refine gw_new f70_5 pq70 (n' := 2) (cw := _) rfl rfl rfl rfl rfl (frI rfl) (frR rfl) ?_
  refine go_dup f70_8 rfl ?_
  refine gw_cI f70_9 (by decide) (vs := []) (r := 1) (rest := [.ref 1, .ref 0]) (en := [some (.ref 1)]) rfl pq0 pq70 rfl rfl rfl rfl rfl rfl rfl (gi0 ?_)
  refine gw_putr f70_12 rfl rfl rfl rfl pq70 rfl rfl ?_
  refine go_ld f70_15 (v := .ref 0) rfl rfl ?_
  refine gw_new f70_16 pq70 (n' := 4) (cw := _) rfl rfl rfl rfl rfl (frI rfl) (frR rfl) ?_
  refine go_dup f70_19 rfl ?_
  refine go_ld f70_20 (v := .ref 0) rfl rfl ?_
  refine gw_getr f70_21 rfl rfl rfl (w := 1) rfl ?_
  refine gw_cI f70_24 (by decide) (vs := [.ref 1]) (r := 3) (rest := [.ref 3, .ref 0]) (en := [some (.ref 3), some (.ref 1)]) rfl pq32 pq70 rfl rfl rfl rfl rfl rfl rfl (gi32 ?_)
  refine gw_putr f70_27 rfl rfl rfl rfl pq70 rfl rfl ?_
  refine go_ld f70_30 (v := .ref 0) rfl rfl ?_
  refine gw_new f70_31 pq70 (n' := 19) (cw := _) rfl rfl rfl rfl rfl (frI rfl) (frR rfl) ?_
  refine go_dup f70_34 rfl ?_
  refine go_ld f70_35 (v := .ref 0) rfl rfl ?_
  refine gw_getr f70_36 rfl rfl rfl (w := 1) rfl ?_
  refine gw_cI f70_39 (by decide) (vs := [.ref 1]) (r := 18) (rest := [.ref 18, .ref 0]) (en := [some (.ref 18), some (.ref 1)]) rfl pq12 pq70 rfl rfl rfl rfl rfl rfl rfl (gi12 ?_)
  refine gw_putr f70_42 rfl rfl rfl rfl pq70 rfl rfl ?_
  refine go_ld f70_45 (v := .ref 0) rfl rfl ?_
  refine gw_new f70_46 pq70 (n' := 24) (cw := _) rfl rfl rfl rfl rfl (frI rfl) (frR rfl) ?_
  refine go_dup f70_49 rfl ?_
  refine gw_cI f70_50 (by decide) (vs := []) (r := 23) (rest := [.ref 23, .ref 0]) (en := [some (.ref 23)]) rfl pq24 pq70 rfl rfl rfl rfl rfl rfl rfl (gi24 (r := 23) ⟨rfl, rfl, rfl⟩ (fun c hc => frIg rfl c hc) (fun c hc => frRg rfl c hc) ?_)
  refine gw_putr f70_53 rfl rfl rfl rfl pq70 rfl rfl ?_
  refine go_ld f70_56 (v := .ref 0) rfl rfl ?_
  refine go_psh f70_57 (v := .int 6) (by decide) ?_
  refine gw_anew f70_59 pq70 (N := 6) (n' := 26) (by decide) (by decide) rfl rfl rfl rfl rfl (frI rfl) (frR rfl) ?_
  refine gw_putr f70_62 rfl rfl rfl rfl pq70 rfl rfl ?_
  refine go_ld f70_65 (v := .ref 0) rfl rfl ?_
  refine go_psh f70_66 (v := .int 4) (by decide) ?_
  refine gw_anew f70_67 pq70 (N := 4) (n' := 27) (by decide) (by decide) rfl rfl rfl rfl rfl (frI rfl) (frR rfl) ?_
  refine gw_putr f70_70 rfl rfl rfl rfl pq70 rfl rfl ?_
  refine go_psh f70_73 (v := .int 0) (by decide) ?_
  refine gw_st1 f70_74 (ls' := [some (.ref 0), some (.int 0)]) rfl rfl rfl rfl ?_
  refine go_ld f70_75 (v := .int 0) rfl rfl ?_
  refine go_psh f70_76 (v := .int 6) (by decide) ?_
  refine go_icmp f70_78 (fun c => absurd c (show ¬ (6 : Int32) ≤ 0 by decide)) (fun _ => ?_)
  refine go_ld f70_81 (v := .ref 0) rfl rfl ?_
  refine gw_getr f70_82 rfl rfl rfl (w := 25) rfl ?_
  refine go_ld f70_85 (v := .int 0) rfl rfl ?_
  refine gw_new f70_86 pq70 (n' := 28) (cw := _) rfl rfl rfl rfl rfl (frI rfl) (frR rfl) ?_
  refine go_dup f70_89 rfl ?_
  refine gw_cI f70_90 (by decide) (vs := []) (r := 27) (rest := [.ref 27, .int 0, .ref 25]) (en := [some (.ref 27)]) rfl pq24 pq70 rfl rfl rfl rfl rfl rfl rfl (gi24 (r := 27) ⟨rfl, rfl, rfl⟩ (fun c hc => frIg rfl c hc) (fun c hc => frRg rfl c hc) ?_)
  refine gw_aast f70_93 (j := 2) (k := 0) rfl rfl (by unfold vp_in; decide) (by decide) rfl rfl (by decide) ?_
  refine gw_inc f70_94 (y := 1) (ls' := [some (.ref 0), some (.int 1)]) rfl (by decide) rfl ?_
  refine go_goto f70_97 ?_
  refine go_ld f70_75 (v := .int 1) rfl rfl ?_
  refine go_psh f70_76 (v := .int 6) (by decide) ?_
  refine go_icmp f70_78 (fun c => absurd c (show ¬ (6 : Int32) ≤ 1 by decide)) (fun _ => ?_)
  refine go_ld f70_81 (v := .ref 0) rfl rfl ?_
  refine gw_getr f70_82 rfl rfl rfl (w := 25) rfl ?_
  refine go_ld f70_85 (v := .int 1) rfl rfl ?_
  refine gw_new f70_86 pq70 (n' := 30) (cw := _) rfl rfl rfl rfl rfl (frI rfl) (frR rfl) ?_
  refine go_dup f70_89 rfl ?_
  refine gw_cI f70_90 (by decide) (vs := []) (r := 29) (rest := [.ref 29, .int 1, .ref 25]) (en := [some (.ref 29)]) rfl pq24 pq70 rfl rfl rfl rfl rfl rfl rfl (gi24 (r := 29) ⟨rfl, rfl, rfl⟩ (fun c hc => frIg rfl c hc) (fun c hc => frRg rfl c hc) ?_)
  refine gw_aast f70_93 (j := 2) (k := 1) rfl rfl (by unfold vp_in; decide) (by decide) rfl rfl (by decide) ?_
  refine gw_inc f70_94 (y := 2) (ls' := [some (.ref 0), some (.int 2)]) rfl (by decide) rfl ?_
  refine go_goto f70_97 ?_
  refine go_ld f70_75 (v := .int 2) rfl rfl ?_
  refine go_psh f70_76 (v := .int 6) (by decide) ?_
  refine go_icmp f70_78 (fun c => absurd c (show ¬ (6 : Int32) ≤ 2 by decide)) (fun _ => ?_)
  refine go_ld f70_81 (v := .ref 0) rfl rfl ?_
  refine gw_getr f70_82 rfl rfl rfl (w := 25) rfl ?_
  refine go_ld f70_85 (v := .int 2) rfl rfl ?_
  refine gw_new f70_86 pq70 (n' := 32) (cw := _) rfl rfl rfl rfl rfl (frI rfl) (frR rfl) ?_
  refine go_dup f70_89 rfl ?_
  refine gw_cI f70_90 (by decide) (vs := []) (r := 31) (rest := [.ref 31, .int 2, .ref 25]) (en := [some (.ref 31)]) rfl pq24 pq70 rfl rfl rfl rfl rfl rfl rfl (gi24 (r := 31) ⟨rfl, rfl, rfl⟩ (fun c hc => frIg rfl c hc) (fun c hc => frRg rfl c hc) ?_)
  refine gw_aast f70_93 (j := 2) (k := 2) rfl rfl (by unfold vp_in; decide) (by decide) rfl rfl (by decide) ?_
  refine gw_inc f70_94 (y := 3) (ls' := [some (.ref 0), some (.int 3)]) rfl (by decide) rfl ?_
  refine go_goto f70_97 ?_
  refine go_ld f70_75 (v := .int 3) rfl rfl ?_
  refine go_psh f70_76 (v := .int 6) (by decide) ?_
  refine go_icmp f70_78 (fun c => absurd c (show ¬ (6 : Int32) ≤ 3 by decide)) (fun _ => ?_)
  refine go_ld f70_81 (v := .ref 0) rfl rfl ?_
  refine gw_getr f70_82 rfl rfl rfl (w := 25) rfl ?_
  refine go_ld f70_85 (v := .int 3) rfl rfl ?_
  refine gw_new f70_86 pq70 (n' := 34) (cw := _) rfl rfl rfl rfl rfl (frI rfl) (frR rfl) ?_
  refine go_dup f70_89 rfl ?_
  refine gw_cI f70_90 (by decide) (vs := []) (r := 33) (rest := [.ref 33, .int 3, .ref 25]) (en := [some (.ref 33)]) rfl pq24 pq70 rfl rfl rfl rfl rfl rfl rfl (gi24 (r := 33) ⟨rfl, rfl, rfl⟩ (fun c hc => frIg rfl c hc) (fun c hc => frRg rfl c hc) ?_)
  refine gw_aast f70_93 (j := 2) (k := 3) rfl rfl (by unfold vp_in; decide) (by decide) rfl rfl (by decide) ?_
  refine gw_inc f70_94 (y := 4) (ls' := [some (.ref 0), some (.int 4)]) rfl (by decide) rfl ?_
  refine go_goto f70_97 ?_
  refine go_ld f70_75 (v := .int 4) rfl rfl ?_
  refine go_psh f70_76 (v := .int 6) (by decide) ?_
  refine go_icmp f70_78 (fun c => absurd c (show ¬ (6 : Int32) ≤ 4 by decide)) (fun _ => ?_)
  refine go_ld f70_81 (v := .ref 0) rfl rfl ?_
  refine gw_getr f70_82 rfl rfl rfl (w := 25) rfl ?_
  refine go_ld f70_85 (v := .int 4) rfl rfl ?_
  refine gw_new f70_86 pq70 (n' := 36) (cw := _) rfl rfl rfl rfl rfl (frI rfl) (frR rfl) ?_
  refine go_dup f70_89 rfl ?_
  refine gw_cI f70_90 (by decide) (vs := []) (r := 35) (rest := [.ref 35, .int 4, .ref 25]) (en := [some (.ref 35)]) rfl pq24 pq70 rfl rfl rfl rfl rfl rfl rfl (gi24 (r := 35) ⟨rfl, rfl, rfl⟩ (fun c hc => frIg rfl c hc) (fun c hc => frRg rfl c hc) ?_)
  refine gw_aast f70_93 (j := 2) (k := 4) rfl rfl (by unfold vp_in; decide) (by decide) rfl rfl (by decide) ?_
  refine gw_inc f70_94 (y := 5) (ls' := [some (.ref 0), some (.int 5)]) rfl (by decide) rfl ?_
  refine go_goto f70_97 ?_
  refine go_ld f70_75 (v := .int 5) rfl rfl ?_
  refine go_psh f70_76 (v := .int 6) (by decide) ?_
  refine go_icmp f70_78 (fun c => absurd c (show ¬ (6 : Int32) ≤ 5 by decide)) (fun _ => ?_)
  refine go_ld f70_81 (v := .ref 0) rfl rfl ?_
  refine gw_getr f70_82 rfl rfl rfl (w := 25) rfl ?_
  refine go_ld f70_85 (v := .int 5) rfl rfl ?_
  refine gw_new f70_86 pq70 (n' := 38) (cw := _) rfl rfl rfl rfl rfl (frI rfl) (frR rfl) ?_
  refine go_dup f70_89 rfl ?_
  refine gw_cI f70_90 (by decide) (vs := []) (r := 37) (rest := [.ref 37, .int 5, .ref 25]) (en := [some (.ref 37)]) rfl pq24 pq70 rfl rfl rfl rfl rfl rfl rfl (gi24 (r := 37) ⟨rfl, rfl, rfl⟩ (fun c hc => frIg rfl c hc) (fun c hc => frRg rfl c hc) ?_)
  refine gw_aast f70_93 (j := 2) (k := 5) rfl rfl (by unfold vp_in; decide) (by decide) rfl rfl (by decide) ?_
  refine gw_inc f70_94 (y := 6) (ls' := [some (.ref 0), some (.int 6)]) rfl (by decide) rfl ?_
  refine go_goto f70_97 ?_
  refine go_ld f70_75 (v := .int 6) rfl rfl ?_
  refine go_psh f70_76 (v := .int 6) (by decide) ?_
  refine go_icmp f70_78 (fun _ => ?_) (fun c => absurd (show (6 : Int32) ≤ 6 by decide) c)
  refine go_psh f70_100 (v := .int 0) (by decide) ?_
  refine gw_st1 f70_101 (ls' := [some (.ref 0), some (.int 0)]) rfl rfl rfl rfl ?_
  refine go_ld f70_102 (v := .int 0) rfl rfl ?_
  refine go_psh f70_103 (v := .int 4) (by decide) ?_
  refine go_icmp f70_104 (fun c => absurd c (show ¬ (4 : Int32) ≤ 0 by decide)) (fun _ => ?_)
  refine go_ld f70_107 (v := .ref 0) rfl rfl ?_
  refine gw_getr f70_108 rfl rfl rfl (w := 26) rfl ?_
  refine go_ld f70_111 (v := .int 0) rfl rfl ?_
  refine gw_new f70_112 pq70 (n' := 40) (cw := _) rfl rfl rfl rfl rfl (frI rfl) (frR rfl) ?_
  refine go_dup f70_115 rfl ?_
  refine gw_cI f70_116 (by decide) (vs := []) (r := 39) (rest := [.ref 39, .int 0, .ref 26]) (en := [some (.ref 39)]) rfl pq65 pq70 rfl rfl rfl rfl rfl rfl rfl (gi65 (r := 39) ⟨rfl, rfl, rfl⟩ (fun c hc => frIg rfl c hc) (fun c hc => frRg rfl c hc) ?_)
  refine gw_aast f70_119 (j := 5) (k := 0) rfl rfl (by unfold vp_in; decide) (by decide) rfl rfl (by decide) ?_
  refine gw_inc f70_120 (y := 1) (ls' := [some (.ref 0), some (.int 1)]) rfl (by decide) rfl ?_
  refine go_goto f70_123 ?_
  refine go_ld f70_102 (v := .int 1) rfl rfl ?_
  refine go_psh f70_103 (v := .int 4) (by decide) ?_
  refine go_icmp f70_104 (fun c => absurd c (show ¬ (4 : Int32) ≤ 1 by decide)) (fun _ => ?_)
  refine go_ld f70_107 (v := .ref 0) rfl rfl ?_
  refine gw_getr f70_108 rfl rfl rfl (w := 26) rfl ?_
  refine go_ld f70_111 (v := .int 1) rfl rfl ?_
  refine gw_new f70_112 pq70 (n' := 42) (cw := _) rfl rfl rfl rfl rfl (frI rfl) (frR rfl) ?_
  refine go_dup f70_115 rfl ?_
  refine gw_cI f70_116 (by decide) (vs := []) (r := 41) (rest := [.ref 41, .int 1, .ref 26]) (en := [some (.ref 41)]) rfl pq65 pq70 rfl rfl rfl rfl rfl rfl rfl (gi65 (r := 41) ⟨rfl, rfl, rfl⟩ (fun c hc => frIg rfl c hc) (fun c hc => frRg rfl c hc) ?_)
  refine gw_aast f70_119 (j := 5) (k := 1) rfl rfl (by unfold vp_in; decide) (by decide) rfl rfl (by decide) ?_
  refine gw_inc f70_120 (y := 2) (ls' := [some (.ref 0), some (.int 2)]) rfl (by decide) rfl ?_
  refine go_goto f70_123 ?_
  refine go_ld f70_102 (v := .int 2) rfl rfl ?_
  refine go_psh f70_103 (v := .int 4) (by decide) ?_
  refine go_icmp f70_104 (fun c => absurd c (show ¬ (4 : Int32) ≤ 2 by decide)) (fun _ => ?_)
  refine go_ld f70_107 (v := .ref 0) rfl rfl ?_
  refine gw_getr f70_108 rfl rfl rfl (w := 26) rfl ?_
  refine go_ld f70_111 (v := .int 2) rfl rfl ?_
  refine gw_new f70_112 pq70 (n' := 44) (cw := _) rfl rfl rfl rfl rfl (frI rfl) (frR rfl) ?_
  refine go_dup f70_115 rfl ?_
  refine gw_cI f70_116 (by decide) (vs := []) (r := 43) (rest := [.ref 43, .int 2, .ref 26]) (en := [some (.ref 43)]) rfl pq65 pq70 rfl rfl rfl rfl rfl rfl rfl (gi65 (r := 43) ⟨rfl, rfl, rfl⟩ (fun c hc => frIg rfl c hc) (fun c hc => frRg rfl c hc) ?_)
  refine gw_aast f70_119 (j := 5) (k := 2) rfl rfl (by unfold vp_in; decide) (by decide) rfl rfl (by decide) ?_
  refine gw_inc f70_120 (y := 3) (ls' := [some (.ref 0), some (.int 3)]) rfl (by decide) rfl ?_
  refine go_goto f70_123 ?_
  refine go_ld f70_102 (v := .int 3) rfl rfl ?_
  refine go_psh f70_103 (v := .int 4) (by decide) ?_
  refine go_icmp f70_104 (fun c => absurd c (show ¬ (4 : Int32) ≤ 3 by decide)) (fun _ => ?_)
  refine go_ld f70_107 (v := .ref 0) rfl rfl ?_
  refine gw_getr f70_108 rfl rfl rfl (w := 26) rfl ?_
  refine go_ld f70_111 (v := .int 3) rfl rfl ?_
  refine gw_new f70_112 pq70 (n' := 46) (cw := _) rfl rfl rfl rfl rfl (frI rfl) (frR rfl) ?_
  refine go_dup f70_115 rfl ?_
  refine gw_cI f70_116 (by decide) (vs := []) (r := 45) (rest := [.ref 45, .int 3, .ref 26]) (en := [some (.ref 45)]) rfl pq65 pq70 rfl rfl rfl rfl rfl rfl rfl (gi65 (r := 45) ⟨rfl, rfl, rfl⟩ (fun c hc => frIg rfl c hc) (fun c hc => frRg rfl c hc) ?_)
  refine gw_aast f70_119 (j := 5) (k := 3) rfl rfl (by unfold vp_in; decide) (by decide) rfl rfl (by decide) ?_
  refine gw_inc f70_120 (y := 4) (ls' := [some (.ref 0), some (.int 4)]) rfl (by decide) rfl ?_
  refine go_goto f70_123 ?_
  refine go_ld f70_102 (v := .int 4) rfl rfl ?_
  refine go_psh f70_103 (v := .int 4) (by decide) ?_
  refine go_icmp f70_104 (fun _ => ?_) (fun c => absurd (show (4 : Int32) ≤ 4 by decide) c)
  exact go_ret f70_126 pq70 rfl (Nat.le_of_ble_eq_true rfl) (Nat.le_of_ble_eq_true rfl) h
set_option maxRecDepth 20000 in
set_option maxHeartbeats 4000000 in
theorem gi113 {L : Nat} {xs : Nat → Int32} {Q : Value → gm_H → Prop} (h : Q .null (SH.take 70, gcI [(47, 9, 4), (47, 8, 1), (47, 7, 4), (47, 6, 6), (47, 5, 5), (48, 3, (-1)), (48, 2, (-1)), (48, 1, (-1)), (48, 0, (-1)), (45, 0, 1), (43, 0, 1), (41, 0, 1), (39, 0, 1), (1, 5, 1), (1, 4, 4), (1, 3, 1), (1, 2, 4), (1, 1, 6), (1, 0, 5)], zL, gcR [(47, 32, 69), (47, 31, 68), (47, 30, 67), (47, 29, 66), (47, 26, 65), (47, 25, 64), (47, 24, 63), (47, 23, 62), (47, 22, 61), (47, 21, 60), (47, 20, 59), (47, 19, 58), (47, 17, 57), (47, 16, 56), (47, 15, 55), (47, 14, 54), (47, 12, 53), (47, 10, 52), (47, 3, 51), (47, 2, 50), (47, 1, 49), (47, 0, 48), (26, 3, 45), (45, 3, 46), (26, 2, 43), (43, 3, 44), (26, 1, 41), (41, 3, 42), (26, 0, 39), (39, 3, 40), (25, 5, 37), (37, 4, 38), (25, 4, 35), (35, 4, 36), (25, 3, 33), (33, 4, 34), (25, 2, 31), (31, 4, 32), (25, 1, 29), (29, 4, 30), (25, 0, 27), (27, 4, 28), (0, 5, 26), (0, 4, 25), (0, 3, 23), (23, 4, 24), (0, 2, 18), (18, 0, 1), (18, 4, 22), (18, 3, 21), (18, 2, 20), (18, 1, 19), (0, 1, 3), (3, 0, 1), (3, 8, 17), (3, 7, 16), (3, 6, 15), (3, 5, 14), (3, 4, 13), (3, 3, 9), (9, 3, 12), (9, 2, 11), (9, 1, 10), (3, 2, 8), (3, 1, 4), (4, 3, 7), (4, 2, 6), (4, 1, 5), (0, 0, 1), (1, 6, 2)])) : Go L xs 113 0 [some (.ref 47), none] [] (SH.take 48, gcI [(45, 0, 1), (43, 0, 1), (41, 0, 1), (39, 0, 1), (1, 5, 1), (1, 4, 4), (1, 3, 1), (1, 2, 4), (1, 1, 6), (1, 0, 5)], zL, gcR [(26, 3, 45), (45, 3, 46), (26, 2, 43), (43, 3, 44), (26, 1, 41), (41, 3, 42), (26, 0, 39), (39, 3, 40), (25, 5, 37), (37, 4, 38), (25, 4, 35), (35, 4, 36), (25, 3, 33), (33, 4, 34), (25, 2, 31), (31, 4, 32), (25, 1, 29), (29, 4, 30), (25, 0, 27), (27, 4, 28), (0, 5, 26), (0, 4, 25), (0, 3, 23), (23, 4, 24), (0, 2, 18), (18, 0, 1), (18, 4, 22), (18, 3, 21), (18, 2, 20), (18, 1, 19), (0, 1, 3), (3, 0, 1), (3, 8, 17), (3, 7, 16), (3, 6, 15), (3, 5, 14), (3, 4, 13), (3, 3, 9), (9, 3, 12), (9, 2, 11), (9, 1, 10), (3, 2, 8), (3, 1, 4), (4, 3, 7), (4, 2, 6), (4, 1, 5), (0, 0, 1), (1, 6, 2)]) 0 0 Q := by
  refine go_ld f113_0 (v := .ref 47) rfl rfl ?_
  refine go_obj f113_1 rfl (Nat.le_of_ble_eq_true rfl) ?_
  refine go_ld f113_4 (v := .ref 47) rfl rfl ?_
  refine go_psh f113_5 (v := .int 4) (by decide) ?_
  refine gw_newa f113_6 pq113 rfl (N := 4) (n' := 49) (by decide) (by decide) rfl rfl rfl rfl rfl (frI rfl) (frR rfl) ?_
  refine gw_putr f113_8 rfl rfl rfl rfl pq113 rfl rfl ?_
  refine go_ld f113_11 (v := .ref 47) rfl rfl ?_
  refine go_psh f113_12 (v := .int 4) (by decide) ?_
  refine gw_newa f113_13 pq113 rfl (N := 4) (n' := 50) (by decide) (by decide) rfl rfl rfl rfl rfl (frI rfl) (frR rfl) ?_
  refine gw_putr f113_15 rfl rfl rfl rfl pq113 rfl rfl ?_
  refine go_ld f113_18 (v := .ref 47) rfl rfl ?_
  refine go_psh f113_19 (v := .int 240) (by decide) ?_
  refine gw_newa f113_22 pq113 rfl (N := 240) (n' := 51) (by decide) (by decide) rfl rfl rfl rfl rfl (frI rfl) (frR rfl) ?_
  refine gw_putr f113_24 rfl rfl rfl rfl pq113 rfl rfl ?_
  refine go_ld f113_27 (v := .ref 47) rfl rfl ?_
  refine go_psh f113_28 (v := .int 60) (by decide) ?_
  refine gw_newa f113_30 pq113 rfl (N := 60) (n' := 52) (by decide) (by decide) rfl rfl rfl rfl rfl (frI rfl) (frR rfl) ?_
  refine gw_putr f113_32 rfl rfl rfl rfl pq113 rfl rfl ?_
  refine go_ld f113_35 (v := .ref 47) rfl rfl ?_
  refine go_psh f113_36 (v := .int 7) (by decide) ?_
  refine gw_newa f113_38 pq113 rfl (N := 7) (n' := 53) (by decide) (by decide) rfl rfl rfl rfl rfl (frI rfl) (frR rfl) ?_
  refine gw_putr f113_40 rfl rfl rfl rfl pq113 rfl rfl ?_
  refine go_ld f113_43 (v := .ref 47) rfl rfl ?_
  refine go_psh f113_44 (v := .int 7) (by decide) ?_
  refine gw_newa f113_46 pq113 rfl (N := 7) (n' := 54) (by decide) (by decide) rfl rfl rfl rfl rfl (frI rfl) (frR rfl) ?_
  refine gw_putr f113_48 rfl rfl rfl rfl pq113 rfl rfl ?_
  refine go_ld f113_51 (v := .ref 47) rfl rfl ?_
  refine go_psh f113_52 (v := .int 40) (by decide) ?_
  refine gw_newa f113_54 pq113 rfl (N := 40) (n' := 55) (by decide) (by decide) rfl rfl rfl rfl rfl (frI rfl) (frR rfl) ?_
  refine gw_putr f113_56 rfl rfl rfl rfl pq113 rfl rfl ?_
  refine go_ld f113_59 (v := .ref 47) rfl rfl ?_
  refine go_psh f113_60 (v := .int 280) (by decide) ?_
  refine gw_newa f113_63 pq113 rfl (N := 280) (n' := 56) (by decide) (by decide) rfl rfl rfl rfl rfl (frI rfl) (frR rfl) ?_
  refine gw_putr f113_65 rfl rfl rfl rfl pq113 rfl rfl ?_
  refine go_ld f113_68 (v := .ref 47) rfl rfl ?_
  refine go_psh f113_69 (v := .int 40) (by decide) ?_
  refine gw_newa f113_71 pq113 rfl (N := 40) (n' := 57) (by decide) (by decide) rfl rfl rfl rfl rfl (frI rfl) (frR rfl) ?_
  refine gw_putr f113_73 rfl rfl rfl rfl pq113 rfl rfl ?_
  refine go_ld f113_76 (v := .ref 47) rfl rfl ?_
  refine go_psh f113_77 (v := .int 1600) (by decide) ?_
  refine gw_newa f113_80 pq113 rfl (N := 1600) (n' := 58) (by decide) (by decide) rfl rfl rfl rfl rfl (frI rfl) (frR rfl) ?_
  refine gw_putr f113_82 rfl rfl rfl rfl pq113 rfl rfl ?_
  refine go_ld f113_85 (v := .ref 47) rfl rfl ?_
  refine go_psh f113_86 (v := .int 40) (by decide) ?_
  refine gw_newa f113_88 pq113 rfl (N := 40) (n' := 59) (by decide) (by decide) rfl rfl rfl rfl rfl (frI rfl) (frR rfl) ?_
  refine gw_putr f113_90 rfl rfl rfl rfl pq113 rfl rfl ?_
  refine go_ld f113_93 (v := .ref 47) rfl rfl ?_
  refine go_psh f113_94 (v := .int 40) (by decide) ?_
  refine gw_newa f113_96 pq113 rfl (N := 40) (n' := 60) (by decide) (by decide) rfl rfl rfl rfl rfl (frI rfl) (frR rfl) ?_
  refine gw_putr f113_98 rfl rfl rfl rfl pq113 rfl rfl ?_
  refine go_ld f113_101 (v := .ref 47) rfl rfl ?_
  refine go_psh f113_102 (v := .int 280) (by decide) ?_
  refine gw_newa f113_105 pq113 rfl (N := 280) (n' := 61) (by decide) (by decide) rfl rfl rfl rfl rfl (frI rfl) (frR rfl) ?_
  refine gw_putr f113_107 rfl rfl rfl rfl pq113 rfl rfl ?_
  refine go_ld f113_110 (v := .ref 47) rfl rfl ?_
  refine go_psh f113_111 (v := .int 7) (by decide) ?_
  refine gw_newa f113_113 pq113 rfl (N := 7) (n' := 62) (by decide) (by decide) rfl rfl rfl rfl rfl (frI rfl) (frR rfl) ?_
  refine gw_putr f113_115 rfl rfl rfl rfl pq113 rfl rfl ?_
  refine go_ld f113_118 (v := .ref 47) rfl rfl ?_
  refine go_psh f113_119 (v := .int 49) (by decide) ?_
  refine gw_newa f113_121 pq113 rfl (N := 49) (n' := 63) (by decide) (by decide) rfl rfl rfl rfl rfl (frI rfl) (frR rfl) ?_
  refine gw_putr f113_123 rfl rfl rfl rfl pq113 rfl rfl ?_
  refine go_ld f113_126 (v := .ref 47) rfl rfl ?_
  refine go_psh f113_127 (v := .int 196) (by decide) ?_
  refine gw_newa f113_130 pq113 rfl (N := 196) (n' := 64) (by decide) (by decide) rfl rfl rfl rfl rfl (frI rfl) (frR rfl) ?_
  refine gw_putr f113_132 rfl rfl rfl rfl pq113 rfl rfl ?_
  refine go_ld f113_135 (v := .ref 47) rfl rfl ?_
  refine go_psh f113_136 (v := .int 98) (by decide) ?_
  refine gw_newa f113_138 pq113 rfl (N := 98) (n' := 65) (by decide) (by decide) rfl rfl rfl rfl rfl (frI rfl) (frR rfl) ?_
  refine gw_putr f113_140 rfl rfl rfl rfl pq113 rfl rfl ?_
  refine go_ld f113_143 (v := .ref 47) rfl rfl ?_
  refine go_psh f113_144 (v := .int 98) (by decide) ?_
  refine gw_newa f113_146 pq113 rfl (N := 98) (n' := 66) (by decide) (by decide) rfl rfl rfl rfl rfl (frI rfl) (frR rfl) ?_
  refine gw_putr f113_148 rfl rfl rfl rfl pq113 rfl rfl ?_
  refine go_ld f113_151 (v := .ref 47) rfl rfl ?_
  refine go_psh f113_152 (v := .int 42) (by decide) ?_
  refine gw_newa f113_154 pq113 rfl (N := 42) (n' := 67) (by decide) (by decide) rfl rfl rfl rfl rfl (frI rfl) (frR rfl) ?_
  refine gw_putr f113_156 rfl rfl rfl rfl pq113 rfl rfl ?_
  refine go_ld f113_159 (v := .ref 47) rfl rfl ?_
  refine go_psh f113_160 (v := .int 6) (by decide) ?_
  refine gw_newa f113_162 pq113 rfl (N := 6) (n' := 68) (by decide) (by decide) rfl rfl rfl rfl rfl (frI rfl) (frR rfl) ?_
  refine gw_putr f113_164 rfl rfl rfl rfl pq113 rfl rfl ?_
  refine go_ld f113_167 (v := .ref 47) rfl rfl ?_
  refine go_psh f113_168 (v := .int 6) (by decide) ?_
  refine gw_newa f113_170 pq113 rfl (N := 6) (n' := 69) (by decide) (by decide) rfl rfl rfl rfl rfl (frI rfl) (frR rfl) ?_
  refine gw_putr f113_172 rfl rfl rfl rfl pq113 rfl rfl ?_
  refine go_ld f113_175 (v := .ref 47) rfl rfl ?_
  refine go_psh f113_176 (v := .int 6) (by decide) ?_
  refine gw_newa f113_178 pq113 rfl (N := 6) (n' := 70) (by decide) (by decide) rfl rfl rfl rfl rfl (frI rfl) (frR rfl) ?_
  refine gw_putr f113_180 rfl rfl rfl rfl pq113 rfl rfl ?_
  refine go_psh f113_183 (v := .int 0) (by decide) ?_
  refine gw_st1 f113_184 (ls' := [some (.ref 47), some (.int 0)]) rfl rfl rfl rfl ?_
  refine go_ld f113_185 (v := .int 0) rfl rfl ?_
  refine go_psh f113_186 (v := .int 4) (by decide) ?_
  refine go_icmp f113_187 (fun c => absurd c (show ¬ (4 : Int32) ≤ 0 by decide)) (fun _ => ?_)
  refine go_ld f113_190 (v := .ref 47) rfl rfl ?_
  refine gw_getr f113_191 rfl rfl rfl (w := 48) rfl ?_
  refine go_ld f113_194 (v := .int 0) rfl rfl ?_
  refine go_psh f113_195 (v := .int (-1)) (by decide) ?_
  refine gw_iast f113_196 (k := 0) rfl rfl (by unfold vp_in; decide) (by decide) ?_
  refine gw_inc f113_197 (y := 1) (ls' := [some (.ref 47), some (.int 1)]) rfl (by decide) rfl ?_
  refine go_goto f113_200 ?_
  refine go_ld f113_185 (v := .int 1) rfl rfl ?_
  refine go_psh f113_186 (v := .int 4) (by decide) ?_
  refine go_icmp f113_187 (fun c => absurd c (show ¬ (4 : Int32) ≤ 1 by decide)) (fun _ => ?_)
  refine go_ld f113_190 (v := .ref 47) rfl rfl ?_
  refine gw_getr f113_191 rfl rfl rfl (w := 48) rfl ?_
  refine go_ld f113_194 (v := .int 1) rfl rfl ?_
  refine go_psh f113_195 (v := .int (-1)) (by decide) ?_
  refine gw_iast f113_196 (k := 1) rfl rfl (by unfold vp_in; decide) (by decide) ?_
  refine gw_inc f113_197 (y := 2) (ls' := [some (.ref 47), some (.int 2)]) rfl (by decide) rfl ?_
  refine go_goto f113_200 ?_
  refine go_ld f113_185 (v := .int 2) rfl rfl ?_
  refine go_psh f113_186 (v := .int 4) (by decide) ?_
  refine go_icmp f113_187 (fun c => absurd c (show ¬ (4 : Int32) ≤ 2 by decide)) (fun _ => ?_)
  refine go_ld f113_190 (v := .ref 47) rfl rfl ?_
  refine gw_getr f113_191 rfl rfl rfl (w := 48) rfl ?_
  refine go_ld f113_194 (v := .int 2) rfl rfl ?_
  refine go_psh f113_195 (v := .int (-1)) (by decide) ?_
  refine gw_iast f113_196 (k := 2) rfl rfl (by unfold vp_in; decide) (by decide) ?_
  refine gw_inc f113_197 (y := 3) (ls' := [some (.ref 47), some (.int 3)]) rfl (by decide) rfl ?_
  refine go_goto f113_200 ?_
  refine go_ld f113_185 (v := .int 3) rfl rfl ?_
  refine go_psh f113_186 (v := .int 4) (by decide) ?_
  refine go_icmp f113_187 (fun c => absurd c (show ¬ (4 : Int32) ≤ 3 by decide)) (fun _ => ?_)
  refine go_ld f113_190 (v := .ref 47) rfl rfl ?_
  refine gw_getr f113_191 rfl rfl rfl (w := 48) rfl ?_
  refine go_ld f113_194 (v := .int 3) rfl rfl ?_
  refine go_psh f113_195 (v := .int (-1)) (by decide) ?_
  refine gw_iast f113_196 (k := 3) rfl rfl (by unfold vp_in; decide) (by decide) ?_
  refine gw_inc f113_197 (y := 4) (ls' := [some (.ref 47), some (.int 4)]) rfl (by decide) rfl ?_
  refine go_goto f113_200 ?_
  refine go_ld f113_185 (v := .int 4) rfl rfl ?_
  refine go_psh f113_186 (v := .int 4) (by decide) ?_
  refine go_icmp f113_187 (fun _ => ?_) (fun c => absurd (show (4 : Int32) ≤ 4 by decide) c)
  refine go_ld f113_203 (v := .ref 47) rfl rfl ?_
  refine go_psh f113_204 (v := .int 5) (by decide) ?_
  refine gw_puti f113_205 rfl rfl rfl rfl (fun hz => by cases hz) ?_
  refine go_ld f113_208 (v := .ref 47) rfl rfl ?_
  refine go_psh f113_209 (v := .int 6) (by decide) ?_
  refine gw_puti f113_211 rfl rfl rfl rfl (fun hz => by cases hz) ?_
  refine go_ld f113_214 (v := .ref 47) rfl rfl ?_
  refine go_psh f113_215 (v := .int 4) (by decide) ?_
  refine gw_puti f113_216 rfl rfl rfl rfl (fun hz => by cases hz) ?_
  refine go_ld f113_219 (v := .ref 47) rfl rfl ?_
  refine go_psh f113_220 (v := .int 1) (by decide) ?_
  refine gw_puti f113_221 rfl rfl rfl rfl (fun hz => by cases hz) ?_
  refine go_ld f113_224 (v := .ref 47) rfl rfl ?_
  refine go_psh f113_225 (v := .int 4) (by decide) ?_
  refine gw_puti f113_226 rfl rfl rfl rfl (fun hz => by cases hz) ?_
  exact go_ret f113_229 pq113 rfl (Nat.le_of_ble_eq_true rfl) (Nat.le_of_ble_eq_true rfl) h
def tI0 : List (Nat × Nat × Int32) := [(47, 9, 4), (47, 8, 1), (47, 7, 4), (47, 6, 6), (47, 5, 5), (48, 3, (-1)), (48, 2, (-1)), (48, 1, (-1)), (48, 0, (-1)), (45, 0, 1), (43, 0, 1), (41, 0, 1), (39, 0, 1), (1, 5, 1), (1, 4, 4), (1, 3, 1), (1, 2, 4), (1, 1, 6), (1, 0, 5)]
def tR0 : List (Nat × Nat × Nat) := [(47, 32, 69), (47, 31, 68), (47, 30, 67), (47, 29, 66), (47, 26, 65), (47, 25, 64), (47, 24, 63), (47, 23, 62), (47, 22, 61), (47, 21, 60), (47, 20, 59), (47, 19, 58), (47, 17, 57), (47, 16, 56), (47, 15, 55), (47, 14, 54), (47, 12, 53), (47, 10, 52), (47, 3, 51), (47, 2, 50), (47, 1, 49), (47, 0, 48), (26, 3, 45), (45, 3, 46), (26, 2, 43), (43, 3, 44), (26, 1, 41), (41, 3, 42), (26, 0, 39), (39, 3, 40), (25, 5, 37), (37, 4, 38), (25, 4, 35), (35, 4, 36), (25, 3, 33), (33, 4, 34), (25, 2, 31), (31, 4, 32), (25, 1, 29), (29, 4, 30), (25, 0, 27), (27, 4, 28), (0, 5, 26), (0, 4, 25), (0, 3, 23), (23, 4, 24), (0, 2, 18), (18, 0, 1), (18, 4, 22), (18, 3, 21), (18, 2, 20), (18, 1, 19), (0, 1, 3), (3, 0, 1), (3, 8, 17), (3, 7, 16), (3, 6, 15), (3, 5, 14), (3, 4, 13), (3, 3, 9), (9, 3, 12), (9, 2, 11), (9, 1, 10), (3, 2, 8), (3, 1, 4), (4, 3, 7), (4, 2, 6), (4, 1, 5), (0, 0, 1), (1, 6, 2)]
