def gm_fOk (f : Nat × Nat × Nat × Nat × Nat) : Bool := (gm_cl[f.2.2.1]?).any fun c => decide (f.2.2.2.1 < c.2.2) && decide (lw_tbl[f.2.2.2.2]? = some (.fieldLink (gm_own f.1) f.2.1 (c.2.1 f.2.2.2.1).1 (c.2.1 f.2.2.2.1).2.1 (c.2.1 f.2.2.2.1).2.2.1))
theorem gm_ckF : gm_FT.all gm_fOk = true := by decide +kernel
theorem gm_ckK : gm_KT.all (fun f => decide (lw_tbl[f.2.2.2]? = some (.constant (gm_own f.1) f.2.1 (Int32.ofInt f.2.2.1)))) = true := by decide +kernel
theorem gm_ckJ : gm_LT.all (fun f => decide (lw_tbl[f.2.2.2]? = some (.constantLong (gm_own f.1) f.2.1 (Int64.ofInt f.2.2.1)))) = true := by decide +kernel
theorem gm_ckC : gm_CT.all (fun f => decide (lw_tbl[f.2.2.2]? = some (.classLink (gm_own f.1) f.2.1 (gm_own f.2.2.1)))) = true := by decide +kernel
def gm_arrc : MethodName := arraycopyName
def gm_mOk (f : Nat × Nat × Nat × Nat × Nat) : Bool := match f.2.2.1 with
  | 0 => (gm_PT[f.2.2.2.1]?).any fun q => decide (lw_tbl[f.2.2.2.2]? = some (.methodLink (gm_own f.1) f.2.1 q.1))
  | 1 => (gm_PT[f.2.2.2.1]?).any fun q => decide (lw_tbl[f.2.2.2.2]? = some (.methodLinkNest (gm_own f.1) f.2.1 q.1 "GridMender"))
  | 2 => decide (lw_tbl[f.2.2.2.2]? = some (.methodLink (gm_own f.1) f.2.1 arraycopyName))
  | 3 => decide (lw_tbl[f.2.2.2.2]? = some (.methodLink (gm_own f.1) f.2.1 objectInit))
  | 4 => decide (lw_tbl[f.2.2.2.2]? = some (.methodLink (gm_own f.1) f.2.1 Lib.Math.min.name))
  | 5 => decide (lw_tbl[f.2.2.2.2]? = some (.methodLink (gm_own f.1) f.2.1 Lib.Math.abs.name))
  | _ => false
theorem gm_ckM : gm_MT.all gm_mOk = true := by decide +kernel
/-- a method's own words -/
def gm_pOk (q : gm_M) (r : Nat × Nat × Nat × Nat × Nat) : Bool :=
  (decide (r.2.2.2.2 = 4) || (decide (q.1.cls = gm_own q.2.2.2.2.1) && plainName q.1.cls && decide (q.1.cls ≠ "java/lang/invoke/MethodHandle") && decide (q.1.cls ≠ "java/lang/invoke/VarHandle") && decide ((parseMethodDescriptor q.1.desc).map (fun d => d.parameters.length) = some q.2.2.2.2.2.1) &&
  decide (lw_tbl[r.2.1]? = some (.initialized q.1.cls)) &&
  (match r.2.2.2.2 with
  | 0 => decide (lw_tbl[r.2.2.1]? = some (.instanceMethod q.1)) && decide (lw_tbl[r.2.2.2.1]? = some (.selects q.1.cls q.1 q.1))
  | 1 => decide (lw_tbl[r.2.2.1]? = some (.static q.1))
  | 2 => decide (lw_tbl[r.2.2.1]? = some (.instanceMethod q.1)) && decide (q.1.name = "<init>") && decide (q.2.2.2.1 = none)
  | _ => true)))
theorem gm_cp0 : ((((gm_PT.zip gm_PP).drop 0).take 100).all fun x => gm_pOk x.1 x.2) = true := by decide +kernel
theorem gm_cp1 : ((((gm_PT.zip gm_PP).drop 100).take 100).all fun x => gm_pOk x.1 x.2) = true := by decide +kernel
theorem gm_ckP : ((gm_PT.zip gm_PP).all fun x => gm_pOk x.1 x.2) = true := by
  show ((gm_PT.zip gm_PP).drop 0).all _ = true
  refine gm_all_cut _ _ 0 100 gm_cp0 ?_
  refine gm_all_cut _ _ 100 100 gm_cp1 ?_
  rw [List.drop_eq_nil_of_le (by decide +kernel)]; rfl
theorem gm_ckW : ((gm_PT.zip gm_PP).all fun x => decide (x.1.2.2.2.2.1 ≠ 12) || decide (x.2.2.2.2.2 = 3)) = true := by decide +kernel
