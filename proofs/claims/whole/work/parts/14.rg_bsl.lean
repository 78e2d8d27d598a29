/-! X0_resize (II)V -/
theorem fe1 (pc : Nat) : gm_fetch 1 pc = gm_find pc cd_1 := rfl
theorem f1_0 : gm_fetch 1 0 = some (1, .aload_n 0, 0, 0, 0, 0) := (fe1 0).trans rfl
theorem f1_1 : gm_fetch 1 1 = some (2, .iload_n 1, 0, 0, 0, 0) := (fe1 1).trans rfl
theorem f1_2 : gm_fetch 1 2 = some (5, .putfield 9, 0, 0, 0, 0) := (fe1 2).trans rfl
theorem f1_5 : gm_fetch 1 5 = some (6, .aload_n 0, 0, 0, 0, 0) := (fe1 5).trans rfl
theorem f1_6 : gm_fetch 1 6 = some (7, .iload_n 2, 0, 0, 0, 0) := (fe1 6).trans rfl
theorem f1_7 : gm_fetch 1 7 = some (10, .putfield 15, 5, 0, 1, 0) := (fe1 7).trans rfl
theorem f1_10 : gm_fetch 1 10 = some (11, .aload_n 0, 0, 0, 0, 0) := (fe1 10).trans rfl
theorem f1_11 : gm_fetch 1 11 = some (12, .aload_n 0, 0, 0, 0, 0) := (fe1 11).trans rfl
theorem f1_12 : gm_fetch 1 12 = some (15, .getfield 18, 10, 0, 2, 0) := (fe1 12).trans rfl
theorem f1_15 : gm_fetch 1 15 = some (16, .iload_n 2, 0, 0, 0, 0) := (fe1 15).trans rfl
theorem f1_16 : gm_fetch 1 16 = some (19, .invokestatic 34, 16, 197, 4, 0) := (fe1 16).trans rfl
theorem f1_19 : gm_fetch 1 19 = some (22, .putfield 18, 10, 0, 2, 0) := (fe1 19).trans rfl
theorem f1_22 : gm_fetch 1 22 = some (23, .aload_n 0, 0, 0, 0, 0) := (fe1 22).trans rfl
theorem f1_23 : gm_fetch 1 23 = some (26, .getfield 30, 23, 0, 6, 0) := (fe1 23).trans rfl
theorem f1_26 : gm_fetch 1 26 = some (27, .iconst 0, 0, 0, 0, 0) := (fe1 26).trans rfl
theorem f1_27 : gm_fetch 1 27 = some (30, .invokestatic 40, 17, 198, 0, 0) := (fe1 27).trans rfl
theorem f1_30 : gm_fetch 1 30 = some (31, .aload_n 0, 0, 0, 0, 0) := (fe1 30).trans rfl
theorem f1_31 : gm_fetch 1 31 = some (32, .dup, 0, 0, 0, 0) := (fe1 31).trans rfl
theorem f1_32 : gm_fetch 1 32 = some (35, .getfield 27, 20, 0, 5, 0) := (fe1 32).trans rfl
theorem f1_35 : gm_fetch 1 35 = some (36, .iconst 1, 0, 0, 0, 0) := (fe1 35).trans rfl
theorem f1_36 : gm_fetch 1 36 = some (37, .iadd, 0, 0, 0, 0) := (fe1 36).trans rfl
theorem f1_37 : gm_fetch 1 37 = some (40, .putfield 27, 20, 0, 5, 0) := (fe1 37).trans rfl
theorem f1_40 : gm_fetch 1 40 = some (41, .return_, 0, 0, 0, 0) := (fe1 40).trans rfl
set_option maxRecDepth 10000 in
theorem rg1_0 {mi : Mi} {ml : Ml} {F : Mi → Ml → Prop} {x1 : Int32} {x2 : Int32}  (h : Sg 198 0 [some (.ref 2), some (.int 0), none, none] [] (va_up mi 1 (va_up (va_up (va_up (mi 1) 0 x1) 1 x2) 2 (if x2 < (mi 1 2) then x2 else (mi 1 2)))) ml (qv fun mi2 ml3 => F (va_up mi2 1 (va_up (mi2 1) 5 ((mi2 1 5) + 1))) ml3)) : Sg 1 0 [some (.ref 1), some (.int x1), some (.int x2)] [] mi ml (qv F) := by
  refine sg_ld f1_0 (v := .ref 1) rfl rfl ?_
  refine sg_ld f1_1 (v := .int x1) rfl rfl ?_
  refine sg_puti f1_2 rfl rfl rfl (fun hz => by cases hz) ?_
  refine sg_ld f1_5 (v := .ref 1) rfl rfl ?_
  refine sg_ld f1_6 (v := .int x2) rfl rfl ?_
  refine sg_puti2 f1_7 rfl rfl rfl (fun hz => by cases hz) ?_
  refine sg_ld f1_10 (v := .ref 1) rfl rfl ?_
  refine sg_ld f1_11 (v := .ref 1) rfl rfl ?_
  refine sg_geti f1_12 rfl rfl (x := (mi 1 2)) rfl ?_
  refine sg_ld f1_15 (v := .int x2) rfl rfl ?_
  refine sg_mmin f1_16 rfl ?_
  refine sg_puti2 f1_19 rfl rfl rfl (fun hz => by cases hz) ?_
  refine sg_ld f1_22 (v := .ref 1) rfl rfl ?_
  refine sg_getr f1_23 rfl rfl (w := 2) rfl ?_
  refine sg_psh f1_26 (v := .int 0) (by decide) ?_
  refine sg_cS f1_27 (vs := [.ref 2, .int 0]) (rest := []) (en := [some (.ref 2), some (.int 0), none, none]) (by decide) pq198 ⟨rfl, rfl⟩ rfl rfl rfl rfl rfl h ?_
  intro _ mi2 ml3 h
  have h := gm_qv h
  refine sg_ld f1_30 (v := .ref 1) rfl rfl ?_
  refine sg_dup f1_31 rfl ?_
  refine sg_geti f1_32 rfl rfl (x := (mi2 1 5)) rfl ?_
  refine sg_psh f1_35 (v := .int 1) (by decide) ?_
  refine sg_bin f1_36 rfl ?_
  refine sg_puti f1_37 rfl rfl rfl (fun hz => by cases hz) ?_
  exact sg_ret f1_40 pq1 rfl h

/-! X0_changeWish (I)V -/
theorem fe2 (pc : Nat) : gm_fetch 2 pc = gm_find pc cd_2 := rfl
theorem f2_0 : gm_fetch 2 0 = some (1, .aload_n 0, 0, 0, 0, 0) := (fe2 0).trans rfl
theorem f2_1 : gm_fetch 2 1 = some (2, .iload_n 1, 0, 0, 0, 0) := (fe2 1).trans rfl
theorem f2_2 : gm_fetch 2 2 = some (5, .putfield 18, 10, 0, 2, 0) := (fe2 2).trans rfl
theorem f2_5 : gm_fetch 2 5 = some (6, .aload_n 0, 0, 0, 0, 0) := (fe2 5).trans rfl
theorem f2_6 : gm_fetch 2 6 = some (7, .dup, 0, 0, 0, 0) := (fe2 6).trans rfl
theorem f2_7 : gm_fetch 2 7 = some (10, .getfield 27, 20, 0, 5, 0) := (fe2 7).trans rfl
theorem f2_10 : gm_fetch 2 10 = some (11, .iconst 1, 0, 0, 0, 0) := (fe2 10).trans rfl
theorem f2_11 : gm_fetch 2 11 = some (12, .iadd, 0, 0, 0, 0) := (fe2 11).trans rfl
theorem f2_12 : gm_fetch 2 12 = some (15, .putfield 27, 20, 0, 5, 0) := (fe2 12).trans rfl
theorem f2_15 : gm_fetch 2 15 = some (16, .return_, 0, 0, 0, 0) := (fe2 15).trans rfl
set_option maxRecDepth 10000 in
theorem rg2_0 {mi : Mi} {ml : Ml} {F : Mi → Ml → Prop} {x1 : Int32}  (h : F (va_up mi 1 (va_up (va_up (mi 1) 2 x1) 5 ((mi 1 5) + 1))) ml) : Sg 2 0 [some (.ref 1), some (.int x1)] [] mi ml (qv F) := by
  refine sg_ld f2_0 (v := .ref 1) rfl rfl ?_
  refine sg_ld f2_1 (v := .int x1) rfl rfl ?_
  refine sg_puti f2_2 rfl rfl rfl (fun hz => by cases hz) ?_
  refine sg_ld f2_5 (v := .ref 1) rfl rfl ?_
  refine sg_dup f2_6 rfl ?_
  refine sg_geti f2_7 rfl rfl (x := (mi 1 5)) rfl ?_
  refine sg_psh f2_10 (v := .int 1) (by decide) ?_
  refine sg_bin f2_11 rfl ?_
  refine sg_puti2 f2_12 rfl rfl rfl (fun hz => by cases hz) ?_
  exact sg_ret f2_15 pq2 rfl h

/-! X0_changeLength (I)V -/
theorem fe3 (pc : Nat) : gm_fetch 3 pc = gm_find pc cd_3 := rfl
theorem f3_0 : gm_fetch 3 0 = some (1, .aload_n 0, 0, 0, 0, 0) := (fe3 0).trans rfl
theorem f3_1 : gm_fetch 3 1 = some (2, .iload_n 1, 0, 0, 0, 0) := (fe3 1).trans rfl
theorem f3_2 : gm_fetch 3 2 = some (5, .putfield 21, 14, 0, 3, 0) := (fe3 2).trans rfl
theorem f3_5 : gm_fetch 3 5 = some (6, .aload_n 0, 0, 0, 0, 0) := (fe3 5).trans rfl
theorem f3_6 : gm_fetch 3 6 = some (7, .dup, 0, 0, 0, 0) := (fe3 6).trans rfl
theorem f3_7 : gm_fetch 3 7 = some (10, .getfield 27, 20, 0, 5, 0) := (fe3 7).trans rfl
theorem f3_10 : gm_fetch 3 10 = some (11, .iconst 1, 0, 0, 0, 0) := (fe3 10).trans rfl
theorem f3_11 : gm_fetch 3 11 = some (12, .iadd, 0, 0, 0, 0) := (fe3 11).trans rfl
theorem f3_12 : gm_fetch 3 12 = some (15, .putfield 27, 20, 0, 5, 0) := (fe3 12).trans rfl
theorem f3_15 : gm_fetch 3 15 = some (16, .return_, 0, 0, 0, 0) := (fe3 15).trans rfl
set_option maxRecDepth 10000 in
theorem rg3_0 {mi : Mi} {ml : Ml} {F : Mi → Ml → Prop} {x1 : Int32}  (h : F (va_up mi 1 (va_up (va_up (mi 1) 3 x1) 5 ((mi 1 5) + 1))) ml) : Sg 3 0 [some (.ref 1), some (.int x1)] [] mi ml (qv F) := by
  refine sg_ld f3_0 (v := .ref 1) rfl rfl ?_
  refine sg_ld f3_1 (v := .int x1) rfl rfl ?_
  refine sg_puti f3_2 rfl rfl rfl (fun hz => by cases hz) ?_
  refine sg_ld f3_5 (v := .ref 1) rfl rfl ?_
  refine sg_dup f3_6 rfl ?_
  refine sg_geti f3_7 rfl rfl (x := (mi 1 5)) rfl ?_
  refine sg_psh f3_10 (v := .int 1) (by decide) ?_
  refine sg_bin f3_11 rfl ?_
  refine sg_puti2 f3_12 rfl rfl rfl (fun hz => by cases hz) ?_
  exact sg_ret f3_15 pq3 rfl h

/-! X0_changeSides (I)V -/
theorem fe4 (pc : Nat) : gm_fetch 4 pc = gm_find pc cd_4 := rfl
theorem f4_0 : gm_fetch 4 0 = some (1, .aload_n 0, 0, 0, 0, 0) := (fe4 0).trans rfl
theorem f4_1 : gm_fetch 4 1 = some (2, .iload_n 1, 0, 0, 0, 0) := (fe4 1).trans rfl
theorem f4_2 : gm_fetch 4 2 = some (5, .putfield 24, 18, 0, 4, 0) := (fe4 2).trans rfl
theorem f4_5 : gm_fetch 4 5 = some (6, .aload_n 0, 0, 0, 0, 0) := (fe4 5).trans rfl
theorem f4_6 : gm_fetch 4 6 = some (7, .dup, 0, 0, 0, 0) := (fe4 6).trans rfl
theorem f4_7 : gm_fetch 4 7 = some (10, .getfield 27, 20, 0, 5, 0) := (fe4 7).trans rfl
theorem f4_10 : gm_fetch 4 10 = some (11, .iconst 1, 0, 0, 0, 0) := (fe4 10).trans rfl
theorem f4_11 : gm_fetch 4 11 = some (12, .iadd, 0, 0, 0, 0) := (fe4 11).trans rfl
theorem f4_12 : gm_fetch 4 12 = some (15, .putfield 27, 20, 0, 5, 0) := (fe4 12).trans rfl
theorem f4_15 : gm_fetch 4 15 = some (16, .return_, 0, 0, 0, 0) := (fe4 15).trans rfl
set_option maxRecDepth 10000 in
theorem rg4_0 {mi : Mi} {ml : Ml} {F : Mi → Ml → Prop} {x1 : Int32}  (h : F (va_up mi 1 (va_up (va_up (mi 1) 4 x1) 5 ((mi 1 5) + 1))) ml) : Sg 4 0 [some (.ref 1), some (.int x1)] [] mi ml (qv F) := by
  refine sg_ld f4_0 (v := .ref 1) rfl rfl ?_
  refine sg_ld f4_1 (v := .int x1) rfl rfl ?_
  refine sg_puti f4_2 rfl rfl rfl (fun hz => by cases hz) ?_
  refine sg_ld f4_5 (v := .ref 1) rfl rfl ?_
  refine sg_dup f4_6 rfl ?_
  refine sg_geti f4_7 rfl rfl (x := (mi 1 5)) rfl ?_
  refine sg_psh f4_10 (v := .int 1) (by decide) ?_
  refine sg_bin f4_11 rfl ?_
  refine sg_puti2 f4_12 rfl rfl rfl (fun hz => by cases hz) ?_
  exact sg_ret f4_15 pq4 rfl h

/-! X0_changeRow (II)V -/
theorem fe5 (pc : Nat) : gm_fetch 5 pc = gm_find pc cd_5 := rfl
theorem f5_0 : gm_fetch 5 0 = some (1, .aload_n 0, 0, 0, 0, 0) := (fe5 0).trans rfl
theorem f5_1 : gm_fetch 5 1 = some (4, .getfield 30, 23, 0, 6, 0) := (fe5 1).trans rfl
theorem f5_4 : gm_fetch 5 4 = some (5, .iload_n 1, 0, 0, 0, 0) := (fe5 4).trans rfl
theorem f5_5 : gm_fetch 5 5 = some (6, .iload_n 2, 0, 0, 0, 0) := (fe5 5).trans rfl
theorem f5_6 : gm_fetch 5 6 = some (7, .iastore, 0, 0, 0, 0) := (fe5 6).trans rfl
theorem f5_7 : gm_fetch 5 7 = some (8, .aload_n 0, 0, 0, 0, 0) := (fe5 7).trans rfl
theorem f5_8 : gm_fetch 5 8 = some (9, .dup, 0, 0, 0, 0) := (fe5 8).trans rfl
theorem f5_9 : gm_fetch 5 9 = some (12, .getfield 27, 20, 0, 5, 0) := (fe5 9).trans rfl
theorem f5_12 : gm_fetch 5 12 = some (13, .iconst 1, 0, 0, 0, 0) := (fe5 12).trans rfl
theorem f5_13 : gm_fetch 5 13 = some (14, .iadd, 0, 0, 0, 0) := (fe5 13).trans rfl
theorem f5_14 : gm_fetch 5 14 = some (17, .putfield 27, 20, 0, 5, 0) := (fe5 14).trans rfl
theorem f5_17 : gm_fetch 5 17 = some (18, .return_, 0, 0, 0, 0) := (fe5 17).trans rfl
set_option maxRecDepth 10000 in
theorem rg5_0 {mi : Mi} {ml : Ml} {F : Mi → Ml → Prop} {x1 : Int32} {x2 : Int32}  (h : (vp_in x1 7) ∧ (F (va_up (va_up mi 2 (va_up (mi 2) (Int32.toNatClampNeg x1) x2)) 1 (va_up (mi 1) 5 ((mi 1 5) + 1))) ml)) : Sg 5 0 [some (.ref 1), some (.int x1), some (.int x2)] [] mi ml (qv F) := by
  refine sg_ld f5_0 (v := .ref 1) rfl rfl ?_
  refine sg_getr f5_1 rfl rfl (w := 2) rfl ?_
  refine sg_ld f5_4 (v := .int x1) rfl rfl ?_
  refine sg_ld f5_5 (v := .int x2) rfl rfl ?_
  obtain ⟨e1, h⟩ := h
  refine sg_iast f5_6 rfl e1 ?_
  refine sg_ld f5_7 (v := .ref 1) rfl rfl ?_
  refine sg_dup f5_8 rfl ?_
  refine sg_geti f5_9 rfl rfl (x := (mi 1 5)) rfl ?_
  refine sg_psh f5_12 (v := .int 1) (by decide) ?_
  refine sg_bin f5_13 rfl ?_
  refine sg_puti f5_14 rfl rfl rfl (fun hz => by cases hz) ?_
  exact sg_ret f5_17 pq5 rfl h

/-! X0_hasRow (I)Z -/
theorem fe6 (pc : Nat) : gm_fetch 6 pc = gm_find pc cd_6 := rfl
theorem f6_0 : gm_fetch 6 0 = some (1, .iload_n 1, 0, 0, 0, 0) := (fe6 0).trans rfl
theorem f6_1 : gm_fetch 6 1 = some (4, .ifCond .lt 15, 0, 16, 0, 0) := (fe6 1).trans rfl
theorem f6_4 : gm_fetch 6 4 = some (5, .iload_n 1, 0, 0, 0, 0) := (fe6 4).trans rfl
theorem f6_5 : gm_fetch 6 5 = some (6, .aload_n 0, 0, 0, 0, 0) := (fe6 5).trans rfl
theorem f6_6 : gm_fetch 6 6 = some (9, .getfield 9, 0, 0, 0, 0) := (fe6 6).trans rfl
theorem f6_9 : gm_fetch 6 9 = some (12, .if_icmp .ge 7, 0, 16, 0, 0) := (fe6 9).trans rfl
theorem f6_12 : gm_fetch 6 12 = some (13, .iconst 1, 0, 0, 0, 0) := (fe6 12).trans rfl
theorem f6_13 : gm_fetch 6 13 = some (16, .goto 4, 0, 17, 0, 0) := (fe6 13).trans rfl
theorem f6_16 : gm_fetch 6 16 = some (17, .iconst 0, 0, 0, 0, 0) := (fe6 16).trans rfl
theorem f6_17 : gm_fetch 6 17 = some (18, .ireturn, 0, 0, 0, 0) := (fe6 17).trans rfl
set_option maxRecDepth 10000 in
theorem rg6_0 {mi : Mi} {ml : Ml} {F : Int32 → Mi → Ml → Prop} {x1 : Int32}  (h : ((x1 < 0) → F 0 mi ml) ∧ (¬ (x1 < 0) → (((mi 1 0) ≤ x1) → F 0 mi ml) ∧ (¬ ((mi 1 0) ≤ x1) → F 1 mi ml))) : Sg 6 0 [some (.ref 1), some (.int x1)] [] mi ml (qi F) := by
  refine sg_ld f6_0 (v := .int x1) rfl rfl ?_
  refine sg_if f6_1 (fun c => ?_) (fun c => ?_)
  · have h := h.1 c
    refine sg_psh f6_16 (v := .int 0) (by decide) ?_
    exact sg_iret f6_17 pq6 rfl (by decide) ⟨_, rfl, h⟩
  · have h := h.2 c
    refine sg_ld f6_4 (v := .int x1) rfl rfl ?_
    refine sg_ld f6_5 (v := .ref 1) rfl rfl ?_
    refine sg_geti f6_6 rfl rfl (x := (mi 1 0)) rfl ?_
    refine sg_icmp f6_9 (fun c => ?_) (fun c => ?_)
    · have h := h.1 c
      refine sg_psh f6_16 (v := .int 0) (by decide) ?_
      exact sg_iret f6_17 pq6 rfl (by decide) ⟨_, rfl, h⟩
    · have h := h.2 c
      refine sg_psh f6_12 (v := .int 1) (by decide) ?_
      refine sg_goto f6_13 ?_
      exact sg_iret f6_17 pq6 rfl (by decide) ⟨_, rfl, h⟩

/-! X0_hasCell (II)Z -/
theorem fe7 (pc : Nat) : gm_fetch 7 pc = gm_find pc cd_7 := rfl
theorem f7_0 : gm_fetch 7 0 = some (1, .iload_n 1, 0, 0, 0, 0) := (fe7 0).trans rfl
theorem f7_1 : gm_fetch 7 1 = some (4, .ifCond .lt 23, 0, 24, 0, 0) := (fe7 1).trans rfl
theorem f7_4 : gm_fetch 7 4 = some (5, .iload_n 1, 0, 0, 0, 0) := (fe7 4).trans rfl
theorem f7_5 : gm_fetch 7 5 = some (6, .aload_n 0, 0, 0, 0, 0) := (fe7 5).trans rfl
theorem f7_6 : gm_fetch 7 6 = some (9, .getfield 15, 5, 0, 1, 0) := (fe7 6).trans rfl
theorem f7_9 : gm_fetch 7 9 = some (12, .if_icmp .ge 15, 0, 24, 0, 0) := (fe7 9).trans rfl
theorem f7_12 : gm_fetch 7 12 = some (13, .aload_n 0, 0, 0, 0, 0) := (fe7 12).trans rfl
theorem f7_13 : gm_fetch 7 13 = some (14, .iload_n 2, 0, 0, 0, 0) := (fe7 13).trans rfl
theorem f7_14 : gm_fetch 7 14 = some (17, .invokevirtual 46, 27, 6, 0, 0) := (fe7 14).trans rfl
theorem f7_17 : gm_fetch 7 17 = some (20, .ifCond .eq 7, 0, 24, 0, 0) := (fe7 17).trans rfl
theorem f7_20 : gm_fetch 7 20 = some (21, .iconst 1, 0, 0, 0, 0) := (fe7 20).trans rfl
theorem f7_21 : gm_fetch 7 21 = some (24, .goto 4, 0, 25, 0, 0) := (fe7 21).trans rfl
theorem f7_24 : gm_fetch 7 24 = some (25, .iconst 0, 0, 0, 0, 0) := (fe7 24).trans rfl
theorem f7_25 : gm_fetch 7 25 = some (26, .ireturn, 0, 0, 0, 0) := (fe7 25).trans rfl
set_option maxRecDepth 10000 in
theorem rg7_0 {mi : Mi} {ml : Ml} {F : Int32 → Mi → Ml → Prop} {x1 : Int32} {x2 : Int32}  (h : ((x1 < 0) → F 0 mi ml) ∧ (¬ (x1 < 0) → (((mi 1 1) ≤ x1) → F 0 mi ml) ∧ (¬ ((mi 1 1) ≤ x1) → Sg 6 0 [some (.ref 1), some (.int x2)] [] mi ml (qi fun y1 mi2 ml3 => ((y1 = 0) → F 0 mi2 ml3) ∧ (¬ (y1 = 0) → F 1 mi2 ml3))))) : Sg 7 0 [some (.ref 1), some (.int x1), some (.int x2)] [] mi ml (qi F) := by
  refine sg_ld f7_0 (v := .int x1) rfl rfl ?_
  refine sg_if f7_1 (fun c => ?_) (fun c => ?_)
  · have h := h.1 c
    refine sg_psh f7_24 (v := .int 0) (by decide) ?_
    exact sg_iret f7_25 pq7 rfl (by decide) ⟨_, rfl, h⟩
  · have h := h.2 c
    refine sg_ld f7_4 (v := .int x1) rfl rfl ?_
    refine sg_ld f7_5 (v := .ref 1) rfl rfl ?_
    refine sg_geti f7_6 rfl rfl (x := (mi 1 1)) rfl ?_
    refine sg_icmp f7_9 (fun c => ?_) (fun c => ?_)
    · have h := h.1 c
      refine sg_psh f7_24 (v := .int 0) (by decide) ?_
      exact sg_iret f7_25 pq7 rfl (by decide) ⟨_, rfl, h⟩
    · have h := h.2 c
      refine sg_ld f7_12 (v := .ref 1) rfl rfl ?_
      refine sg_ld f7_13 (v := .int x2) rfl rfl ?_
      refine sg_cV f7_14 (vs := [.int x2]) (r := 1) (rest := []) (en := [some (.ref 1), some (.int x2)]) pq6 ⟨rfl, rfl⟩ rfl rfl rfl rfl rfl rfl h ?_
      rintro _ mi2 ml3 ⟨y1, rfl, h⟩
      refine sg_if f7_17 (fun c => ?_) (fun c => ?_)
      · have h := h.1 c
        refine sg_psh f7_24 (v := .int 0) (by decide) ?_
        exact sg_iret f7_25 pq7 rfl (by decide) ⟨_, rfl, h⟩
      · have h := h.2 c
        refine sg_psh f7_20 (v := .int 1) (by decide) ?_
        refine sg_goto f7_21 ?_
        exact sg_iret f7_25 pq7 rfl (by decide) ⟨_, rfl, h⟩

/-! X0_isAtOpenSide (II)Z -/
theorem fe8 (pc : Nat) : gm_fetch 8 pc = gm_find pc cd_8 := rfl
theorem f8_0 : gm_fetch 8 0 = some (1, .iload_n 1, 0, 0, 0, 0) := (fe8 0).trans rfl
theorem f8_1 : gm_fetch 8 1 = some (4, .ifCond .ne 12, 0, 13, 0, 0) := (fe8 1).trans rfl
theorem f8_4 : gm_fetch 8 4 = some (5, .aload_n 0, 0, 0, 0, 0) := (fe8 4).trans rfl
theorem f8_5 : gm_fetch 8 5 = some (8, .getfield 24, 18, 0, 4, 0) := (fe8 5).trans rfl
theorem f8_8 : gm_fetch 8 8 = some (9, .iconst 1, 0, 0, 0, 0) := (fe8 8).trans rfl
theorem f8_9 : gm_fetch 8 9 = some (10, .iand, 0, 0, 0, 0) := (fe8 9).trans rfl
theorem f8_10 : gm_fetch 8 10 = some (13, .ifCond .ne 55, 0, 65, 0, 0) := (fe8 10).trans rfl
theorem f8_13 : gm_fetch 8 13 = some (14, .iload_n 2, 0, 0, 0, 0) := (fe8 13).trans rfl
theorem f8_14 : gm_fetch 8 14 = some (17, .ifCond .ne 12, 0, 26, 0, 0) := (fe8 14).trans rfl
theorem f8_17 : gm_fetch 8 17 = some (18, .aload_n 0, 0, 0, 0, 0) := (fe8 17).trans rfl
theorem f8_18 : gm_fetch 8 18 = some (21, .getfield 24, 18, 0, 4, 0) := (fe8 18).trans rfl
theorem f8_21 : gm_fetch 8 21 = some (22, .iconst 2, 0, 0, 0, 0) := (fe8 21).trans rfl
theorem f8_22 : gm_fetch 8 22 = some (23, .iand, 0, 0, 0, 0) := (fe8 22).trans rfl
theorem f8_23 : gm_fetch 8 23 = some (26, .ifCond .ne 42, 0, 65, 0, 0) := (fe8 23).trans rfl
theorem f8_26 : gm_fetch 8 26 = some (27, .iload_n 1, 0, 0, 0, 0) := (fe8 26).trans rfl
theorem f8_27 : gm_fetch 8 27 = some (28, .aload_n 0, 0, 0, 0, 0) := (fe8 27).trans rfl
theorem f8_28 : gm_fetch 8 28 = some (31, .getfield 15, 5, 0, 1, 0) := (fe8 28).trans rfl
theorem f8_31 : gm_fetch 8 31 = some (32, .iconst 1, 0, 0, 0, 0) := (fe8 31).trans rfl
theorem f8_32 : gm_fetch 8 32 = some (33, .isub, 0, 0, 0, 0) := (fe8 32).trans rfl
theorem f8_33 : gm_fetch 8 33 = some (36, .if_icmp .ne 12, 0, 45, 0, 0) := (fe8 33).trans rfl
theorem f8_36 : gm_fetch 8 36 = some (37, .aload_n 0, 0, 0, 0, 0) := (fe8 36).trans rfl
theorem f8_37 : gm_fetch 8 37 = some (40, .getfield 24, 18, 0, 4, 0) := (fe8 37).trans rfl
theorem f8_40 : gm_fetch 8 40 = some (41, .iconst 4, 0, 0, 0, 0) := (fe8 40).trans rfl
theorem f8_41 : gm_fetch 8 41 = some (42, .iand, 0, 0, 0, 0) := (fe8 41).trans rfl
theorem f8_42 : gm_fetch 8 42 = some (45, .ifCond .ne 23, 0, 65, 0, 0) := (fe8 42).trans rfl
theorem f8_45 : gm_fetch 8 45 = some (46, .iload_n 2, 0, 0, 0, 0) := (fe8 45).trans rfl
theorem f8_46 : gm_fetch 8 46 = some (47, .aload_n 0, 0, 0, 0, 0) := (fe8 46).trans rfl
theorem f8_47 : gm_fetch 8 47 = some (50, .getfield 9, 0, 0, 0, 0) := (fe8 47).trans rfl
theorem f8_50 : gm_fetch 8 50 = some (51, .iconst 1, 0, 0, 0, 0) := (fe8 50).trans rfl
theorem f8_51 : gm_fetch 8 51 = some (52, .isub, 0, 0, 0, 0) := (fe8 51).trans rfl
theorem f8_52 : gm_fetch 8 52 = some (55, .if_icmp .ne 17, 0, 69, 0, 0) := (fe8 52).trans rfl
theorem f8_55 : gm_fetch 8 55 = some (56, .aload_n 0, 0, 0, 0, 0) := (fe8 55).trans rfl
theorem f8_56 : gm_fetch 8 56 = some (59, .getfield 24, 18, 0, 4, 0) := (fe8 56).trans rfl
theorem f8_59 : gm_fetch 8 59 = some (61, .bipush 8, 0, 0, 0, 0) := (fe8 59).trans rfl
theorem f8_61 : gm_fetch 8 61 = some (62, .iand, 0, 0, 0, 0) := (fe8 61).trans rfl
theorem f8_62 : gm_fetch 8 62 = some (65, .ifCond .eq 7, 0, 69, 0, 0) := (fe8 62).trans rfl
theorem f8_65 : gm_fetch 8 65 = some (66, .iconst 1, 0, 0, 0, 0) := (fe8 65).trans rfl
theorem f8_66 : gm_fetch 8 66 = some (69, .goto 4, 0, 70, 0, 0) := (fe8 66).trans rfl
theorem f8_69 : gm_fetch 8 69 = some (70, .iconst 0, 0, 0, 0, 0) := (fe8 69).trans rfl
theorem f8_70 : gm_fetch 8 70 = some (71, .ireturn, 0, 0, 0, 0) := (fe8 70).trans rfl
set_option maxRecDepth 10000 in
theorem rg8_0 {mi : Mi} {ml : Ml} {F : Int32 → Mi → Ml → Prop} {x1 : Int32} {x2 : Int32}  (h : ((¬ x1 = 0) → Sg 8 13 [some (.ref 1), some (.int x1), some (.int x2)] [] mi ml (qi F)) ∧ (¬ (¬ x1 = 0) → ((¬ ((mi 1 4) &&& 1) = 0) → F 1 mi ml) ∧ (¬ (¬ ((mi 1 4) &&& 1) = 0) → Sg 8 13 [some (.ref 1), some (.int x1), some (.int x2)] [] mi ml (qi F)))) : Sg 8 0 [some (.ref 1), some (.int x1), some (.int x2)] [] mi ml (qi F) := by
  refine sg_ld f8_0 (v := .int x1) rfl rfl ?_
  refine sg_if f8_1 (fun c => ?_) (fun c => ?_)
  · have h := h.1 c
    exact h
  · have h := h.2 c
    refine sg_ld f8_4 (v := .ref 1) rfl rfl ?_
    refine sg_geti f8_5 rfl rfl (x := (mi 1 4)) rfl ?_
    refine sg_psh f8_8 (v := .int 1) (by decide) ?_
    refine sg_bin f8_9 rfl ?_
    refine sg_if f8_10 (fun c => ?_) (fun c => ?_)
    · have h := h.1 c
      refine sg_psh f8_65 (v := .int 1) (by decide) ?_
      refine sg_goto f8_66 ?_
      exact sg_iret f8_70 pq8 rfl (by decide) ⟨_, rfl, h⟩
    · have h := h.2 c
      exact h

set_option maxRecDepth 10000 in
theorem rg8_13 {mi : Mi} {ml : Ml} {F : Int32 → Mi → Ml → Prop} {x1 : Int32} {x2 : Int32}  (h : ((¬ x2 = 0) → Sg 8 26 [some (.ref 1), some (.int x1), some (.int x2)] [] mi ml (qi F)) ∧ (¬ (¬ x2 = 0) → ((¬ ((mi 1 4) &&& 2) = 0) → F 1 mi ml) ∧ (¬ (¬ ((mi 1 4) &&& 2) = 0) → Sg 8 26 [some (.ref 1), some (.int x1), some (.int x2)] [] mi ml (qi F)))) : Sg 8 13 [some (.ref 1), some (.int x1), some (.int x2)] [] mi ml (qi F) := by
  refine sg_ld f8_13 (v := .int x2) rfl rfl ?_
  refine sg_if f8_14 (fun c => ?_) (fun c => ?_)
  · have h := h.1 c
    exact h
  · have h := h.2 c
    refine sg_ld f8_17 (v := .ref 1) rfl rfl ?_
    refine sg_geti f8_18 rfl rfl (x := (mi 1 4)) rfl ?_
    refine sg_psh f8_21 (v := .int 2) (by decide) ?_
    refine sg_bin f8_22 rfl ?_
    refine sg_if f8_23 (fun c => ?_) (fun c => ?_)
    · have h := h.1 c
      refine sg_psh f8_65 (v := .int 1) (by decide) ?_
      refine sg_goto f8_66 ?_
      exact sg_iret f8_70 pq8 rfl (by decide) ⟨_, rfl, h⟩
    · have h := h.2 c
      exact h

set_option maxRecDepth 10000 in
theorem rg8_26 {mi : Mi} {ml : Ml} {F : Int32 → Mi → Ml → Prop} {x1 : Int32} {x2 : Int32}  (h : ((¬ x1 = ((mi 1 1) - 1)) → Sg 8 45 [some (.ref 1), some (.int x1), some (.int x2)] [] mi ml (qi F)) ∧ (¬ (¬ x1 = ((mi 1 1) - 1)) → ((¬ ((mi 1 4) &&& 4) = 0) → F 1 mi ml) ∧ (¬ (¬ ((mi 1 4) &&& 4) = 0) → Sg 8 45 [some (.ref 1), some (.int x1), some (.int x2)] [] mi ml (qi F)))) : Sg 8 26 [some (.ref 1), some (.int x1), some (.int x2)] [] mi ml (qi F) := by
  refine sg_ld f8_26 (v := .int x1) rfl rfl ?_
  refine sg_ld f8_27 (v := .ref 1) rfl rfl ?_
  refine sg_geti f8_28 rfl rfl (x := (mi 1 1)) rfl ?_
  refine sg_psh f8_31 (v := .int 1) (by decide) ?_
  refine sg_bin f8_32 rfl ?_
  refine sg_icmp f8_33 (fun c => ?_) (fun c => ?_)
  · have h := h.1 c
    exact h
  · have h := h.2 c
    refine sg_ld f8_36 (v := .ref 1) rfl rfl ?_
    refine sg_geti f8_37 rfl rfl (x := (mi 1 4)) rfl ?_
    refine sg_psh f8_40 (v := .int 4) (by decide) ?_
    refine sg_bin f8_41 rfl ?_
    refine sg_if f8_42 (fun c => ?_) (fun c => ?_)
    · have h := h.1 c
      refine sg_psh f8_65 (v := .int 1) (by decide) ?_
      refine sg_goto f8_66 ?_
      exact sg_iret f8_70 pq8 rfl (by decide) ⟨_, rfl, h⟩
    · have h := h.2 c
      exact h

set_option maxRecDepth 10000 in
theorem rg8_45 {mi : Mi} {ml : Ml} {F : Int32 → Mi → Ml → Prop} {x1 : Int32} {x2 : Int32}  (h : ((¬ x2 = ((mi 1 0) - 1)) → F 0 mi ml) ∧ (¬ (¬ x2 = ((mi 1 0) - 1)) → ((((mi 1 4) &&& 8) = 0) → F 0 mi ml) ∧ (¬ (((mi 1 4) &&& 8) = 0) → F 1 mi ml))) : Sg 8 45 [some (.ref 1), some (.int x1), some (.int x2)] [] mi ml (qi F) := by
  refine sg_ld f8_45 (v := .int x2) rfl rfl ?_
  refine sg_ld f8_46 (v := .ref 1) rfl rfl ?_
  refine sg_geti f8_47 rfl rfl (x := (mi 1 0)) rfl ?_
  refine sg_psh f8_50 (v := .int 1) (by decide) ?_
  refine sg_bin f8_51 rfl ?_
  refine sg_icmp f8_52 (fun c => ?_) (fun c => ?_)
  · have h := h.1 c
    refine sg_psh f8_69 (v := .int 0) (by decide) ?_
    exact sg_iret f8_70 pq8 rfl (by decide) ⟨_, rfl, h⟩
  · have h := h.2 c
    refine sg_ld f8_55 (v := .ref 1) rfl rfl ?_
    refine sg_geti f8_56 rfl rfl (x := (mi 1 4)) rfl ?_
    refine sg_psh f8_59 (v := .int 8) (by decide) ?_
    refine sg_bin f8_61 rfl ?_
    refine sg_if f8_62 (fun c => ?_) (fun c => ?_)
    · have h := h.1 c
      refine sg_psh f8_69 (v := .int 0) (by decide) ?_
      exact sg_iret f8_70 pq8 rfl (by decide) ⟨_, rfl, h⟩
    · have h := h.2 c
      refine sg_psh f8_65 (v := .int 1) (by decide) ?_
      refine sg_goto f8_66 ?_
      exact sg_iret f8_70 pq8 rfl (by decide) ⟨_, rfl, h⟩

/-! X0_numberOf (II)I -/
theorem fe9 (pc : Nat) : gm_fetch 9 pc = gm_find pc cd_9 := rfl
theorem f9_0 : gm_fetch 9 0 = some (1, .iload_n 2, 0, 0, 0, 0) := (fe9 0).trans rfl
theorem f9_1 : gm_fetch 9 1 = some (2, .aload_n 0, 0, 0, 0, 0) := (fe9 1).trans rfl
theorem f9_2 : gm_fetch 9 2 = some (5, .getfield 15, 5, 0, 1, 0) := (fe9 2).trans rfl
theorem f9_5 : gm_fetch 9 5 = some (6, .imul, 0, 0, 0, 0) := (fe9 5).trans rfl
theorem f9_6 : gm_fetch 9 6 = some (7, .iload_n 1, 0, 0, 0, 0) := (fe9 6).trans rfl
theorem f9_7 : gm_fetch 9 7 = some (8, .iadd, 0, 0, 0, 0) := (fe9 7).trans rfl
theorem f9_8 : gm_fetch 9 8 = some (9, .ireturn, 0, 0, 0, 0) := (fe9 8).trans rfl
set_option maxRecDepth 10000 in
theorem rg9_0 {mi : Mi} {ml : Ml} {F : Int32 → Mi → Ml → Prop} {x1 : Int32} {x2 : Int32}  (h : F ((x2 * (mi 1 1)) + x1) mi ml) : Sg 9 0 [some (.ref 1), some (.int x1), some (.int x2)] [] mi ml (qi F) := by
  refine sg_ld f9_0 (v := .int x2) rfl rfl ?_
  refine sg_ld f9_1 (v := .ref 1) rfl rfl ?_
  refine sg_geti f9_2 rfl rfl (x := (mi 1 1)) rfl ?_
  refine sg_bin f9_5 rfl ?_
  refine sg_ld f9_6 (v := .int x1) rfl rfl ?_
  refine sg_bin f9_7 rfl ?_
  exact sg_iret f9_8 pq9 rfl rfl ⟨_, rfl, h⟩

/-! X0_cellCount ()I -/
theorem fe10 (pc : Nat) : gm_fetch 10 pc = gm_find pc cd_10 := rfl
theorem f10_0 : gm_fetch 10 0 = some (1, .aload_n 0, 0, 0, 0, 0) := (fe10 0).trans rfl
theorem f10_1 : gm_fetch 10 1 = some (4, .getfield 9, 0, 0, 0, 0) := (fe10 1).trans rfl
theorem f10_4 : gm_fetch 10 4 = some (5, .aload_n 0, 0, 0, 0, 0) := (fe10 4).trans rfl
theorem f10_5 : gm_fetch 10 5 = some (8, .getfield 15, 5, 0, 1, 0) := (fe10 5).trans rfl
theorem f10_8 : gm_fetch 10 8 = some (9, .imul, 0, 0, 0, 0) := (fe10 8).trans rfl
theorem f10_9 : gm_fetch 10 9 = some (10, .ireturn, 0, 0, 0, 0) := (fe10 9).trans rfl
set_option maxRecDepth 10000 in
theorem rg10_0 {mi : Mi} {ml : Ml} {F : Int32 → Mi → Ml → Prop}   (h : F ((mi 1 0) * (mi 1 1)) mi ml) : Sg 10 0 [some (.ref 1)] [] mi ml (qi F) := by
  refine sg_ld f10_0 (v := .ref 1) rfl rfl ?_
  refine sg_geti f10_1 rfl rfl (x := (mi 1 0)) rfl ?_
  refine sg_ld f10_4 (v := .ref 1) rfl rfl ?_
  refine sg_geti f10_5 rfl rfl (x := (mi 1 1)) rfl ?_
  refine sg_bin f10_8 rfl ?_
  exact sg_iret f10_9 pq10 rfl rfl ⟨_, rfl, h⟩

/-! X0_faultyCount ()I -/
theorem fe11 (pc : Nat) : gm_fetch 11 pc = gm_find pc cd_11 := rfl
theorem f11_0 : gm_fetch 11 0 = some (1, .iconst 0, 0, 0, 0, 0) := (fe11 0).trans rfl
theorem f11_1 : gm_fetch 11 1 = some (2, .istore_n 1, 0, 0, 0, 0) := (fe11 1).trans rfl
theorem f11_2 : gm_fetch 11 2 = some (3, .iconst 0, 0, 0, 0, 0) := (fe11 2).trans rfl
theorem f11_3 : gm_fetch 11 3 = some (4, .istore_n 2, 0, 0, 0, 0) := (fe11 3).trans rfl
theorem f11_4 : gm_fetch 11 4 = some (5, .iload_n 2, 0, 0, 0, 0) := (fe11 4).trans rfl
theorem f11_5 : gm_fetch 11 5 = some (6, .aload_n 0, 0, 0, 0, 0) := (fe11 5).trans rfl
theorem f11_6 : gm_fetch 11 6 = some (9, .getfield 9, 0, 0, 0, 0) := (fe11 6).trans rfl
theorem f11_9 : gm_fetch 11 9 = some (12, .if_icmp .ge 21, 0, 30, 0, 0) := (fe11 9).trans rfl
theorem f11_12 : gm_fetch 11 12 = some (13, .iload_n 1, 0, 0, 0, 0) := (fe11 12).trans rfl
theorem f11_13 : gm_fetch 11 13 = some (14, .aload_n 0, 0, 0, 0, 0) := (fe11 13).trans rfl
theorem f11_14 : gm_fetch 11 14 = some (17, .getfield 30, 23, 0, 6, 0) := (fe11 14).trans rfl
theorem f11_17 : gm_fetch 11 17 = some (18, .iload_n 2, 0, 0, 0, 0) := (fe11 17).trans rfl
theorem f11_18 : gm_fetch 11 18 = some (19, .iaload, 0, 0, 0, 0) := (fe11 18).trans rfl
theorem f11_19 : gm_fetch 11 19 = some (22, .invokestatic 50, 30, 194, 0, 0) := (fe11 19).trans rfl
theorem f11_22 : gm_fetch 11 22 = some (23, .iadd, 0, 0, 0, 0) := (fe11 22).trans rfl
theorem f11_23 : gm_fetch 11 23 = some (24, .istore_n 1, 0, 0, 0, 0) := (fe11 23).trans rfl
theorem f11_24 : gm_fetch 11 24 = some (27, .iinc 2 1, 0, 0, 0, 0) := (fe11 24).trans rfl
theorem f11_27 : gm_fetch 11 27 = some (30, .goto (-23), 0, 4, 0, 0) := (fe11 27).trans rfl
theorem f11_30 : gm_fetch 11 30 = some (31, .iload_n 1, 0, 0, 0, 0) := (fe11 30).trans rfl
theorem f11_31 : gm_fetch 11 31 = some (32, .ireturn, 0, 0, 0, 0) := (fe11 31).trans rfl
set_option maxRecDepth 10000 in
theorem rg11_0 {mi : Mi} {ml : Ml} {F : Int32 → Mi → Ml → Prop}   (h : Sg 11 4 [some (.ref 1), some (.int 0), some (.int 0)] [] mi ml (qi F)) : Sg 11 0 [some (.ref 1), none, none] [] mi ml (qi F) := by
  refine sg_psh f11_0 (v := .int 0) (by decide) ?_
  refine sg_st1 f11_1 (ls' := [some (.ref 1), some (.int 0), none]) rfl rfl rfl rfl ?_
  refine sg_psh f11_2 (v := .int 0) (by decide) ?_
  refine sg_st1 f11_3 (ls' := [some (.ref 1), some (.int 0), some (.int 0)]) rfl rfl rfl rfl ?_
  exact h

set_option maxRecDepth 10000 in
theorem rg11_4 {mi : Mi} {ml : Ml} {F : Int32 → Mi → Ml → Prop} {x1 : Int32} {x2 : Int32}  (h : (((mi 1 0) ≤ x2) → F x1 mi ml) ∧ (¬ ((mi 1 0) ≤ x2) → (vp_in x2 7) ∧ (Sg 194 0 [some (.int (mi 2 (Int32.toNatClampNeg x2)))] [] mi ml (qi fun y2 mi3 ml4 => Sg 11 4 [some (.ref 1), some (.int (x1 + y2)), some (.int (x2 + 1))] [] mi3 ml4 (qi F))))) : Sg 11 4 [some (.ref 1), some (.int x1), some (.int x2)] [] mi ml (qi F) := by
  refine sg_ld f11_4 (v := .int x2) rfl rfl ?_
  refine sg_ld f11_5 (v := .ref 1) rfl rfl ?_
  refine sg_geti f11_6 rfl rfl (x := (mi 1 0)) rfl ?_
  refine sg_icmp f11_9 (fun c => ?_) (fun c => ?_)
  · have h := h.1 c
    refine sg_ld f11_30 (v := .int x1) rfl rfl ?_
    exact sg_iret f11_31 pq11 rfl rfl ⟨_, rfl, h⟩
  · have h := h.2 c
    refine sg_ld f11_12 (v := .int x1) rfl rfl ?_
    refine sg_ld f11_13 (v := .ref 1) rfl rfl ?_
    refine sg_getr f11_14 rfl rfl (w := 2) rfl ?_
    refine sg_ld f11_17 (v := .int x2) rfl rfl ?_
    obtain ⟨e1, h⟩ := h
    refine sg_iald f11_18 rfl e1 (x := (mi 2 (Int32.toNatClampNeg x2))) rfl ?_
    refine sg_cS f11_19 (vs := [.int (mi 2 (Int32.toNatClampNeg x2))]) (rest := [.int x1]) (en := [some (.int (mi 2 (Int32.toNatClampNeg x2)))]) (by decide) pq194 ⟨rfl, rfl⟩ rfl rfl rfl rfl rfl h ?_
    rintro _ mi3 ml4 ⟨y2, rfl, h⟩
    refine sg_bin f11_22 rfl ?_
    refine sg_st1 f11_23 (ls' := [some (.ref 1), some (.int (x1 + y2)), some (.int x2)]) rfl rfl rfl rfl ?_
    refine sg_inc f11_24 (d := 1) (ls' := [some (.ref 1), some (.int (x1 + y2)), some (.int (x2 + 1))]) rfl (by decide) rfl ?_
    refine sg_goto f11_27 ?_
    exact h

/-! X2_become (LGridMender$Laying;)V -/
theorem fe25 (pc : Nat) : gm_fetch 25 pc = gm_find pc cd_25 := rfl
theorem f25_0 : gm_fetch 25 0 = some (1, .aload_n 0, 0, 0, 0, 0) := (fe25 0).trans rfl
theorem f25_1 : gm_fetch 25 1 = some (2, .aload_n 1, 0, 0, 0, 0) := (fe25 1).trans rfl
theorem f25_2 : gm_fetch 25 2 = some (5, .getfield 15, 60, 2, 0, 0) := (fe25 2).trans rfl
theorem f25_5 : gm_fetch 25 5 = some (8, .putfield 15, 60, 2, 0, 0) := (fe25 5).trans rfl
theorem f25_8 : gm_fetch 25 8 = some (9, .aload_n 0, 0, 0, 0, 0) := (fe25 8).trans rfl
theorem f25_9 : gm_fetch 25 9 = some (10, .aload_n 1, 0, 0, 0, 0) := (fe25 9).trans rfl
theorem f25_10 : gm_fetch 25 10 = some (13, .getfield 19, 62, 2, 1, 0) := (fe25 10).trans rfl
theorem f25_13 : gm_fetch 25 13 = some (16, .putfield 19, 62, 2, 1, 0) := (fe25 13).trans rfl
theorem f25_16 : gm_fetch 25 16 = some (17, .aload_n 0, 0, 0, 0, 0) := (fe25 16).trans rfl
theorem f25_17 : gm_fetch 25 17 = some (18, .aload_n 1, 0, 0, 0, 0) := (fe25 17).trans rfl
theorem f25_18 : gm_fetch 25 18 = some (21, .getfield 23, 63, 2, 2, 0) := (fe25 18).trans rfl
theorem f25_21 : gm_fetch 25 21 = some (24, .putfield 23, 63, 2, 2, 0) := (fe25 21).trans rfl
theorem f25_24 : gm_fetch 25 24 = some (25, .aload_n 0, 0, 0, 0, 0) := (fe25 24).trans rfl
theorem f25_25 : gm_fetch 25 25 = some (26, .aload_n 1, 0, 0, 0, 0) := (fe25 25).trans rfl
theorem f25_26 : gm_fetch 25 26 = some (29, .getfield 26, 64, 2, 3, 0) := (fe25 26).trans rfl
theorem f25_29 : gm_fetch 25 29 = some (32, .putfield 26, 64, 2, 3, 0) := (fe25 29).trans rfl
theorem f25_32 : gm_fetch 25 32 = some (33, .aload_n 1, 0, 0, 0, 0) := (fe25 32).trans rfl
theorem f25_33 : gm_fetch 25 33 = some (36, .getfield 9, 65, 2, 4, 0) := (fe25 33).trans rfl
theorem f25_36 : gm_fetch 25 36 = some (37, .iconst 0, 0, 0, 0, 0) := (fe25 36).trans rfl
theorem f25_37 : gm_fetch 25 37 = some (38, .aload_n 0, 0, 0, 0, 0) := (fe25 37).trans rfl
theorem f25_38 : gm_fetch 25 38 = some (41, .getfield 9, 65, 2, 4, 0) := (fe25 38).trans rfl
theorem f25_41 : gm_fetch 25 41 = some (42, .iconst 0, 0, 0, 0, 0) := (fe25 41).trans rfl
theorem f25_42 : gm_fetch 25 42 = some (44, .bipush 7, 0, 0, 0, 0) := (fe25 42).trans rfl
theorem f25_44 : gm_fetch 25 44 = some (47, .invokestatic 29, 119, 0, 2, 0) := (fe25 44).trans rfl
theorem f25_47 : gm_fetch 25 47 = some (48, .return_, 0, 0, 0, 0) := (fe25 47).trans rfl
set_option maxRecDepth 10000 in
theorem rg25_0 {mi : Mi} {ml : Ml} {F : Mi → Ml → Prop} {rx0 : Nat} {rx1 : Nat} (hrx0 : isY rx0) (hrx1 : isY rx1) (h : ((mi rx1 0) = 0 ∨ (mi rx1 0) = 1) ∧ (F (va_up (va_up mi rx0 (va_up (va_up (va_up (va_up (mi rx0) 0 (mi rx1 0)) 1 ((va_up mi rx0 (va_up (mi rx0) 0 (mi rx1 0))) rx1 1)) 2 ((va_up mi rx0 (va_up (va_up (mi rx0) 0 (mi rx1 0)) 1 ((va_up mi rx0 (va_up (mi rx0) 0 (mi rx1 0))) rx1 1))) rx1 2)) 3 ((va_up mi rx0 (va_up (va_up (va_up (mi rx0) 0 (mi rx1 0)) 1 ((va_up mi rx0 (va_up (mi rx0) 0 (mi rx1 0))) rx1 1)) 2 ((va_up mi rx0 (va_up (va_up (mi rx0) 0 (mi rx1 0)) 1 ((va_up mi rx0 (va_up (mi rx0) 0 (mi rx1 0))) rx1 1))) rx1 2))) rx1 3))) (rx0 + 1) (va_cpy ((va_up mi rx0 (va_up (va_up (va_up (va_up (mi rx0) 0 (mi rx1 0)) 1 ((va_up mi rx0 (va_up (mi rx0) 0 (mi rx1 0))) rx1 1)) 2 ((va_up mi rx0 (va_up (va_up (mi rx0) 0 (mi rx1 0)) 1 ((va_up mi rx0 (va_up (mi rx0) 0 (mi rx1 0))) rx1 1))) rx1 2)) 3 ((va_up mi rx0 (va_up (va_up (va_up (mi rx0) 0 (mi rx1 0)) 1 ((va_up mi rx0 (va_up (mi rx0) 0 (mi rx1 0))) rx1 1)) 2 ((va_up mi rx0 (va_up (va_up (mi rx0) 0 (mi rx1 0)) 1 ((va_up mi rx0 (va_up (mi rx0) 0 (mi rx1 0))) rx1 1))) rx1 2))) rx1 3))) (rx1 + 1)) ((va_up mi rx0 (va_up (va_up (va_up (va_up (mi rx0) 0 (mi rx1 0)) 1 ((va_up mi rx0 (va_up (mi rx0) 0 (mi rx1 0))) rx1 1)) 2 ((va_up mi rx0 (va_up (va_up (mi rx0) 0 (mi rx1 0)) 1 ((va_up mi rx0 (va_up (mi rx0) 0 (mi rx1 0))) rx1 1))) rx1 2)) 3 ((va_up mi rx0 (va_up (va_up (va_up (mi rx0) 0 (mi rx1 0)) 1 ((va_up mi rx0 (va_up (mi rx0) 0 (mi rx1 0))) rx1 1)) 2 ((va_up mi rx0 (va_up (va_up (mi rx0) 0 (mi rx1 0)) 1 ((va_up mi rx0 (va_up (mi rx0) 0 (mi rx1 0))) rx1 1))) rx1 2))) rx1 3))) (rx0 + 1)) (Int32.toNatClampNeg 0) (Int32.toNatClampNeg 0) (Int32.toNatClampNeg 7))) ml)) : Sg 25 0 [some (.ref rx0), some (.ref rx1)] [] mi ml (qv F) := by
  refine sg_ld f25_0 (v := .ref rx0) rfl rfl ?_
  refine sg_ld f25_1 (v := .ref rx1) rfl rfl ?_
  refine sg_geti f25_2 hrx1.1 rfl (x := (mi rx1 0)) rfl ?_
  obtain ⟨e1, h⟩ := h
  refine sg_puti f25_5 hrx0.1 rfl rfl (fun _ => e1) ?_
  refine sg_ld f25_8 (v := .ref rx0) rfl rfl ?_
  refine sg_ld f25_9 (v := .ref rx1) rfl rfl ?_
  refine sg_geti f25_10 hrx1.1 rfl (x := ((va_up mi rx0 (va_up (mi rx0) 0 (mi rx1 0))) rx1 1)) (by simp [va_up]) ?_
  refine sg_puti2 f25_13 hrx0.1 rfl rfl (fun hz => by cases hz) ?_
  refine sg_ld f25_16 (v := .ref rx0) rfl rfl ?_
  refine sg_ld f25_17 (v := .ref rx1) rfl rfl ?_
  refine sg_geti f25_18 hrx1.1 rfl (x := ((va_up mi rx0 (va_up (va_up (mi rx0) 0 (mi rx1 0)) 1 ((va_up mi rx0 (va_up (mi rx0) 0 (mi rx1 0))) rx1 1))) rx1 2)) (by simp [va_up]) ?_
  refine sg_puti2 f25_21 hrx0.1 rfl rfl (fun hz => by cases hz) ?_
  refine sg_ld f25_24 (v := .ref rx0) rfl rfl ?_
  refine sg_ld f25_25 (v := .ref rx1) rfl rfl ?_
  refine sg_geti f25_26 hrx1.1 rfl (x := ((va_up mi rx0 (va_up (va_up (va_up (mi rx0) 0 (mi rx1 0)) 1 ((va_up mi rx0 (va_up (mi rx0) 0 (mi rx1 0))) rx1 1)) 2 ((va_up mi rx0 (va_up (va_up (mi rx0) 0 (mi rx1 0)) 1 ((va_up mi rx0 (va_up (mi rx0) 0 (mi rx1 0))) rx1 1))) rx1 2))) rx1 3)) (by simp [va_up]) ?_
  refine sg_puti2 f25_29 hrx0.1 rfl rfl (fun hz => by cases hz) ?_
  refine sg_ld f25_32 (v := .ref rx1) rfl rfl ?_
  refine sg_getr f25_33 hrx1.1 rfl (w := rx1 + 1) hrx1.2.1 ?_
  refine sg_psh f25_36 (v := .int 0) (by decide) ?_
  refine sg_ld f25_37 (v := .ref rx0) rfl rfl ?_
  refine sg_getr f25_38 hrx0.1 rfl (w := rx0 + 1) hrx0.2.1 ?_
  refine sg_psh f25_41 (v := .int 0) (by decide) ?_
  refine sg_psh f25_42 (v := .int 7) (by decide) ?_
  refine sg_cpi f25_44 hrx1.2.2 hrx0.2.2 (by decide) (by decide) (by decide) (by decide) (by decide) rfl ?_
  exact sg_ret f25_47 pq25 rfl h

/-! X2_beginOn (LGridMender$Board;)V -/
theorem fe26 (pc : Nat) : gm_fetch 26 pc = gm_find pc cd_26 := rfl
theorem f26_0 : gm_fetch 26 0 = some (1, .aload_n 0, 0, 0, 0, 0) := (fe26 0).trans rfl
theorem f26_1 : gm_fetch 26 1 = some (2, .iconst 1, 0, 0, 0, 0) := (fe26 1).trans rfl
theorem f26_2 : gm_fetch 26 2 = some (5, .putfield 15, 60, 2, 0, 0) := (fe26 2).trans rfl
theorem f26_5 : gm_fetch 26 5 = some (6, .aload_n 0, 0, 0, 0, 0) := (fe26 5).trans rfl
theorem f26_6 : gm_fetch 26 6 = some (7, .aload_n 1, 0, 0, 0, 0) := (fe26 6).trans rfl
theorem f26_7 : gm_fetch 26 7 = some (10, .getfield 35, 2, 0, 0, 0) := (fe26 7).trans rfl
theorem f26_10 : gm_fetch 26 10 = some (13, .putfield 19, 62, 2, 1, 0) := (fe26 10).trans rfl
theorem f26_13 : gm_fetch 26 13 = some (14, .aload_n 0, 0, 0, 0, 0) := (fe26 13).trans rfl
theorem f26_14 : gm_fetch 26 14 = some (15, .aload_n 1, 0, 0, 0, 0) := (fe26 14).trans rfl
theorem f26_15 : gm_fetch 26 15 = some (18, .getfield 38, 8, 0, 1, 0) := (fe26 15).trans rfl
theorem f26_18 : gm_fetch 26 18 = some (21, .putfield 23, 63, 2, 2, 0) := (fe26 18).trans rfl
theorem f26_21 : gm_fetch 26 21 = some (22, .aload_n 0, 0, 0, 0, 0) := (fe26 21).trans rfl
theorem f26_22 : gm_fetch 26 22 = some (23, .aload_n 1, 0, 0, 0, 0) := (fe26 22).trans rfl
theorem f26_23 : gm_fetch 26 23 = some (26, .getfield 39, 13, 0, 2, 0) := (fe26 23).trans rfl
theorem f26_26 : gm_fetch 26 26 = some (29, .putfield 26, 64, 2, 3, 0) := (fe26 26).trans rfl
theorem f26_29 : gm_fetch 26 29 = some (30, .return_, 0, 0, 0, 0) := (fe26 29).trans rfl
set_option maxRecDepth 10000 in
theorem rg26_0 {mi : Mi} {ml : Ml} {F : Mi → Ml → Prop} {rx0 : Nat} (hrx0 : isY rx0) (h : F (va_up mi rx0 (va_up (va_up (va_up (va_up (mi rx0) 0 1) 1 ((va_up mi rx0 (va_up (mi rx0) 0 1)) 1 0)) 2 ((va_up mi rx0 (va_up (va_up (mi rx0) 0 1) 1 ((va_up mi rx0 (va_up (mi rx0) 0 1)) 1 0))) 1 1)) 3 ((va_up mi rx0 (va_up (va_up (va_up (mi rx0) 0 1) 1 ((va_up mi rx0 (va_up (mi rx0) 0 1)) 1 0)) 2 ((va_up mi rx0 (va_up (va_up (mi rx0) 0 1) 1 ((va_up mi rx0 (va_up (mi rx0) 0 1)) 1 0))) 1 1))) 1 2))) ml) : Sg 26 0 [some (.ref rx0), some (.ref 1)] [] mi ml (qv F) := by
  refine sg_ld f26_0 (v := .ref rx0) rfl rfl ?_
  refine sg_psh f26_1 (v := .int 1) (by decide) ?_
  refine sg_puti f26_2 hrx0.1 rfl rfl (fun _ => by decide) ?_
  refine sg_ld f26_5 (v := .ref rx0) rfl rfl ?_
  refine sg_ld f26_6 (v := .ref 1) rfl rfl ?_
  refine sg_geti f26_7 rfl rfl (x := ((va_up mi rx0 (va_up (mi rx0) 0 1)) 1 0)) rfl ?_
  refine sg_puti2 f26_10 hrx0.1 rfl rfl (fun hz => by cases hz) ?_
  refine sg_ld f26_13 (v := .ref rx0) rfl rfl ?_
  refine sg_ld f26_14 (v := .ref 1) rfl rfl ?_
  refine sg_geti f26_15 rfl rfl (x := ((va_up mi rx0 (va_up (va_up (mi rx0) 0 1) 1 ((va_up mi rx0 (va_up (mi rx0) 0 1)) 1 0))) 1 1)) rfl ?_
  refine sg_puti2 f26_18 hrx0.1 rfl rfl (fun hz => by cases hz) ?_
  refine sg_ld f26_21 (v := .ref rx0) rfl rfl ?_
  refine sg_ld f26_22 (v := .ref 1) rfl rfl ?_
  refine sg_geti f26_23 rfl rfl (x := ((va_up mi rx0 (va_up (va_up (va_up (mi rx0) 0 1) 1 ((va_up mi rx0 (va_up (mi rx0) 0 1)) 1 0)) 2 ((va_up mi rx0 (va_up (va_up (mi rx0) 0 1) 1 ((va_up mi rx0 (va_up (mi rx0) 0 1)) 1 0))) 1 1))) 1 2)) rfl ?_
  refine sg_puti2 f26_26 hrx0.1 rfl rfl (fun hz => by cases hz) ?_
  exact sg_ret f26_29 pq26 rfl h

/-! X2_suits (LGridMender$Board;)Z -/
theorem fe27 (pc : Nat) : gm_fetch 27 pc = gm_find pc cd_27 := rfl
theorem f27_0 : gm_fetch 27 0 = some (1, .aload_n 0, 0, 0, 0, 0) := (fe27 0).trans rfl
theorem f27_1 : gm_fetch 27 1 = some (4, .getfield 19, 62, 2, 1, 0) := (fe27 1).trans rfl
theorem f27_4 : gm_fetch 27 4 = some (5, .aload_n 1, 0, 0, 0, 0) := (fe27 4).trans rfl
theorem f27_5 : gm_fetch 27 5 = some (8, .getfield 35, 2, 0, 0, 0) := (fe27 5).trans rfl
theorem f27_8 : gm_fetch 27 8 = some (11, .if_icmp .ne 29, 0, 37, 0, 0) := (fe27 8).trans rfl
theorem f27_11 : gm_fetch 27 11 = some (12, .aload_n 0, 0, 0, 0, 0) := (fe27 11).trans rfl
theorem f27_12 : gm_fetch 27 12 = some (15, .getfield 23, 63, 2, 2, 0) := (fe27 12).trans rfl
theorem f27_15 : gm_fetch 27 15 = some (16, .aload_n 1, 0, 0, 0, 0) := (fe27 15).trans rfl
theorem f27_16 : gm_fetch 27 16 = some (19, .getfield 38, 8, 0, 1, 0) := (fe27 16).trans rfl
theorem f27_19 : gm_fetch 27 19 = some (22, .if_icmp .ne 18, 0, 37, 0, 0) := (fe27 19).trans rfl
theorem f27_22 : gm_fetch 27 22 = some (23, .aload_n 0, 0, 0, 0, 0) := (fe27 22).trans rfl
theorem f27_23 : gm_fetch 27 23 = some (26, .getfield 26, 64, 2, 3, 0) := (fe27 23).trans rfl
theorem f27_26 : gm_fetch 27 26 = some (27, .aload_n 1, 0, 0, 0, 0) := (fe27 26).trans rfl
theorem f27_27 : gm_fetch 27 27 = some (30, .getfield 39, 13, 0, 2, 0) := (fe27 27).trans rfl
theorem f27_30 : gm_fetch 27 30 = some (33, .if_icmp .ne 7, 0, 37, 0, 0) := (fe27 30).trans rfl
theorem f27_33 : gm_fetch 27 33 = some (34, .iconst 1, 0, 0, 0, 0) := (fe27 33).trans rfl
theorem f27_34 : gm_fetch 27 34 = some (37, .goto 4, 0, 38, 0, 0) := (fe27 34).trans rfl
theorem f27_37 : gm_fetch 27 37 = some (38, .iconst 0, 0, 0, 0, 0) := (fe27 37).trans rfl
theorem f27_38 : gm_fetch 27 38 = some (39, .ireturn, 0, 0, 0, 0) := (fe27 38).trans rfl
set_option maxRecDepth 10000 in
theorem rg27_0 {mi : Mi} {ml : Ml} {F : Int32 → Mi → Ml → Prop} {rx0 : Nat} (hrx0 : isY rx0) (h : ((¬ (mi rx0 1) = (mi 1 0)) → F 0 mi ml) ∧ (¬ (¬ (mi rx0 1) = (mi 1 0)) → ((¬ (mi rx0 2) = (mi 1 1)) → F 0 mi ml) ∧ (¬ (¬ (mi rx0 2) = (mi 1 1)) → ((¬ (mi rx0 3) = (mi 1 2)) → F 0 mi ml) ∧ (¬ (¬ (mi rx0 3) = (mi 1 2)) → F 1 mi ml)))) : Sg 27 0 [some (.ref rx0), some (.ref 1)] [] mi ml (qi F) := by
  refine sg_ld f27_0 (v := .ref rx0) rfl rfl ?_
  refine sg_geti f27_1 hrx0.1 rfl (x := (mi rx0 1)) rfl ?_
  refine sg_ld f27_4 (v := .ref 1) rfl rfl ?_
  refine sg_geti f27_5 rfl rfl (x := (mi 1 0)) rfl ?_
  refine sg_icmp f27_8 (fun c => ?_) (fun c => ?_)
  · have h := h.1 c
    refine sg_psh f27_37 (v := .int 0) (by decide) ?_
    exact sg_iret f27_38 pq27 rfl (by decide) ⟨_, rfl, h⟩
  · have h := h.2 c
    refine sg_ld f27_11 (v := .ref rx0) rfl rfl ?_
    refine sg_geti f27_12 hrx0.1 rfl (x := (mi rx0 2)) rfl ?_
    refine sg_ld f27_15 (v := .ref 1) rfl rfl ?_
    refine sg_geti f27_16 rfl rfl (x := (mi 1 1)) rfl ?_
    refine sg_icmp f27_19 (fun c => ?_) (fun c => ?_)
    · have h := h.1 c
      refine sg_psh f27_37 (v := .int 0) (by decide) ?_
      exact sg_iret f27_38 pq27 rfl (by decide) ⟨_, rfl, h⟩
    · have h := h.2 c
      refine sg_ld f27_22 (v := .ref rx0) rfl rfl ?_
      refine sg_geti f27_23 hrx0.1 rfl (x := (mi rx0 3)) rfl ?_
      refine sg_ld f27_26 (v := .ref 1) rfl rfl ?_
      refine sg_geti f27_27 rfl rfl (x := (mi 1 2)) rfl ?_
      refine sg_icmp f27_30 (fun c => ?_) (fun c => ?_)
      · have h := h.1 c
        refine sg_psh f27_37 (v := .int 0) (by decide) ?_
        exact sg_iret f27_38 pq27 rfl (by decide) ⟨_, rfl, h⟩
      · have h := h.2 c
        refine sg_psh f27_33 (v := .int 1) (by decide) ?_
        refine sg_goto f27_34 ?_
        exact sg_iret f27_38 pq27 rfl (by decide) ⟨_, rfl, h⟩

/-! X2_seatOrFirst (II)I -/
theorem fe28 (pc : Nat) : gm_fetch 28 pc = gm_find pc cd_28 := rfl
theorem f28_0 : gm_fetch 28 0 = some (1, .aload_n 0, 0, 0, 0, 0) := (fe28 0).trans rfl
theorem f28_1 : gm_fetch 28 1 = some (4, .getfield 15, 60, 2, 0, 0) := (fe28 1).trans rfl
theorem f28_4 : gm_fetch 28 4 = some (7, .ifCond .eq 12, 0, 16, 0, 0) := (fe28 4).trans rfl
theorem f28_7 : gm_fetch 28 7 = some (8, .aload_n 0, 0, 0, 0, 0) := (fe28 7).trans rfl
theorem f28_8 : gm_fetch 28 8 = some (11, .getfield 9, 65, 2, 4, 0) := (fe28 8).trans rfl
theorem f28_11 : gm_fetch 28 11 = some (12, .iload_n 1, 0, 0, 0, 0) := (fe28 11).trans rfl
theorem f28_12 : gm_fetch 28 12 = some (13, .iaload, 0, 0, 0, 0) := (fe28 12).trans rfl
theorem f28_13 : gm_fetch 28 13 = some (16, .goto 8, 0, 21, 0, 0) := (fe28 13).trans rfl
theorem f28_16 : gm_fetch 28 16 = some (17, .iconst 1, 0, 0, 0, 0) := (fe28 16).trans rfl
theorem f28_17 : gm_fetch 28 17 = some (18, .iload_n 2, 0, 0, 0, 0) := (fe28 17).trans rfl
theorem f28_18 : gm_fetch 28 18 = some (19, .ishl, 0, 0, 0, 0) := (fe28 18).trans rfl
theorem f28_19 : gm_fetch 28 19 = some (20, .iconst 1, 0, 0, 0, 0) := (fe28 19).trans rfl
theorem f28_20 : gm_fetch 28 20 = some (21, .isub, 0, 0, 0, 0) := (fe28 20).trans rfl
theorem f28_21 : gm_fetch 28 21 = some (22, .ireturn, 0, 0, 0, 0) := (fe28 21).trans rfl
set_option maxRecDepth 10000 in
theorem rg28_0 {mi : Mi} {ml : Ml} {F : Int32 → Mi → Ml → Prop} {rx0 : Nat} {x1 : Int32} {x2 : Int32} (hrx0 : isY rx0) (h : (((mi rx0 0) = 0) → F ((1 <<< (x2 &&& 31)) - 1) mi ml) ∧ (¬ ((mi rx0 0) = 0) → (vp_in x1 7) ∧ (F (mi (rx0 + 1) (Int32.toNatClampNeg x1)) mi ml))) : Sg 28 0 [some (.ref rx0), some (.int x1), some (.int x2)] [] mi ml (qi F) := by
  refine sg_ld f28_0 (v := .ref rx0) rfl rfl ?_
  refine sg_geti f28_1 hrx0.1 rfl (x := (mi rx0 0)) rfl ?_
  refine sg_if f28_4 (fun c => ?_) (fun c => ?_)
  · have h := h.1 c
    refine sg_psh f28_16 (v := .int 1) (by decide) ?_
    refine sg_ld f28_17 (v := .int x2) rfl rfl ?_
    refine sg_bin f28_18 rfl ?_
    refine sg_psh f28_19 (v := .int 1) (by decide) ?_
    refine sg_bin f28_20 rfl ?_
    exact sg_iret f28_21 pq28 rfl rfl ⟨_, rfl, h⟩
  · have h := h.2 c
    refine sg_ld f28_7 (v := .ref rx0) rfl rfl ?_
    refine sg_getr f28_8 hrx0.1 rfl (w := rx0 + 1) hrx0.2.1 ?_
    refine sg_ld f28_11 (v := .int x1) rfl rfl ?_
    obtain ⟨e1, h⟩ := h
    refine sg_iald f28_12 hrx0.2.2 e1 (x := (mi (rx0 + 1) (Int32.toNatClampNeg x1))) rfl ?_
    refine sg_goto f28_13 ?_
    exact sg_iret f28_21 pq28 rfl rfl ⟨_, rfl, h⟩

/-! X2_brokenOn (LGridMender$Board;)I -/
theorem fe29 (pc : Nat) : gm_fetch 29 pc = gm_find pc cd_29 := rfl
theorem f29_0 : gm_fetch 29 0 = some (1, .iconst 0, 0, 0, 0, 0) := (fe29 0).trans rfl
theorem f29_1 : gm_fetch 29 1 = some (2, .istore_n 2, 0, 0, 0, 0) := (fe29 1).trans rfl
theorem f29_2 : gm_fetch 29 2 = some (3, .iconst 0, 0, 0, 0, 0) := (fe29 2).trans rfl
theorem f29_3 : gm_fetch 29 3 = some (4, .istore_n 3, 0, 0, 0, 0) := (fe29 3).trans rfl
theorem f29_4 : gm_fetch 29 4 = some (5, .iload_n 3, 0, 0, 0, 0) := (fe29 4).trans rfl
theorem f29_5 : gm_fetch 29 5 = some (6, .aload_n 1, 0, 0, 0, 0) := (fe29 5).trans rfl
theorem f29_6 : gm_fetch 29 6 = some (9, .getfield 35, 2, 0, 0, 0) := (fe29 6).trans rfl
theorem f29_9 : gm_fetch 29 9 = some (12, .if_icmp .ge 66, 0, 75, 0, 0) := (fe29 9).trans rfl
theorem f29_12 : gm_fetch 29 12 = some (13, .iload_n 2, 0, 0, 0, 0) := (fe29 12).trans rfl
theorem f29_13 : gm_fetch 29 13 = some (14, .aload_n 0, 0, 0, 0, 0) := (fe29 13).trans rfl
theorem f29_14 : gm_fetch 29 14 = some (17, .getfield 9, 65, 2, 4, 0) := (fe29 14).trans rfl
theorem f29_17 : gm_fetch 29 17 = some (18, .iload_n 3, 0, 0, 0, 0) := (fe29 17).trans rfl
theorem f29_18 : gm_fetch 29 18 = some (19, .iaload, 0, 0, 0, 0) := (fe29 18).trans rfl
theorem f29_19 : gm_fetch 29 19 = some (20, .aload_n 1, 0, 0, 0, 0) := (fe29 19).trans rfl
theorem f29_20 : gm_fetch 29 20 = some (23, .getfield 40, 26, 0, 6, 0) := (fe29 20).trans rfl
theorem f29_23 : gm_fetch 29 23 = some (24, .iload_n 3, 0, 0, 0, 0) := (fe29 23).trans rfl
theorem f29_24 : gm_fetch 29 24 = some (25, .iaload, 0, 0, 0, 0) := (fe29 24).trans rfl
theorem f29_25 : gm_fetch 29 25 = some (26, .iand, 0, 0, 0, 0) := (fe29 25).trans rfl
theorem f29_26 : gm_fetch 29 26 = some (29, .invokestatic 43, 100, 194, 0, 0) := (fe29 26).trans rfl
theorem f29_29 : gm_fetch 29 29 = some (30, .iadd, 0, 0, 0, 0) := (fe29 29).trans rfl
theorem f29_30 : gm_fetch 29 30 = some (31, .istore_n 2, 0, 0, 0, 0) := (fe29 30).trans rfl
theorem f29_31 : gm_fetch 29 31 = some (32, .iload_n 2, 0, 0, 0, 0) := (fe29 31).trans rfl
theorem f29_32 : gm_fetch 29 32 = some (33, .aload_n 0, 0, 0, 0, 0) := (fe29 32).trans rfl
theorem f29_33 : gm_fetch 29 33 = some (36, .getfield 9, 65, 2, 4, 0) := (fe29 33).trans rfl
theorem f29_36 : gm_fetch 29 36 = some (37, .iload_n 3, 0, 0, 0, 0) := (fe29 36).trans rfl
theorem f29_37 : gm_fetch 29 37 = some (38, .iaload, 0, 0, 0, 0) := (fe29 37).trans rfl
theorem f29_38 : gm_fetch 29 38 = some (39, .aload_n 1, 0, 0, 0, 0) := (fe29 38).trans rfl
theorem f29_39 : gm_fetch 29 39 = some (42, .invokestatic 49, 101, 30, 0, 0) := (fe29 39).trans rfl
theorem f29_42 : gm_fetch 29 42 = some (43, .iadd, 0, 0, 0, 0) := (fe29 42).trans rfl
theorem f29_43 : gm_fetch 29 43 = some (44, .istore_n 2, 0, 0, 0, 0) := (fe29 43).trans rfl
theorem f29_44 : gm_fetch 29 44 = some (45, .iload_n 3, 0, 0, 0, 0) := (fe29 44).trans rfl
theorem f29_45 : gm_fetch 29 45 = some (48, .ifCond .le 24, 0, 69, 0, 0) := (fe29 45).trans rfl
theorem f29_48 : gm_fetch 29 48 = some (49, .iload_n 2, 0, 0, 0, 0) := (fe29 48).trans rfl
theorem f29_49 : gm_fetch 29 49 = some (50, .aload_n 0, 0, 0, 0, 0) := (fe29 49).trans rfl
theorem f29_50 : gm_fetch 29 50 = some (53, .getfield 9, 65, 2, 4, 0) := (fe29 50).trans rfl
theorem f29_53 : gm_fetch 29 53 = some (54, .iload_n 3, 0, 0, 0, 0) := (fe29 53).trans rfl
theorem f29_54 : gm_fetch 29 54 = some (55, .iconst 1, 0, 0, 0, 0) := (fe29 54).trans rfl
theorem f29_55 : gm_fetch 29 55 = some (56, .isub, 0, 0, 0, 0) := (fe29 55).trans rfl
theorem f29_56 : gm_fetch 29 56 = some (57, .iaload, 0, 0, 0, 0) := (fe29 56).trans rfl
theorem f29_57 : gm_fetch 29 57 = some (58, .aload_n 0, 0, 0, 0, 0) := (fe29 57).trans rfl
theorem f29_58 : gm_fetch 29 58 = some (61, .getfield 9, 65, 2, 4, 0) := (fe29 58).trans rfl
theorem f29_61 : gm_fetch 29 61 = some (62, .iload_n 3, 0, 0, 0, 0) := (fe29 61).trans rfl
theorem f29_62 : gm_fetch 29 62 = some (63, .iaload, 0, 0, 0, 0) := (fe29 62).trans rfl
theorem f29_63 : gm_fetch 29 63 = some (64, .aload_n 1, 0, 0, 0, 0) := (fe29 63).trans rfl
theorem f29_64 : gm_fetch 29 64 = some (67, .invokestatic 53, 103, 31, 0, 0) := (fe29 64).trans rfl
theorem f29_67 : gm_fetch 29 67 = some (68, .iadd, 0, 0, 0, 0) := (fe29 67).trans rfl
theorem f29_68 : gm_fetch 29 68 = some (69, .istore_n 2, 0, 0, 0, 0) := (fe29 68).trans rfl
theorem f29_69 : gm_fetch 29 69 = some (72, .iinc 3 1, 0, 0, 0, 0) := (fe29 69).trans rfl
theorem f29_72 : gm_fetch 29 72 = some (75, .goto (-68), 0, 4, 0, 0) := (fe29 72).trans rfl
theorem f29_75 : gm_fetch 29 75 = some (76, .iload_n 2, 0, 0, 0, 0) := (fe29 75).trans rfl
theorem f29_76 : gm_fetch 29 76 = some (77, .ireturn, 0, 0, 0, 0) := (fe29 76).trans rfl
set_option maxRecDepth 10000 in
theorem rg29_0 {mi : Mi} {ml : Ml} {F : Int32 → Mi → Ml → Prop} {rx0 : Nat} (hrx0 : isY rx0) (h : Sg 29 4 [some (.ref rx0), some (.ref 1), some (.int 0), some (.int 0)] [] mi ml (qi F)) : Sg 29 0 [some (.ref rx0), some (.ref 1), none, none] [] mi ml (qi F) := by
  refine sg_psh f29_0 (v := .int 0) (by decide) ?_
  refine sg_st1 f29_1 (ls' := [some (.ref rx0), some (.ref 1), some (.int 0), none]) rfl rfl rfl rfl ?_
  refine sg_psh f29_2 (v := .int 0) (by decide) ?_
  refine sg_st1 f29_3 (ls' := [some (.ref rx0), some (.ref 1), some (.int 0), some (.int 0)]) rfl rfl rfl rfl ?_
  exact h

set_option maxRecDepth 10000 in
theorem rg29_4 {mi : Mi} {ml : Ml} {F : Int32 → Mi → Ml → Prop} {rx0 : Nat} {x2 : Int32} {x3 : Int32} (hrx0 : isY rx0) (h : (((mi 1 0) ≤ x3) → F x2 mi ml) ∧ (¬ ((mi 1 0) ≤ x3) → (vp_in x3 7) ∧ (Sg 194 0 [some (.int ((mi (rx0 + 1) (Int32.toNatClampNeg x3)) &&& (mi 2 (Int32.toNatClampNeg x3))))] [] mi ml (qi fun y2 mi3 ml4 => Sg 30 0 [some (.int (mi3 (rx0 + 1) (Int32.toNatClampNeg x3))), some (.ref 1), none, none] [] mi3 ml4 (qi fun y5 mi6 ml7 => ((x3 ≤ 0) → Sg 29 4 [some (.ref rx0), some (.ref 1), some (.int ((x2 + y2) + y5)), some (.int (x3 + 1))] [] mi6 ml7 (qi F)) ∧ (¬ (x3 ≤ 0) → (vp_in (x3 - 1) 7) ∧ (Sg 31 0 [some (.int (mi6 (rx0 + 1) (Int32.toNatClampNeg (x3 - 1)))), some (.int (mi6 (rx0 + 1) (Int32.toNatClampNeg x3))), some (.ref 1), none, none] [] mi6 ml7 (qi fun y9 mi10 ml11 => Sg 29 4 [some (.ref rx0), some (.ref 1), some (.int (((x2 + y2) + y5) + y9)), some (.int (x3 + 1))] [] mi10 ml11 (qi F))))))))) : Sg 29 4 [some (.ref rx0), some (.ref 1), some (.int x2), some (.int x3)] [] mi ml (qi F) := by
  refine sg_ld f29_4 (v := .int x3) rfl rfl ?_
  refine sg_ld f29_5 (v := .ref 1) rfl rfl ?_
  refine sg_geti f29_6 rfl rfl (x := (mi 1 0)) rfl ?_
  refine sg_icmp f29_9 (fun c => ?_) (fun c => ?_)
  · have h := h.1 c
    refine sg_ld f29_75 (v := .int x2) rfl rfl ?_
    exact sg_iret f29_76 pq29 rfl rfl ⟨_, rfl, h⟩
  · have h := h.2 c
    refine sg_ld f29_12 (v := .int x2) rfl rfl ?_
    refine sg_ld f29_13 (v := .ref rx0) rfl rfl ?_
    refine sg_getr f29_14 hrx0.1 rfl (w := rx0 + 1) hrx0.2.1 ?_
    refine sg_ld f29_17 (v := .int x3) rfl rfl ?_
    obtain ⟨e1, h⟩ := h
    refine sg_iald f29_18 hrx0.2.2 e1 (x := (mi (rx0 + 1) (Int32.toNatClampNeg x3))) rfl ?_
    refine sg_ld f29_19 (v := .ref 1) rfl rfl ?_
    refine sg_getr f29_20 rfl rfl (w := 2) rfl ?_
    refine sg_ld f29_23 (v := .int x3) rfl rfl ?_
    refine sg_iald f29_24 rfl e1 (x := (mi 2 (Int32.toNatClampNeg x3))) rfl ?_
    refine sg_bin f29_25 rfl ?_
    refine sg_cS f29_26 (vs := [.int ((mi (rx0 + 1) (Int32.toNatClampNeg x3)) &&& (mi 2 (Int32.toNatClampNeg x3)))]) (rest := [.int x2]) (en := [some (.int ((mi (rx0 + 1) (Int32.toNatClampNeg x3)) &&& (mi 2 (Int32.toNatClampNeg x3))))]) (by decide) pq194 ⟨rfl, rfl⟩ rfl rfl rfl rfl rfl h ?_
    rintro _ mi3 ml4 ⟨y2, rfl, h⟩
    refine sg_bin f29_29 rfl ?_
    refine sg_st1 f29_30 (ls' := [some (.ref rx0), some (.ref 1), some (.int (x2 + y2)), some (.int x3)]) rfl rfl rfl rfl ?_
    refine sg_ld f29_31 (v := .int (x2 + y2)) rfl rfl ?_
    refine sg_ld f29_32 (v := .ref rx0) rfl rfl ?_
    refine sg_getr f29_33 hrx0.1 rfl (w := rx0 + 1) hrx0.2.1 ?_
    refine sg_ld f29_36 (v := .int x3) rfl rfl ?_
    refine sg_iald f29_37 hrx0.2.2 e1 (x := (mi3 (rx0 + 1) (Int32.toNatClampNeg x3))) rfl ?_
    refine sg_ld f29_38 (v := .ref 1) rfl rfl ?_
    refine sg_cS f29_39 (vs := [.int (mi3 (rx0 + 1) (Int32.toNatClampNeg x3)), .ref 1]) (rest := [.int (x2 + y2)]) (en := [some (.int (mi3 (rx0 + 1) (Int32.toNatClampNeg x3))), some (.ref 1), none, none]) (by decide) pq30 ⟨rfl, rfl⟩ rfl rfl rfl rfl rfl h ?_
    rintro _ mi6 ml7 ⟨y5, rfl, h⟩
    refine sg_bin f29_42 rfl ?_
    refine sg_st1 f29_43 (ls' := [some (.ref rx0), some (.ref 1), some (.int ((x2 + y2) + y5)), some (.int x3)]) rfl rfl rfl rfl ?_
    refine sg_ld f29_44 (v := .int x3) rfl rfl ?_
    refine sg_if f29_45 (fun c => ?_) (fun c => ?_)
    · have h := h.1 c
      refine sg_inc f29_69 (d := 1) (ls' := [some (.ref rx0), some (.ref 1), some (.int ((x2 + y2) + y5)), some (.int (x3 + 1))]) rfl (by decide) rfl ?_
      refine sg_goto f29_72 ?_
      exact h
    · have h := h.2 c
      refine sg_ld f29_48 (v := .int ((x2 + y2) + y5)) rfl rfl ?_
      refine sg_ld f29_49 (v := .ref rx0) rfl rfl ?_
      refine sg_getr f29_50 hrx0.1 rfl (w := rx0 + 1) hrx0.2.1 ?_
      refine sg_ld f29_53 (v := .int x3) rfl rfl ?_
      refine sg_psh f29_54 (v := .int 1) (by decide) ?_
      refine sg_bin f29_55 rfl ?_
      obtain ⟨e8, h⟩ := h
      refine sg_iald f29_56 hrx0.2.2 e8 (x := (mi6 (rx0 + 1) (Int32.toNatClampNeg (x3 - 1)))) rfl ?_
      refine sg_ld f29_57 (v := .ref rx0) rfl rfl ?_
      refine sg_getr f29_58 hrx0.1 rfl (w := rx0 + 1) hrx0.2.1 ?_
      refine sg_ld f29_61 (v := .int x3) rfl rfl ?_
      refine sg_iald f29_62 hrx0.2.2 e1 (x := (mi6 (rx0 + 1) (Int32.toNatClampNeg x3))) rfl ?_
      refine sg_ld f29_63 (v := .ref 1) rfl rfl ?_
      refine sg_cS f29_64 (vs := [.int (mi6 (rx0 + 1) (Int32.toNatClampNeg (x3 - 1))), .int (mi6 (rx0 + 1) (Int32.toNatClampNeg x3)), .ref 1]) (rest := [.int ((x2 + y2) + y5)]) (en := [some (.int (mi6 (rx0 + 1) (Int32.toNatClampNeg (x3 - 1)))), some (.int (mi6 (rx0 + 1) (Int32.toNatClampNeg x3))), some (.ref 1), none, none]) (by decide) pq31 ⟨rfl, rfl⟩ rfl rfl rfl rfl rfl h ?_
      rintro _ mi10 ml11 ⟨y9, rfl, h⟩
      refine sg_bin f29_67 rfl ?_
      refine sg_st1 f29_68 (ls' := [some (.ref rx0), some (.ref 1), some (.int (((x2 + y2) + y5) + y9)), some (.int x3)]) rfl rfl rfl rfl ?_
      refine sg_inc f29_69 (d := 1) (ls' := [some (.ref rx0), some (.ref 1), some (.int (((x2 + y2) + y5) + y9)), some (.int (x3 + 1))]) rfl (by decide) rfl ?_
      refine sg_goto f29_72 ?_
      exact h

/-! X2_wideGaps (ILGridMender$Board;)I -/
theorem fe30 (pc : Nat) : gm_fetch 30 pc = gm_find pc cd_30 := rfl
theorem f30_0 : gm_fetch 30 0 = some (1, .iconst 0, 0, 0, 0, 0) := (fe30 0).trans rfl
theorem f30_1 : gm_fetch 30 1 = some (2, .istore_n 2, 0, 0, 0, 0) := (fe30 1).trans rfl
theorem f30_2 : gm_fetch 30 2 = some (3, .iconst 1, 0, 0, 0, 0) := (fe30 2).trans rfl
theorem f30_3 : gm_fetch 30 3 = some (4, .istore_n 3, 0, 0, 0, 0) := (fe30 3).trans rfl
theorem f30_4 : gm_fetch 30 4 = some (5, .iload_n 3, 0, 0, 0, 0) := (fe30 4).trans rfl
theorem f30_5 : gm_fetch 30 5 = some (6, .aload_n 1, 0, 0, 0, 0) := (fe30 5).trans rfl
theorem f30_6 : gm_fetch 30 6 = some (9, .getfield 39, 13, 0, 2, 0) := (fe30 6).trans rfl
theorem f30_9 : gm_fetch 30 9 = some (12, .if_icmp .ge 34, 0, 43, 0, 0) := (fe30 9).trans rfl
theorem f30_12 : gm_fetch 30 12 = some (13, .iload_n 0, 0, 0, 0, 0) := (fe30 12).trans rfl
theorem f30_13 : gm_fetch 30 13 = some (14, .iload_n 3, 0, 0, 0, 0) := (fe30 13).trans rfl
theorem f30_14 : gm_fetch 30 14 = some (17, .invokestatic 57, 102, 110, 1, 0) := (fe30 14).trans rfl
theorem f30_17 : gm_fetch 30 17 = some (18, .iload_n 0, 0, 0, 0, 0) := (fe30 17).trans rfl
theorem f30_18 : gm_fetch 30 18 = some (19, .iload_n 3, 0, 0, 0, 0) := (fe30 18).trans rfl
theorem f30_19 : gm_fetch 30 19 = some (20, .iconst 1, 0, 0, 0, 0) := (fe30 19).trans rfl
theorem f30_20 : gm_fetch 30 20 = some (21, .isub, 0, 0, 0, 0) := (fe30 20).trans rfl
theorem f30_21 : gm_fetch 30 21 = some (24, .invokestatic 57, 102, 110, 1, 0) := (fe30 21).trans rfl
theorem f30_24 : gm_fetch 30 24 = some (25, .isub, 0, 0, 0, 0) := (fe30 24).trans rfl
theorem f30_25 : gm_fetch 30 25 = some (26, .iconst 1, 0, 0, 0, 0) := (fe30 25).trans rfl
theorem f30_26 : gm_fetch 30 26 = some (27, .isub, 0, 0, 0, 0) := (fe30 26).trans rfl
theorem f30_27 : gm_fetch 30 27 = some (28, .aload_n 1, 0, 0, 0, 0) := (fe30 27).trans rfl
theorem f30_28 : gm_fetch 30 28 = some (31, .getfield 61, 17, 0, 3, 0) := (fe30 28).trans rfl
theorem f30_31 : gm_fetch 30 31 = some (34, .if_icmp .le 6, 0, 37, 0, 0) := (fe30 31).trans rfl
theorem f30_34 : gm_fetch 30 34 = some (37, .iinc 2 1, 0, 0, 0, 0) := (fe30 34).trans rfl
theorem f30_37 : gm_fetch 30 37 = some (40, .iinc 3 1, 0, 0, 0, 0) := (fe30 37).trans rfl
theorem f30_40 : gm_fetch 30 40 = some (43, .goto (-36), 0, 4, 0, 0) := (fe30 40).trans rfl
theorem f30_43 : gm_fetch 30 43 = some (44, .iload_n 2, 0, 0, 0, 0) := (fe30 43).trans rfl
theorem f30_44 : gm_fetch 30 44 = some (45, .ireturn, 0, 0, 0, 0) := (fe30 44).trans rfl
set_option maxRecDepth 10000 in
theorem rg30_0 {mi : Mi} {ml : Ml} {F : Int32 → Mi → Ml → Prop} {x0 : Int32}  (h : Sg 30 4 [some (.int x0), some (.ref 1), some (.int 0), some (.int 1)] [] mi ml (qi F)) : Sg 30 0 [some (.int x0), some (.ref 1), none, none] [] mi ml (qi F) := by
  refine sg_psh f30_0 (v := .int 0) (by decide) ?_
  refine sg_st1 f30_1 (ls' := [some (.int x0), some (.ref 1), some (.int 0), none]) rfl rfl rfl rfl ?_
  refine sg_psh f30_2 (v := .int 1) (by decide) ?_
  refine sg_st1 f30_3 (ls' := [some (.int x0), some (.ref 1), some (.int 0), some (.int 1)]) rfl rfl rfl rfl ?_
  exact h

set_option maxRecDepth 10000 in
theorem rg30_4 {mi : Mi} {ml : Ml} {F : Int32 → Mi → Ml → Prop} {x0 : Int32} {x2 : Int32} {x3 : Int32}  (h : (((mi 1 2) ≤ x3) → F x2 mi ml) ∧ (¬ ((mi 1 2) ≤ x3) → Sg 110 0 [some (.int x0), some (.int x3), none, none] [] mi ml (qi fun y1 mi2 ml3 => Sg 110 0 [some (.int x0), some (.int (x3 - 1)), none, none] [] mi2 ml3 (qi fun y4 mi5 ml6 => ((((y1 - y4) - 1) ≤ (mi5 1 3)) → Sg 30 4 [some (.int x0), some (.ref 1), some (.int x2), some (.int (x3 + 1))] [] mi5 ml6 (qi F)) ∧ (¬ (((y1 - y4) - 1) ≤ (mi5 1 3)) → Sg 30 4 [some (.int x0), some (.ref 1), some (.int (x2 + 1)), some (.int (x3 + 1))] [] mi5 ml6 (qi F)))))) : Sg 30 4 [some (.int x0), some (.ref 1), some (.int x2), some (.int x3)] [] mi ml (qi F) := by
  refine sg_ld f30_4 (v := .int x3) rfl rfl ?_
  refine sg_ld f30_5 (v := .ref 1) rfl rfl ?_
  refine sg_geti f30_6 rfl rfl (x := (mi 1 2)) rfl ?_
  refine sg_icmp f30_9 (fun c => ?_) (fun c => ?_)
  · have h := h.1 c
    refine sg_ld f30_43 (v := .int x2) rfl rfl ?_
    exact sg_iret f30_44 pq30 rfl rfl ⟨_, rfl, h⟩
  · have h := h.2 c
    refine sg_ld f30_12 (v := .int x0) rfl rfl ?_
    refine sg_ld f30_13 (v := .int x3) rfl rfl ?_
    refine sg_cS f30_14 (vs := [.int x0, .int x3]) (rest := []) (en := [some (.int x0), some (.int x3), none, none]) (by decide) pq110 ⟨rfl, rfl⟩ rfl rfl rfl rfl rfl h ?_
    rintro _ mi2 ml3 ⟨y1, rfl, h⟩
    refine sg_ld f30_17 (v := .int x0) rfl rfl ?_
    refine sg_ld f30_18 (v := .int x3) rfl rfl ?_
    refine sg_psh f30_19 (v := .int 1) (by decide) ?_
    refine sg_bin f30_20 rfl ?_
    refine sg_cS f30_21 (vs := [.int x0, .int (x3 - 1)]) (rest := [.int y1]) (en := [some (.int x0), some (.int (x3 - 1)), none, none]) (by decide) pq110 ⟨rfl, rfl⟩ rfl rfl rfl rfl rfl h ?_
    rintro _ mi5 ml6 ⟨y4, rfl, h⟩
    refine sg_bin f30_24 rfl ?_
    refine sg_psh f30_25 (v := .int 1) (by decide) ?_
    refine sg_bin f30_26 rfl ?_
    refine sg_ld f30_27 (v := .ref 1) rfl rfl ?_
    refine sg_geti f30_28 rfl rfl (x := (mi5 1 3)) rfl ?_
    refine sg_icmp f30_31 (fun c => ?_) (fun c => ?_)
    · have h := h.1 c
      refine sg_inc f30_37 (d := 1) (ls' := [some (.int x0), some (.ref 1), some (.int x2), some (.int (x3 + 1))]) rfl (by decide) rfl ?_
      refine sg_goto f30_40 ?_
      exact h
    · have h := h.2 c
      refine sg_inc f30_34 (d := 1) (ls' := [some (.int x0), some (.ref 1), some (.int (x2 + 1)), some (.int x3)]) rfl (by decide) rfl ?_
      refine sg_inc f30_37 (d := 1) (ls' := [some (.int x0), some (.ref 1), some (.int (x2 + 1)), some (.int (x3 + 1))]) rfl (by decide) rfl ?_
      refine sg_goto f30_40 ?_
      exact h

/-! X2_farTasks (IILGridMender$Board;)I -/
theorem fe31 (pc : Nat) : gm_fetch 31 pc = gm_find pc cd_31 := rfl
theorem f31_0 : gm_fetch 31 0 = some (1, .iconst 0, 0, 0, 0, 0) := (fe31 0).trans rfl
theorem f31_1 : gm_fetch 31 1 = some (2, .istore_n 3, 0, 0, 0, 0) := (fe31 1).trans rfl
theorem f31_2 : gm_fetch 31 2 = some (3, .iconst 0, 0, 0, 0, 0) := (fe31 2).trans rfl
theorem f31_3 : gm_fetch 31 3 = some (5, .istore 4, 0, 0, 0, 0) := (fe31 3).trans rfl
theorem f31_5 : gm_fetch 31 5 = some (7, .iload 4, 0, 0, 0, 0) := (fe31 5).trans rfl
theorem f31_7 : gm_fetch 31 7 = some (8, .aload_n 2, 0, 0, 0, 0) := (fe31 7).trans rfl
theorem f31_8 : gm_fetch 31 8 = some (11, .getfield 39, 13, 0, 2, 0) := (fe31 8).trans rfl
theorem f31_11 : gm_fetch 31 11 = some (14, .if_icmp .ge 35, 0, 46, 0, 0) := (fe31 11).trans rfl
theorem f31_14 : gm_fetch 31 14 = some (15, .iload_n 0, 0, 0, 0, 0) := (fe31 14).trans rfl
theorem f31_15 : gm_fetch 31 15 = some (17, .iload 4, 0, 0, 0, 0) := (fe31 15).trans rfl
theorem f31_17 : gm_fetch 31 17 = some (20, .invokestatic 57, 102, 110, 1, 0) := (fe31 17).trans rfl
theorem f31_20 : gm_fetch 31 20 = some (21, .iload_n 1, 0, 0, 0, 0) := (fe31 20).trans rfl
theorem f31_21 : gm_fetch 31 21 = some (23, .iload 4, 0, 0, 0, 0) := (fe31 21).trans rfl
theorem f31_23 : gm_fetch 31 23 = some (26, .invokestatic 57, 102, 110, 1, 0) := (fe31 23).trans rfl
theorem f31_26 : gm_fetch 31 26 = some (27, .isub, 0, 0, 0, 0) := (fe31 26).trans rfl
theorem f31_27 : gm_fetch 31 27 = some (30, .invokestatic 64, 104, 196, 5, 0) := (fe31 27).trans rfl
theorem f31_30 : gm_fetch 31 30 = some (31, .aload_n 2, 0, 0, 0, 0) := (fe31 30).trans rfl
theorem f31_31 : gm_fetch 31 31 = some (34, .getfield 61, 17, 0, 3, 0) := (fe31 31).trans rfl
theorem f31_34 : gm_fetch 31 34 = some (37, .if_icmp .le 6, 0, 40, 0, 0) := (fe31 34).trans rfl
theorem f31_37 : gm_fetch 31 37 = some (40, .iinc 3 1, 0, 0, 0, 0) := (fe31 37).trans rfl
theorem f31_40 : gm_fetch 31 40 = some (43, .iinc 4 1, 0, 0, 0, 0) := (fe31 40).trans rfl
theorem f31_43 : gm_fetch 31 43 = some (46, .goto (-38), 0, 5, 0, 0) := (fe31 43).trans rfl
theorem f31_46 : gm_fetch 31 46 = some (47, .iload_n 3, 0, 0, 0, 0) := (fe31 46).trans rfl
theorem f31_47 : gm_fetch 31 47 = some (48, .ireturn, 0, 0, 0, 0) := (fe31 47).trans rfl
set_option maxRecDepth 10000 in
theorem rg31_0 {mi : Mi} {ml : Ml} {F : Int32 → Mi → Ml → Prop} {x0 : Int32} {x1 : Int32}  (h : Sg 31 5 [some (.int x0), some (.int x1), some (.ref 1), some (.int 0), some (.int 0)] [] mi ml (qi F)) : Sg 31 0 [some (.int x0), some (.int x1), some (.ref 1), none, none] [] mi ml (qi F) := by
  refine sg_psh f31_0 (v := .int 0) (by decide) ?_
  refine sg_st1 f31_1 (ls' := [some (.int x0), some (.int x1), some (.ref 1), some (.int 0), none]) rfl rfl rfl rfl ?_
  refine sg_psh f31_2 (v := .int 0) (by decide) ?_
  refine sg_st1 f31_3 (ls' := [some (.int x0), some (.int x1), some (.ref 1), some (.int 0), some (.int 0)]) rfl rfl rfl rfl ?_
  exact h

set_option maxRecDepth 10000 in
theorem rg31_5 {mi : Mi} {ml : Ml} {F : Int32 → Mi → Ml → Prop} {x0 : Int32} {x1 : Int32} {x3 : Int32} {x4 : Int32}  (h : (((mi 1 2) ≤ x4) → F x3 mi ml) ∧ (¬ ((mi 1 2) ≤ x4) → Sg 110 0 [some (.int x0), some (.int x4), none, none] [] mi ml (qi fun y1 mi2 ml3 => Sg 110 0 [some (.int x1), some (.int x4), none, none] [] mi2 ml3 (qi fun y4 mi5 ml6 => (((if 0 ≤ (y1 - y4) then (y1 - y4) else 0 - (y1 - y4)) ≤ (mi5 1 3)) → Sg 31 5 [some (.int x0), some (.int x1), some (.ref 1), some (.int x3), some (.int (x4 + 1))] [] mi5 ml6 (qi F)) ∧ (¬ ((if 0 ≤ (y1 - y4) then (y1 - y4) else 0 - (y1 - y4)) ≤ (mi5 1 3)) → Sg 31 5 [some (.int x0), some (.int x1), some (.ref 1), some (.int (x3 + 1)), some (.int (x4 + 1))] [] mi5 ml6 (qi F)))))) : Sg 31 5 [some (.int x0), some (.int x1), some (.ref 1), some (.int x3), some (.int x4)] [] mi ml (qi F) := by
  refine sg_ld f31_5 (v := .int x4) rfl rfl ?_
  refine sg_ld f31_7 (v := .ref 1) rfl rfl ?_
  refine sg_geti f31_8 rfl rfl (x := (mi 1 2)) rfl ?_
  refine sg_icmp f31_11 (fun c => ?_) (fun c => ?_)
  · have h := h.1 c
    refine sg_ld f31_46 (v := .int x3) rfl rfl ?_
    exact sg_iret f31_47 pq31 rfl rfl ⟨_, rfl, h⟩
  · have h := h.2 c
    refine sg_ld f31_14 (v := .int x0) rfl rfl ?_
    refine sg_ld f31_15 (v := .int x4) rfl rfl ?_
    refine sg_cS f31_17 (vs := [.int x0, .int x4]) (rest := []) (en := [some (.int x0), some (.int x4), none, none]) (by decide) pq110 ⟨rfl, rfl⟩ rfl rfl rfl rfl rfl h ?_
    rintro _ mi2 ml3 ⟨y1, rfl, h⟩
    refine sg_ld f31_20 (v := .int x1) rfl rfl ?_
    refine sg_ld f31_21 (v := .int x4) rfl rfl ?_
    refine sg_cS f31_23 (vs := [.int x1, .int x4]) (rest := [.int y1]) (en := [some (.int x1), some (.int x4), none, none]) (by decide) pq110 ⟨rfl, rfl⟩ rfl rfl rfl rfl rfl h ?_
    rintro _ mi5 ml6 ⟨y4, rfl, h⟩
    refine sg_bin f31_26 rfl ?_
    refine sg_mabs f31_27 rfl ?_
    refine sg_ld f31_30 (v := .ref 1) rfl rfl ?_
    refine sg_geti f31_31 rfl rfl (x := (mi5 1 3)) rfl ?_
    refine sg_icmp f31_34 (fun c => ?_) (fun c => ?_)
    · have h := h.1 c
      refine sg_inc f31_40 (d := 1) (ls' := [some (.int x0), some (.int x1), some (.ref 1), some (.int x3), some (.int (x4 + 1))]) rfl (by decide) rfl ?_
      refine sg_goto f31_43 ?_
      exact h
    · have h := h.2 c
      refine sg_inc f31_37 (d := 1) (ls' := [some (.int x0), some (.int x1), some (.ref 1), some (.int (x3 + 1)), some (.int x4)]) rfl (by decide) rfl ?_
      refine sg_inc f31_40 (d := 1) (ls' := [some (.int x0), some (.int x1), some (.ref 1), some (.int (x3 + 1)), some (.int (x4 + 1))]) rfl (by decide) rfl ?_
      refine sg_goto f31_43 ?_
      exact h

/-! X5_begin (II)V -/
theorem fe66 (pc : Nat) : gm_fetch 66 pc = gm_find pc cd_66 := rfl
theorem f66_0 : gm_fetch 66 0 = some (1, .aload_n 0, 0, 0, 0, 0) := (fe66 0).trans rfl
theorem f66_1 : gm_fetch 66 1 = some (2, .iconst 0, 0, 0, 0, 0) := (fe66 1).trans rfl
theorem f66_2 : gm_fetch 66 2 = some (5, .putfield 9, 68, 5, 0, 0) := (fe66 2).trans rfl
theorem f66_5 : gm_fetch 66 5 = some (6, .aload_n 0, 0, 0, 0, 0) := (fe66 5).trans rfl
theorem f66_6 : gm_fetch 66 6 = some (7, .iload_n 1, 0, 0, 0, 0) := (fe66 6).trans rfl
theorem f66_7 : gm_fetch 66 7 = some (10, .putfield 19, 70, 5, 1, 0) := (fe66 7).trans rfl
theorem f66_10 : gm_fetch 66 10 = some (11, .aload_n 0, 0, 0, 0, 0) := (fe66 10).trans rfl
theorem f66_11 : gm_fetch 66 11 = some (12, .iload_n 2, 0, 0, 0, 0) := (fe66 11).trans rfl
theorem f66_12 : gm_fetch 66 12 = some (15, .putfield 23, 72, 5, 2, 0) := (fe66 12).trans rfl
theorem f66_15 : gm_fetch 66 15 = some (16, .aload_n 0, 0, 0, 0, 0) := (fe66 15).trans rfl
theorem f66_16 : gm_fetch 66 16 = some (19, .getfield 15, 74, 5, 3, 0) := (fe66 16).trans rfl
theorem f66_19 : gm_fetch 66 19 = some (20, .iconst 0, 0, 0, 0, 0) := (fe66 19).trans rfl
theorem f66_20 : gm_fetch 66 20 = some (23, .invokestatic 26, 129, 198, 0, 0) := (fe66 20).trans rfl
theorem f66_23 : gm_fetch 66 23 = some (24, .return_, 0, 0, 0, 0) := (fe66 23).trans rfl
set_option maxRecDepth 10000 in
theorem rg66_0 {mi : Mi} {ml : Ml} {F : Mi → Ml → Prop} {rx0 : Nat} {x1 : Int32} {x2 : Int32} (hrx0 : isS rx0) (h : Sg 198 0 [some (.ref (rx0 + 1)), some (.int 0), none, none] [] (va_up mi rx0 (va_up (va_up (va_up (mi rx0) 0 0) 1 x1) 2 x2)) ml (qv fun mi2 ml3 => F mi2 ml3)) : Sg 66 0 [some (.ref rx0), some (.int x1), some (.int x2)] [] mi ml (qv F) := by
  refine sg_ld f66_0 (v := .ref rx0) rfl rfl ?_
  refine sg_psh f66_1 (v := .int 0) (by decide) ?_
  refine sg_puti f66_2 hrx0.1 rfl rfl (fun _ => by decide) ?_
  refine sg_ld f66_5 (v := .ref rx0) rfl rfl ?_
  refine sg_ld f66_6 (v := .int x1) rfl rfl ?_
  refine sg_puti2 f66_7 hrx0.1 rfl rfl (fun hz => by cases hz) ?_
  refine sg_ld f66_10 (v := .ref rx0) rfl rfl ?_
  refine sg_ld f66_11 (v := .int x2) rfl rfl ?_
  refine sg_puti2 f66_12 hrx0.1 rfl rfl (fun hz => by cases hz) ?_
  refine sg_ld f66_15 (v := .ref rx0) rfl rfl ?_
  refine sg_getr f66_16 hrx0.1 rfl (w := rx0 + 1) hrx0.2.1 ?_
  refine sg_psh f66_19 (v := .int 0) (by decide) ?_
  refine sg_cS f66_20 (vs := [.ref (rx0 + 1), .int 0]) (rest := []) (en := [some (.ref (rx0 + 1)), some (.int 0), none, none]) (by decide) pq198 ⟨rfl, rfl⟩ rfl rfl rfl rfl rfl h ?_
  intro _ mi2 ml3 h
  have h := gm_qv h
  exact sg_ret f66_23 pq66 rfl h

/-! X5_findingAt (II)I -/
theorem fe67 (pc : Nat) : gm_fetch 67 pc = gm_find pc cd_67 := rfl
theorem f67_0 : gm_fetch 67 0 = some (1, .aload_n 0, 0, 0, 0, 0) := (fe67 0).trans rfl
theorem f67_1 : gm_fetch 67 1 = some (4, .getfield 9, 68, 5, 0, 0) := (fe67 1).trans rfl
theorem f67_4 : gm_fetch 67 4 = some (7, .ifCond .eq 5, 0, 9, 0, 0) := (fe67 4).trans rfl
theorem f67_7 : gm_fetch 67 7 = some (8, .iconst 1, 0, 0, 0, 0) := (fe67 7).trans rfl
theorem f67_8 : gm_fetch 67 8 = some (9, .ireturn, 0, 0, 0, 0) := (fe67 8).trans rfl
theorem f67_9 : gm_fetch 67 9 = some (10, .aload_n 0, 0, 0, 0, 0) := (fe67 9).trans rfl
theorem f67_10 : gm_fetch 67 10 = some (13, .getfield 19, 70, 5, 1, 0) := (fe67 10).trans rfl
theorem f67_13 : gm_fetch 67 13 = some (14, .iload_n 1, 0, 0, 0, 0) := (fe67 13).trans rfl
theorem f67_14 : gm_fetch 67 14 = some (17, .if_icmp .eq 5, 0, 19, 0, 0) := (fe67 14).trans rfl
theorem f67_17 : gm_fetch 67 17 = some (18, .iconst 3, 0, 0, 0, 0) := (fe67 17).trans rfl
theorem f67_18 : gm_fetch 67 18 = some (19, .ireturn, 0, 0, 0, 0) := (fe67 18).trans rfl
theorem f67_19 : gm_fetch 67 19 = some (20, .iload_n 2, 0, 0, 0, 0) := (fe67 19).trans rfl
theorem f67_20 : gm_fetch 67 20 = some (23, .ifCond .lt 11, 0, 31, 0, 0) := (fe67 20).trans rfl
theorem f67_23 : gm_fetch 67 23 = some (24, .iload_n 2, 0, 0, 0, 0) := (fe67 23).trans rfl
theorem f67_24 : gm_fetch 67 24 = some (25, .aload_n 0, 0, 0, 0, 0) := (fe67 24).trans rfl
theorem f67_25 : gm_fetch 67 25 = some (28, .getfield 23, 72, 5, 2, 0) := (fe67 25).trans rfl
theorem f67_28 : gm_fetch 67 28 = some (31, .if_icmp .lt 7, 0, 35, 0, 0) := (fe67 28).trans rfl
theorem f67_31 : gm_fetch 67 31 = some (32, .iconst 2, 0, 0, 0, 0) := (fe67 31).trans rfl
theorem f67_32 : gm_fetch 67 32 = some (35, .goto 4, 0, 36, 0, 0) := (fe67 32).trans rfl
theorem f67_35 : gm_fetch 67 35 = some (36, .iconst 0, 0, 0, 0, 0) := (fe67 35).trans rfl
theorem f67_36 : gm_fetch 67 36 = some (37, .ireturn, 0, 0, 0, 0) := (fe67 36).trans rfl
set_option maxRecDepth 10000 in
theorem rg67_0 {mi : Mi} {ml : Ml} {F : Int32 → Mi → Ml → Prop} {rx0 : Nat} {x1 : Int32} {x2 : Int32} (hrx0 : isS rx0) (h : (((mi rx0 0) = 0) → (((mi rx0 1) = x1) → ((x2 < 0) → F 2 mi ml) ∧ (¬ (x2 < 0) → ((x2 < (mi rx0 2)) → F 0 mi ml) ∧ (¬ (x2 < (mi rx0 2)) → F 2 mi ml))) ∧ (¬ ((mi rx0 1) = x1) → F 3 mi ml)) ∧ (¬ ((mi rx0 0) = 0) → F 1 mi ml)) : Sg 67 0 [some (.ref rx0), some (.int x1), some (.int x2)] [] mi ml (qi F) := by
  refine sg_ld f67_0 (v := .ref rx0) rfl rfl ?_
  refine sg_geti f67_1 hrx0.1 rfl (x := (mi rx0 0)) rfl ?_
  refine sg_if f67_4 (fun c => ?_) (fun c => ?_)
  · have h := h.1 c
    refine sg_ld f67_9 (v := .ref rx0) rfl rfl ?_
    refine sg_geti f67_10 hrx0.1 rfl (x := (mi rx0 1)) rfl ?_
    refine sg_ld f67_13 (v := .int x1) rfl rfl ?_
    refine sg_icmp f67_14 (fun c => ?_) (fun c => ?_)
    · have h := h.1 c
      refine sg_ld f67_19 (v := .int x2) rfl rfl ?_
      refine sg_if f67_20 (fun c => ?_) (fun c => ?_)
      · have h := h.1 c
        refine sg_psh f67_31 (v := .int 2) (by decide) ?_
        refine sg_goto f67_32 ?_
        exact sg_iret f67_36 pq67 rfl rfl ⟨_, rfl, h⟩
      · have h := h.2 c
        refine sg_ld f67_23 (v := .int x2) rfl rfl ?_
        refine sg_ld f67_24 (v := .ref rx0) rfl rfl ?_
        refine sg_geti f67_25 hrx0.1 rfl (x := (mi rx0 2)) rfl ?_
        refine sg_icmp f67_28 (fun c => ?_) (fun c => ?_)
        · have h := h.1 c
          refine sg_psh f67_35 (v := .int 0) (by decide) ?_
          exact sg_iret f67_36 pq67 rfl rfl ⟨_, rfl, h⟩
        · have h := h.2 c
          refine sg_psh f67_31 (v := .int 2) (by decide) ?_
          refine sg_goto f67_32 ?_
          exact sg_iret f67_36 pq67 rfl rfl ⟨_, rfl, h⟩
    · have h := h.2 c
      refine sg_psh f67_17 (v := .int 3) (by decide) ?_
      exact sg_iret f67_18 pq67 rfl rfl ⟨_, rfl, h⟩
  · have h := h.2 c
    refine sg_psh f67_7 (v := .int 1) (by decide) ?_
    exact sg_iret f67_8 pq67 rfl rfl ⟨_, rfl, h⟩

/-! X5_hasItems (II)Z -/
theorem fe68 (pc : Nat) : gm_fetch 68 pc = gm_find pc cd_68 := rfl
theorem f68_0 : gm_fetch 68 0 = some (1, .iload_n 1, 0, 0, 0, 0) := (fe68 0).trans rfl
theorem f68_1 : gm_fetch 68 1 = some (4, .ifCond .lt 29, 0, 30, 0, 0) := (fe68 1).trans rfl
theorem f68_4 : gm_fetch 68 4 = some (5, .iload_n 2, 0, 0, 0, 0) := (fe68 4).trans rfl
theorem f68_5 : gm_fetch 68 5 = some (8, .ifCond .lt 25, 0, 30, 0, 0) := (fe68 5).trans rfl
theorem f68_8 : gm_fetch 68 8 = some (9, .iload_n 1, 0, 0, 0, 0) := (fe68 8).trans rfl
theorem f68_9 : gm_fetch 68 9 = some (10, .aload_n 0, 0, 0, 0, 0) := (fe68 9).trans rfl
theorem f68_10 : gm_fetch 68 10 = some (13, .getfield 23, 72, 5, 2, 0) := (fe68 10).trans rfl
theorem f68_13 : gm_fetch 68 13 = some (16, .if_icmp .gt 17, 0, 30, 0, 0) := (fe68 13).trans rfl
theorem f68_16 : gm_fetch 68 16 = some (17, .iload_n 2, 0, 0, 0, 0) := (fe68 16).trans rfl
theorem f68_17 : gm_fetch 68 17 = some (18, .aload_n 0, 0, 0, 0, 0) := (fe68 17).trans rfl
theorem f68_18 : gm_fetch 68 18 = some (21, .getfield 23, 72, 5, 2, 0) := (fe68 18).trans rfl
theorem f68_21 : gm_fetch 68 21 = some (22, .iload_n 1, 0, 0, 0, 0) := (fe68 21).trans rfl
theorem f68_22 : gm_fetch 68 22 = some (23, .isub, 0, 0, 0, 0) := (fe68 22).trans rfl
theorem f68_23 : gm_fetch 68 23 = some (26, .if_icmp .gt 7, 0, 30, 0, 0) := (fe68 23).trans rfl
theorem f68_26 : gm_fetch 68 26 = some (27, .iconst 1, 0, 0, 0, 0) := (fe68 26).trans rfl
theorem f68_27 : gm_fetch 68 27 = some (30, .goto 4, 0, 31, 0, 0) := (fe68 27).trans rfl
theorem f68_30 : gm_fetch 68 30 = some (31, .iconst 0, 0, 0, 0, 0) := (fe68 30).trans rfl
theorem f68_31 : gm_fetch 68 31 = some (32, .ireturn, 0, 0, 0, 0) := (fe68 31).trans rfl
set_option maxRecDepth 10000 in
theorem rg68_0 {mi : Mi} {ml : Ml} {F : Int32 → Mi → Ml → Prop} {rx0 : Nat} {x1 : Int32} {x2 : Int32} (hrx0 : isS rx0) (h : ((x1 < 0) → F 0 mi ml) ∧ (¬ (x1 < 0) → ((x2 < 0) → F 0 mi ml) ∧ (¬ (x2 < 0) → (((mi rx0 2) < x1) → F 0 mi ml) ∧ (¬ ((mi rx0 2) < x1) → ((((mi rx0 2) - x1) < x2) → F 0 mi ml) ∧ (¬ (((mi rx0 2) - x1) < x2) → F 1 mi ml))))) : Sg 68 0 [some (.ref rx0), some (.int x1), some (.int x2)] [] mi ml (qi F) := by
  refine sg_ld f68_0 (v := .int x1) rfl rfl ?_
  refine sg_if f68_1 (fun c => ?_) (fun c => ?_)
  · have h := h.1 c
    refine sg_psh f68_30 (v := .int 0) (by decide) ?_
    exact sg_iret f68_31 pq68 rfl (by decide) ⟨_, rfl, h⟩
  · have h := h.2 c
    refine sg_ld f68_4 (v := .int x2) rfl rfl ?_
    refine sg_if f68_5 (fun c => ?_) (fun c => ?_)
    · have h := h.1 c
      refine sg_psh f68_30 (v := .int 0) (by decide) ?_
      exact sg_iret f68_31 pq68 rfl (by decide) ⟨_, rfl, h⟩
    · have h := h.2 c
      refine sg_ld f68_8 (v := .int x1) rfl rfl ?_
      refine sg_ld f68_9 (v := .ref rx0) rfl rfl ?_
      refine sg_geti f68_10 hrx0.1 rfl (x := (mi rx0 2)) rfl ?_
      refine sg_icmp f68_13 (fun c => ?_) (fun c => ?_)
      · have h := h.1 c
        refine sg_psh f68_30 (v := .int 0) (by decide) ?_
        exact sg_iret f68_31 pq68 rfl (by decide) ⟨_, rfl, h⟩
      · have h := h.2 c
        refine sg_ld f68_16 (v := .int x2) rfl rfl ?_
        refine sg_ld f68_17 (v := .ref rx0) rfl rfl ?_
        refine sg_geti f68_18 hrx0.1 rfl (x := (mi rx0 2)) rfl ?_
        refine sg_ld f68_21 (v := .int x1) rfl rfl ?_
        refine sg_bin f68_22 rfl ?_
        refine sg_icmp f68_23 (fun c => ?_) (fun c => ?_)
        · have h := h.1 c
          refine sg_psh f68_30 (v := .int 0) (by decide) ?_
          exact sg_iret f68_31 pq68 rfl (by decide) ⟨_, rfl, h⟩
        · have h := h.2 c
          refine sg_psh f68_26 (v := .int 1) (by decide) ?_
          refine sg_goto f68_27 ?_
          exact sg_iret f68_31 pq68 rfl (by decide) ⟨_, rfl, h⟩

/-! X5_put (II)V -/
theorem fe69 (pc : Nat) : gm_fetch 69 pc = gm_find pc cd_69 := rfl
theorem f69_0 : gm_fetch 69 0 = some (1, .aload_n 0, 0, 0, 0, 0) := (fe69 0).trans rfl
theorem f69_1 : gm_fetch 69 1 = some (4, .getfield 15, 74, 5, 3, 0) := (fe69 1).trans rfl
theorem f69_4 : gm_fetch 69 4 = some (5, .iload_n 1, 0, 0, 0, 0) := (fe69 4).trans rfl
theorem f69_5 : gm_fetch 69 5 = some (6, .aload_n 0, 0, 0, 0, 0) := (fe69 5).trans rfl
theorem f69_6 : gm_fetch 69 6 = some (9, .getfield 19, 70, 5, 1, 0) := (fe69 6).trans rfl
theorem f69_9 : gm_fetch 69 9 = some (12, .ifCond .ne 9, 0, 18, 0, 0) := (fe69 9).trans rfl
theorem f69_12 : gm_fetch 69 12 = some (13, .iload_n 2, 0, 0, 0, 0) := (fe69 12).trans rfl
theorem f69_13 : gm_fetch 69 13 = some (14, .iconst 1, 0, 0, 0, 0) := (fe69 13).trans rfl
theorem f69_14 : gm_fetch 69 14 = some (15, .iand, 0, 0, 0, 0) := (fe69 14).trans rfl
theorem f69_15 : gm_fetch 69 15 = some (18, .goto 19, 0, 34, 0, 0) := (fe69 15).trans rfl
theorem f69_18 : gm_fetch 69 18 = some (19, .aload_n 0, 0, 0, 0, 0) := (fe69 18).trans rfl
theorem f69_19 : gm_fetch 69 19 = some (22, .getfield 19, 70, 5, 1, 0) := (fe69 19).trans rfl
theorem f69_22 : gm_fetch 69 22 = some (23, .iconst 1, 0, 0, 0, 0) := (fe69 22).trans rfl
theorem f69_23 : gm_fetch 69 23 = some (26, .if_icmp .ne 10, 0, 33, 0, 0) := (fe69 23).trans rfl
theorem f69_26 : gm_fetch 69 26 = some (27, .iload_n 2, 0, 0, 0, 0) := (fe69 26).trans rfl
theorem f69_27 : gm_fetch 69 27 = some (29, .ldc 32, 4, 0, 0, 65535) := (fe69 27).trans rfl
theorem f69_29 : gm_fetch 69 29 = some (30, .iand, 0, 0, 0, 0) := (fe69 29).trans rfl
theorem f69_30 : gm_fetch 69 30 = some (33, .goto 4, 0, 34, 0, 0) := (fe69 30).trans rfl
theorem f69_33 : gm_fetch 69 33 = some (34, .iload_n 2, 0, 0, 0, 0) := (fe69 33).trans rfl
theorem f69_34 : gm_fetch 69 34 = some (35, .iastore, 0, 0, 0, 0) := (fe69 34).trans rfl
theorem f69_35 : gm_fetch 69 35 = some (36, .return_, 0, 0, 0, 0) := (fe69 35).trans rfl
set_option maxRecDepth 10000 in
theorem rg69_0 {mi : Mi} {ml : Ml} {F : Mi → Ml → Prop} {rx0 : Nat} {x1 : Int32} {x2 : Int32} (hrx0 : isS rx0) (h : ((¬ (mi rx0 1) = 0) → ((¬ (mi rx0 1) = 1) → (vp_in x1 60) ∧ (F (va_up mi (rx0 + 1) (va_up (mi (rx0 + 1)) (Int32.toNatClampNeg x1) x2)) ml)) ∧ (¬ (¬ (mi rx0 1) = 1) → (vp_in x1 60) ∧ (F (va_up mi (rx0 + 1) (va_up (mi (rx0 + 1)) (Int32.toNatClampNeg x1) (x2 &&& 65535))) ml))) ∧ (¬ (¬ (mi rx0 1) = 0) → (vp_in x1 60) ∧ (F (va_up mi (rx0 + 1) (va_up (mi (rx0 + 1)) (Int32.toNatClampNeg x1) (x2 &&& 1))) ml))) : Sg 69 0 [some (.ref rx0), some (.int x1), some (.int x2)] [] mi ml (qv F) := by
  refine sg_ld f69_0 (v := .ref rx0) rfl rfl ?_
  refine sg_getr f69_1 hrx0.1 rfl (w := rx0 + 1) hrx0.2.1 ?_
  refine sg_ld f69_4 (v := .int x1) rfl rfl ?_
  refine sg_ld f69_5 (v := .ref rx0) rfl rfl ?_
  refine sg_geti f69_6 hrx0.1 rfl (x := (mi rx0 1)) rfl ?_
  refine sg_if f69_9 (fun c => ?_) (fun c => ?_)
  · have h := h.1 c
    refine sg_ld f69_18 (v := .ref rx0) rfl rfl ?_
    refine sg_geti f69_19 hrx0.1 rfl (x := (mi rx0 1)) rfl ?_
    refine sg_psh f69_22 (v := .int 1) (by decide) ?_
    refine sg_icmp f69_23 (fun c => ?_) (fun c => ?_)
    · have h := h.1 c
      refine sg_ld f69_33 (v := .int x2) rfl rfl ?_
      obtain ⟨e1, h⟩ := h
      refine sg_iast f69_34 hrx0.2.2 e1 ?_
      exact sg_ret f69_35 pq69 rfl h
    · have h := h.2 c
      refine sg_ld f69_26 (v := .int x2) rfl rfl ?_
      refine sg_psh f69_27 (v := .int 65535) (by decide) ?_
      refine sg_bin f69_29 rfl ?_
      refine sg_goto f69_30 ?_
      obtain ⟨e2, h⟩ := h
      refine sg_iast f69_34 hrx0.2.2 e2 ?_
      exact sg_ret f69_35 pq69 rfl h
  · have h := h.2 c
    refine sg_ld f69_12 (v := .int x2) rfl rfl ?_
    refine sg_psh f69_13 (v := .int 1) (by decide) ?_
    refine sg_bin f69_14 rfl ?_
    refine sg_goto f69_15 ?_
    obtain ⟨e3, h⟩ := h
    refine sg_iast f69_34 hrx0.2.2 e3 ?_
    exact sg_ret f69_35 pq69 rfl h

