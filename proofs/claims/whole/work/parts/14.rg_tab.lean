/-! X4_prepare (III)V -/
theorem fe56 (pc : Nat) : gm_fetch 56 pc = gm_find pc cd_56 := rfl
theorem f56_0 : gm_fetch 56 0 = some (1, .aload_n 0, 0, 0, 0, 0) := (fe56 0).trans rfl
theorem f56_1 : gm_fetch 56 1 = some (4, .getfield 22, 34, 4, 4, 0) := (fe56 1).trans rfl
theorem f56_4 : gm_fetch 56 4 = some (5, .iload_n 1, 0, 0, 0, 0) := (fe56 4).trans rfl
theorem f56_5 : gm_fetch 56 5 = some (8, .if_icmp .ne 20, 0, 25, 0, 0) := (fe56 5).trans rfl
theorem f56_8 : gm_fetch 56 8 = some (9, .aload_n 0, 0, 0, 0, 0) := (fe56 8).trans rfl
theorem f56_9 : gm_fetch 56 9 = some (12, .getfield 26, 35, 4, 5, 0) := (fe56 9).trans rfl
theorem f56_12 : gm_fetch 56 12 = some (13, .iload_n 2, 0, 0, 0, 0) := (fe56 12).trans rfl
theorem f56_13 : gm_fetch 56 13 = some (16, .if_icmp .ne 12, 0, 25, 0, 0) := (fe56 13).trans rfl
theorem f56_16 : gm_fetch 56 16 = some (17, .aload_n 0, 0, 0, 0, 0) := (fe56 16).trans rfl
theorem f56_17 : gm_fetch 56 17 = some (20, .getfield 29, 36, 4, 6, 0) := (fe56 17).trans rfl
theorem f56_20 : gm_fetch 56 20 = some (21, .iload_n 3, 0, 0, 0, 0) := (fe56 20).trans rfl
theorem f56_21 : gm_fetch 56 21 = some (24, .if_icmp .ne 4, 0, 25, 0, 0) := (fe56 21).trans rfl
theorem f56_24 : gm_fetch 56 24 = some (25, .return_, 0, 0, 0, 0) := (fe56 24).trans rfl
theorem f56_25 : gm_fetch 56 25 = some (26, .aload_n 0, 0, 0, 0, 0) := (fe56 25).trans rfl
theorem f56_26 : gm_fetch 56 26 = some (27, .iload_n 1, 0, 0, 0, 0) := (fe56 26).trans rfl
theorem f56_27 : gm_fetch 56 27 = some (30, .putfield 22, 34, 4, 4, 0) := (fe56 27).trans rfl
theorem f56_30 : gm_fetch 56 30 = some (31, .aload_n 0, 0, 0, 0, 0) := (fe56 30).trans rfl
theorem f56_31 : gm_fetch 56 31 = some (32, .iload_n 2, 0, 0, 0, 0) := (fe56 31).trans rfl
theorem f56_32 : gm_fetch 56 32 = some (35, .putfield 26, 35, 4, 5, 0) := (fe56 32).trans rfl
theorem f56_35 : gm_fetch 56 35 = some (36, .aload_n 0, 0, 0, 0, 0) := (fe56 35).trans rfl
theorem f56_36 : gm_fetch 56 36 = some (37, .iload_n 3, 0, 0, 0, 0) := (fe56 36).trans rfl
theorem f56_37 : gm_fetch 56 37 = some (40, .putfield 29, 36, 4, 6, 0) := (fe56 37).trans rfl
theorem f56_40 : gm_fetch 56 40 = some (41, .aload_n 0, 0, 0, 0, 0) := (fe56 40).trans rfl
theorem f56_41 : gm_fetch 56 41 = some (42, .iconst 0, 0, 0, 0, 0) := (fe56 41).trans rfl
theorem f56_42 : gm_fetch 56 42 = some (45, .putfield 32, 28, 4, 0, 0) := (fe56 42).trans rfl
theorem f56_45 : gm_fetch 56 45 = some (46, .iconst 0, 0, 0, 0, 0) := (fe56 45).trans rfl
theorem f56_46 : gm_fetch 56 46 = some (48, .istore 4, 0, 0, 0, 0) := (fe56 46).trans rfl
theorem f56_48 : gm_fetch 56 48 = some (50, .iload 4, 0, 0, 0, 0) := (fe56 48).trans rfl
theorem f56_50 : gm_fetch 56 50 = some (51, .iconst 1, 0, 0, 0, 0) := (fe56 50).trans rfl
theorem f56_51 : gm_fetch 56 51 = some (52, .aload_n 0, 0, 0, 0, 0) := (fe56 51).trans rfl
theorem f56_52 : gm_fetch 56 52 = some (55, .getfield 22, 34, 4, 4, 0) := (fe56 52).trans rfl
theorem f56_55 : gm_fetch 56 55 = some (56, .ishl, 0, 0, 0, 0) := (fe56 55).trans rfl
theorem f56_56 : gm_fetch 56 56 = some (59, .if_icmp .ge 36, 0, 92, 0, 0) := (fe56 56).trans rfl
theorem f56_59 : gm_fetch 56 59 = some (61, .iload 4, 0, 0, 0, 0) := (fe56 59).trans rfl
theorem f56_61 : gm_fetch 56 61 = some (64, .invokestatic 35, 44, 194, 0, 0) := (fe56 61).trans rfl
theorem f56_64 : gm_fetch 56 64 = some (65, .aload_n 0, 0, 0, 0, 0) := (fe56 64).trans rfl
theorem f56_65 : gm_fetch 56 65 = some (68, .getfield 26, 35, 4, 5, 0) := (fe56 65).trans rfl
theorem f56_68 : gm_fetch 56 68 = some (71, .if_icmp .ne 18, 0, 86, 0, 0) := (fe56 68).trans rfl
theorem f56_71 : gm_fetch 56 71 = some (72, .aload_n 0, 0, 0, 0, 0) := (fe56 71).trans rfl
theorem f56_72 : gm_fetch 56 72 = some (75, .getfield 32, 28, 4, 0, 0) := (fe56 72).trans rfl
theorem f56_75 : gm_fetch 56 75 = some (77, .bipush 35, 0, 0, 0, 0) := (fe56 75).trans rfl
theorem f56_77 : gm_fetch 56 77 = some (80, .if_icmp .ge 9, 0, 86, 0, 0) := (fe56 77).trans rfl
theorem f56_80 : gm_fetch 56 80 = some (81, .aload_n 0, 0, 0, 0, 0) := (fe56 80).trans rfl
theorem f56_81 : gm_fetch 56 81 = some (83, .iload 4, 0, 0, 0, 0) := (fe56 81).trans rfl
theorem f56_83 : gm_fetch 56 83 = some (86, .invokevirtual 41, 45, 57, 0, 0) := (fe56 83).trans rfl
theorem f56_86 : gm_fetch 56 86 = some (89, .iinc 4 1, 0, 0, 0, 0) := (fe56 86).trans rfl
theorem f56_89 : gm_fetch 56 89 = some (92, .goto (-41), 0, 48, 0, 0) := (fe56 89).trans rfl
theorem f56_92 : gm_fetch 56 92 = some (93, .aload_n 0, 0, 0, 0, 0) := (fe56 92).trans rfl
theorem f56_93 : gm_fetch 56 93 = some (96, .invokevirtual 45, 47, 58, 0, 0) := (fe56 93).trans rfl
theorem f56_96 : gm_fetch 56 96 = some (97, .return_, 0, 0, 0, 0) := (fe56 96).trans rfl
set_option maxRecDepth 10000 in
theorem rg56_0 {mi : Mi} {ml : Ml} {F : Mi → Ml → Prop} {rx0 : Nat} {x1 : Int32} {x2 : Int32} {x3 : Int32} (hrx0 : isT rx0) (h : ((¬ (mi rx0 4) = x1) → Sg 56 25 [some (.ref rx0), some (.int x1), some (.int x2), some (.int x3), none] [] mi ml (qv F)) ∧ (¬ (¬ (mi rx0 4) = x1) → ((¬ (mi rx0 5) = x2) → Sg 56 25 [some (.ref rx0), some (.int x1), some (.int x2), some (.int x3), none] [] mi ml (qv F)) ∧ (¬ (¬ (mi rx0 5) = x2) → ((¬ (mi rx0 6) = x3) → Sg 56 25 [some (.ref rx0), some (.int x1), some (.int x2), some (.int x3), none] [] mi ml (qv F)) ∧ (¬ (¬ (mi rx0 6) = x3) → F mi ml)))) : Sg 56 0 [some (.ref rx0), some (.int x1), some (.int x2), some (.int x3), none] [] mi ml (qv F) := by
  refine sg_ld f56_0 (v := .ref rx0) rfl rfl ?_
  refine sg_geti f56_1 hrx0.1 rfl (x := (mi rx0 4)) rfl ?_
  refine sg_ld f56_4 (v := .int x1) rfl rfl ?_
  refine sg_icmp f56_5 (fun c => ?_) (fun c => ?_)
  · have h := h.1 c
    exact h
  · have h := h.2 c
    refine sg_ld f56_8 (v := .ref rx0) rfl rfl ?_
    refine sg_geti f56_9 hrx0.1 rfl (x := (mi rx0 5)) rfl ?_
    refine sg_ld f56_12 (v := .int x2) rfl rfl ?_
    refine sg_icmp f56_13 (fun c => ?_) (fun c => ?_)
    · have h := h.1 c
      exact h
    · have h := h.2 c
      refine sg_ld f56_16 (v := .ref rx0) rfl rfl ?_
      refine sg_geti f56_17 hrx0.1 rfl (x := (mi rx0 6)) rfl ?_
      refine sg_ld f56_20 (v := .int x3) rfl rfl ?_
      refine sg_icmp f56_21 (fun c => ?_) (fun c => ?_)
      · have h := h.1 c
        exact h
      · have h := h.2 c
        exact sg_ret f56_24 pq56 rfl h

set_option maxRecDepth 10000 in
theorem rg56_25 {mi : Mi} {ml : Ml} {F : Mi → Ml → Prop} {rx0 : Nat} {x1 : Int32} {x2 : Int32} {x3 : Int32} (hrx0 : isT rx0) (h : Sg 56 48 [some (.ref rx0), some (.int x1), some (.int x2), some (.int x3), some (.int 0)] [] (va_up mi rx0 (va_up (va_up (va_up (va_up (mi rx0) 4 x1) 5 x2) 6 x3) 0 0)) ml (qv F)) : Sg 56 25 [some (.ref rx0), some (.int x1), some (.int x2), some (.int x3), none] [] mi ml (qv F) := by
  refine sg_ld f56_25 (v := .ref rx0) rfl rfl ?_
  refine sg_ld f56_26 (v := .int x1) rfl rfl ?_
  refine sg_puti f56_27 hrx0.1 rfl rfl (fun hz => by cases hz) ?_
  refine sg_ld f56_30 (v := .ref rx0) rfl rfl ?_
  refine sg_ld f56_31 (v := .int x2) rfl rfl ?_
  refine sg_puti2 f56_32 hrx0.1 rfl rfl (fun hz => by cases hz) ?_
  refine sg_ld f56_35 (v := .ref rx0) rfl rfl ?_
  refine sg_ld f56_36 (v := .int x3) rfl rfl ?_
  refine sg_puti2 f56_37 hrx0.1 rfl rfl (fun hz => by cases hz) ?_
  refine sg_ld f56_40 (v := .ref rx0) rfl rfl ?_
  refine sg_psh f56_41 (v := .int 0) (by decide) ?_
  refine sg_puti2 f56_42 hrx0.1 rfl rfl (fun hz => by cases hz) ?_
  refine sg_psh f56_45 (v := .int 0) (by decide) ?_
  refine sg_st1 f56_46 (ls' := [some (.ref rx0), some (.int x1), some (.int x2), some (.int x3), some (.int 0)]) rfl rfl rfl rfl ?_
  exact h

set_option maxRecDepth 10000 in
theorem rg56_48 {mi : Mi} {ml : Ml} {F : Mi → Ml → Prop} {rx0 : Nat} {x1 : Int32} {x2 : Int32} {x3 : Int32} {x4 : Int32} (hrx0 : isT rx0) (h : (((1 <<< ((mi rx0 4) &&& 31)) ≤ x4) → Sg 58 0 [some (.ref rx0), none, none] [] mi ml (qv fun mi2 ml3 => F mi2 ml3)) ∧ (¬ ((1 <<< ((mi rx0 4) &&& 31)) ≤ x4) → Sg 194 0 [some (.int x4)] [] mi ml (qi fun y4 mi5 ml6 => ((¬ y4 = (mi5 rx0 5)) → Sg 56 48 [some (.ref rx0), some (.int x1), some (.int x2), some (.int x3), some (.int (x4 + 1))] [] mi5 ml6 (qv F)) ∧ (¬ (¬ y4 = (mi5 rx0 5)) → ((35 ≤ (mi5 rx0 0)) → Sg 56 48 [some (.ref rx0), some (.int x1), some (.int x2), some (.int x3), some (.int (x4 + 1))] [] mi5 ml6 (qv F)) ∧ (¬ (35 ≤ (mi5 rx0 0)) → Sg 57 0 [some (.ref rx0), some (.int x4), none, none, none] [] mi5 ml6 (qv fun mi8 ml9 => Sg 56 48 [some (.ref rx0), some (.int x1), some (.int x2), some (.int x3), some (.int (x4 + 1))] [] mi8 ml9 (qv F))))))) : Sg 56 48 [some (.ref rx0), some (.int x1), some (.int x2), some (.int x3), some (.int x4)] [] mi ml (qv F) := by
  refine sg_ld f56_48 (v := .int x4) rfl rfl ?_
  refine sg_psh f56_50 (v := .int 1) (by decide) ?_
  refine sg_ld f56_51 (v := .ref rx0) rfl rfl ?_
  refine sg_geti f56_52 hrx0.1 rfl (x := (mi rx0 4)) rfl ?_
  refine sg_bin f56_55 rfl ?_
  refine sg_icmp f56_56 (fun c => ?_) (fun c => ?_)
  · have h := h.1 c
    refine sg_ld f56_92 (v := .ref rx0) rfl rfl ?_
    refine sg_cV f56_93 (vs := []) (r := rx0) (rest := []) (en := [some (.ref rx0), none, none]) pq58 ⟨rfl, rfl⟩ rfl hrx0.1 rfl rfl rfl rfl h ?_
    intro _ mi2 ml3 h
    have h := gm_qv h
    exact sg_ret f56_96 pq56 rfl h
  · have h := h.2 c
    refine sg_ld f56_59 (v := .int x4) rfl rfl ?_
    refine sg_cS f56_61 (vs := [.int x4]) (rest := []) (en := [some (.int x4)]) (by decide) pq194 ⟨rfl, rfl⟩ rfl rfl rfl rfl rfl h ?_
    rintro _ mi5 ml6 ⟨y4, rfl, h⟩
    refine sg_ld f56_64 (v := .ref rx0) rfl rfl ?_
    refine sg_geti f56_65 hrx0.1 rfl (x := (mi5 rx0 5)) rfl ?_
    refine sg_icmp f56_68 (fun c => ?_) (fun c => ?_)
    · have h := h.1 c
      refine sg_inc f56_86 (d := 1) (ls' := [some (.ref rx0), some (.int x1), some (.int x2), some (.int x3), some (.int (x4 + 1))]) rfl (by decide) rfl ?_
      refine sg_goto f56_89 ?_
      exact h
    · have h := h.2 c
      refine sg_ld f56_71 (v := .ref rx0) rfl rfl ?_
      refine sg_geti f56_72 hrx0.1 rfl (x := (mi5 rx0 0)) rfl ?_
      refine sg_psh f56_75 (v := .int 35) (by decide) ?_
      refine sg_icmp f56_77 (fun c => ?_) (fun c => ?_)
      · have h := h.1 c
        refine sg_inc f56_86 (d := 1) (ls' := [some (.ref rx0), some (.int x1), some (.int x2), some (.int x3), some (.int (x4 + 1))]) rfl (by decide) rfl ?_
        refine sg_goto f56_89 ?_
        exact h
      · have h := h.2 c
        refine sg_ld f56_80 (v := .ref rx0) rfl rfl ?_
        refine sg_ld f56_81 (v := .int x4) rfl rfl ?_
        refine sg_cV f56_83 (vs := [.int x4]) (r := rx0) (rest := []) (en := [some (.ref rx0), some (.int x4), none, none, none]) pq57 ⟨rfl, rfl⟩ rfl hrx0.1 rfl rfl rfl rfl h ?_
        intro _ mi8 ml9 h
        have h := gm_qv h
        refine sg_inc f56_86 (d := 1) (ls' := [some (.ref rx0), some (.int x1), some (.int x2), some (.int x3), some (.int (x4 + 1))]) rfl (by decide) rfl ?_
        refine sg_goto f56_89 ?_
        exact h

/-! X4_addUnlessWide (I)V -/
theorem fe57 (pc : Nat) : gm_fetch 57 pc = gm_find pc cd_57 := rfl
theorem f57_0 : gm_fetch 57 0 = some (1, .aload_n 0, 0, 0, 0, 0) := (fe57 0).trans rfl
theorem f57_1 : gm_fetch 57 1 = some (4, .getfield 32, 28, 4, 0, 0) := (fe57 1).trans rfl
theorem f57_4 : gm_fetch 57 4 = some (6, .bipush 7, 0, 0, 0, 0) := (fe57 4).trans rfl
theorem f57_6 : gm_fetch 57 6 = some (7, .imul, 0, 0, 0, 0) := (fe57 6).trans rfl
theorem f57_7 : gm_fetch 57 7 = some (8, .istore_n 2, 0, 0, 0, 0) := (fe57 7).trans rfl
theorem f57_8 : gm_fetch 57 8 = some (9, .iconst 0, 0, 0, 0, 0) := (fe57 8).trans rfl
theorem f57_9 : gm_fetch 57 9 = some (10, .istore_n 3, 0, 0, 0, 0) := (fe57 9).trans rfl
theorem f57_10 : gm_fetch 57 10 = some (11, .iconst 0, 0, 0, 0, 0) := (fe57 10).trans rfl
theorem f57_11 : gm_fetch 57 11 = some (13, .istore 4, 0, 0, 0, 0) := (fe57 11).trans rfl
theorem f57_13 : gm_fetch 57 13 = some (15, .iload 4, 0, 0, 0, 0) := (fe57 13).trans rfl
theorem f57_15 : gm_fetch 57 15 = some (16, .aload_n 0, 0, 0, 0, 0) := (fe57 15).trans rfl
theorem f57_16 : gm_fetch 57 16 = some (19, .getfield 22, 34, 4, 4, 0) := (fe57 16).trans rfl
theorem f57_19 : gm_fetch 57 19 = some (22, .if_icmp .ge 59, 0, 78, 0, 0) := (fe57 19).trans rfl
theorem f57_22 : gm_fetch 57 22 = some (23, .iload_n 1, 0, 0, 0, 0) := (fe57 22).trans rfl
theorem f57_23 : gm_fetch 57 23 = some (25, .iload 4, 0, 0, 0, 0) := (fe57 23).trans rfl
theorem f57_25 : gm_fetch 57 25 = some (28, .invokestatic 48, 46, 109, 1, 0) := (fe57 25).trans rfl
theorem f57_28 : gm_fetch 57 28 = some (29, .iconst 1, 0, 0, 0, 0) := (fe57 28).trans rfl
theorem f57_29 : gm_fetch 57 29 = some (32, .if_icmp .ne 43, 0, 72, 0, 0) := (fe57 29).trans rfl
theorem f57_32 : gm_fetch 57 32 = some (33, .iload_n 3, 0, 0, 0, 0) := (fe57 32).trans rfl
theorem f57_33 : gm_fetch 57 33 = some (36, .ifCond .le 26, 0, 59, 0, 0) := (fe57 33).trans rfl
theorem f57_36 : gm_fetch 57 36 = some (38, .iload 4, 0, 0, 0, 0) := (fe57 36).trans rfl
theorem f57_38 : gm_fetch 57 38 = some (39, .aload_n 0, 0, 0, 0, 0) := (fe57 38).trans rfl
theorem f57_39 : gm_fetch 57 39 = some (42, .getfield 15, 32, 4, 2, 0) := (fe57 39).trans rfl
theorem f57_42 : gm_fetch 57 42 = some (43, .iload_n 2, 0, 0, 0, 0) := (fe57 42).trans rfl
theorem f57_43 : gm_fetch 57 43 = some (44, .iload_n 3, 0, 0, 0, 0) := (fe57 43).trans rfl
theorem f57_44 : gm_fetch 57 44 = some (45, .iadd, 0, 0, 0, 0) := (fe57 44).trans rfl
theorem f57_45 : gm_fetch 57 45 = some (46, .iconst 1, 0, 0, 0, 0) := (fe57 45).trans rfl
theorem f57_46 : gm_fetch 57 46 = some (47, .isub, 0, 0, 0, 0) := (fe57 46).trans rfl
theorem f57_47 : gm_fetch 57 47 = some (48, .iaload, 0, 0, 0, 0) := (fe57 47).trans rfl
theorem f57_48 : gm_fetch 57 48 = some (49, .isub, 0, 0, 0, 0) := (fe57 48).trans rfl
theorem f57_49 : gm_fetch 57 49 = some (50, .iconst 1, 0, 0, 0, 0) := (fe57 49).trans rfl
theorem f57_50 : gm_fetch 57 50 = some (51, .isub, 0, 0, 0, 0) := (fe57 50).trans rfl
theorem f57_51 : gm_fetch 57 51 = some (52, .aload_n 0, 0, 0, 0, 0) := (fe57 51).trans rfl
theorem f57_52 : gm_fetch 57 52 = some (55, .getfield 29, 36, 4, 6, 0) := (fe57 52).trans rfl
theorem f57_55 : gm_fetch 57 55 = some (58, .if_icmp .le 4, 0, 59, 0, 0) := (fe57 55).trans rfl
theorem f57_58 : gm_fetch 57 58 = some (59, .return_, 0, 0, 0, 0) := (fe57 58).trans rfl
theorem f57_59 : gm_fetch 57 59 = some (60, .aload_n 0, 0, 0, 0, 0) := (fe57 59).trans rfl
theorem f57_60 : gm_fetch 57 60 = some (63, .getfield 15, 32, 4, 2, 0) := (fe57 60).trans rfl
theorem f57_63 : gm_fetch 57 63 = some (64, .iload_n 2, 0, 0, 0, 0) := (fe57 63).trans rfl
theorem f57_64 : gm_fetch 57 64 = some (65, .iload_n 3, 0, 0, 0, 0) := (fe57 64).trans rfl
theorem f57_65 : gm_fetch 57 65 = some (66, .iadd, 0, 0, 0, 0) := (fe57 65).trans rfl
theorem f57_66 : gm_fetch 57 66 = some (68, .iload 4, 0, 0, 0, 0) := (fe57 66).trans rfl
theorem f57_68 : gm_fetch 57 68 = some (69, .iastore, 0, 0, 0, 0) := (fe57 68).trans rfl
theorem f57_69 : gm_fetch 57 69 = some (72, .iinc 3 1, 0, 0, 0, 0) := (fe57 69).trans rfl
theorem f57_72 : gm_fetch 57 72 = some (75, .iinc 4 1, 0, 0, 0, 0) := (fe57 72).trans rfl
theorem f57_75 : gm_fetch 57 75 = some (78, .goto (-62), 0, 13, 0, 0) := (fe57 75).trans rfl
theorem f57_78 : gm_fetch 57 78 = some (79, .aload_n 0, 0, 0, 0, 0) := (fe57 78).trans rfl
theorem f57_79 : gm_fetch 57 79 = some (82, .getfield 9, 30, 4, 1, 0) := (fe57 79).trans rfl
theorem f57_82 : gm_fetch 57 82 = some (83, .aload_n 0, 0, 0, 0, 0) := (fe57 82).trans rfl
theorem f57_83 : gm_fetch 57 83 = some (86, .getfield 32, 28, 4, 0, 0) := (fe57 83).trans rfl
theorem f57_86 : gm_fetch 57 86 = some (87, .iload_n 1, 0, 0, 0, 0) := (fe57 86).trans rfl
theorem f57_87 : gm_fetch 57 87 = some (88, .iastore, 0, 0, 0, 0) := (fe57 87).trans rfl
theorem f57_88 : gm_fetch 57 88 = some (89, .aload_n 0, 0, 0, 0, 0) := (fe57 88).trans rfl
theorem f57_89 : gm_fetch 57 89 = some (90, .dup, 0, 0, 0, 0) := (fe57 89).trans rfl
theorem f57_90 : gm_fetch 57 90 = some (93, .getfield 32, 28, 4, 0, 0) := (fe57 90).trans rfl
theorem f57_93 : gm_fetch 57 93 = some (94, .iconst 1, 0, 0, 0, 0) := (fe57 93).trans rfl
theorem f57_94 : gm_fetch 57 94 = some (95, .iadd, 0, 0, 0, 0) := (fe57 94).trans rfl
theorem f57_95 : gm_fetch 57 95 = some (98, .putfield 32, 28, 4, 0, 0) := (fe57 95).trans rfl
theorem f57_98 : gm_fetch 57 98 = some (99, .return_, 0, 0, 0, 0) := (fe57 98).trans rfl
set_option maxRecDepth 10000 in
theorem rg57_0 {mi : Mi} {ml : Ml} {F : Mi → Ml → Prop} {rx0 : Nat} {x1 : Int32} (hrx0 : isT rx0) (h : Sg 57 13 [some (.ref rx0), some (.int x1), some (.int ((mi rx0 0) * 7)), some (.int 0), some (.int 0)] [] mi ml (qv F)) : Sg 57 0 [some (.ref rx0), some (.int x1), none, none, none] [] mi ml (qv F) := by
  refine sg_ld f57_0 (v := .ref rx0) rfl rfl ?_
  refine sg_geti f57_1 hrx0.1 rfl (x := (mi rx0 0)) rfl ?_
  refine sg_psh f57_4 (v := .int 7) (by decide) ?_
  refine sg_bin f57_6 rfl ?_
  refine sg_st1 f57_7 (ls' := [some (.ref rx0), some (.int x1), some (.int ((mi rx0 0) * 7)), none, none]) rfl rfl rfl rfl ?_
  refine sg_psh f57_8 (v := .int 0) (by decide) ?_
  refine sg_st1 f57_9 (ls' := [some (.ref rx0), some (.int x1), some (.int ((mi rx0 0) * 7)), some (.int 0), none]) rfl rfl rfl rfl ?_
  refine sg_psh f57_10 (v := .int 0) (by decide) ?_
  refine sg_st1 f57_11 (ls' := [some (.ref rx0), some (.int x1), some (.int ((mi rx0 0) * 7)), some (.int 0), some (.int 0)]) rfl rfl rfl rfl ?_
  exact h

set_option maxRecDepth 10000 in
theorem rg57_13 {mi : Mi} {ml : Ml} {F : Mi → Ml → Prop} {rx0 : Nat} {x1 : Int32} {x2 : Int32} {x3 : Int32} {x4 : Int32} (hrx0 : isT rx0) (h : (((mi rx0 4) ≤ x4) → (vp_in (mi rx0 0) 35) ∧ (F (va_up (va_up mi (rx0 + 1) (va_up (mi (rx0 + 1)) (Int32.toNatClampNeg (mi rx0 0)) x1)) rx0 (va_up ((va_up mi (rx0 + 1) (va_up (mi (rx0 + 1)) (Int32.toNatClampNeg (mi rx0 0)) x1)) rx0) 0 (((va_up mi (rx0 + 1) (va_up (mi (rx0 + 1)) (Int32.toNatClampNeg (mi rx0 0)) x1)) rx0 0) + 1))) ml)) ∧ (¬ ((mi rx0 4) ≤ x4) → Sg 109 0 [some (.int x1), some (.int x4)] [] mi ml (qi fun y2 mi3 ml4 => ((¬ y2 = 1) → Sg 57 13 [some (.ref rx0), some (.int x1), some (.int x2), some (.int x3), some (.int (x4 + 1))] [] mi3 ml4 (qv F)) ∧ (¬ (¬ y2 = 1) → ((x3 ≤ 0) → Sg 57 59 [some (.ref rx0), some (.int x1), some (.int x2), some (.int x3), some (.int x4)] [] mi3 ml4 (qv F)) ∧ (¬ (x3 ≤ 0) → (vp_in ((x2 + x3) - 1) 245) ∧ (((((x4 - (mi3 (rx0 + 2) (Int32.toNatClampNeg ((x2 + x3) - 1)))) - 1) ≤ (mi3 rx0 6)) → Sg 57 59 [some (.ref rx0), some (.int x1), some (.int x2), some (.int x3), some (.int x4)] [] mi3 ml4 (qv F)) ∧ (¬ (((x4 - (mi3 (rx0 + 2) (Int32.toNatClampNeg ((x2 + x3) - 1)))) - 1) ≤ (mi3 rx0 6)) → F mi3 ml4))))))) : Sg 57 13 [some (.ref rx0), some (.int x1), some (.int x2), some (.int x3), some (.int x4)] [] mi ml (qv F) := by
  refine sg_ld f57_13 (v := .int x4) rfl rfl ?_
  refine sg_ld f57_15 (v := .ref rx0) rfl rfl ?_
  refine sg_geti f57_16 hrx0.1 rfl (x := (mi rx0 4)) rfl ?_
  refine sg_icmp f57_19 (fun c => ?_) (fun c => ?_)
  · have h := h.1 c
    refine sg_ld f57_78 (v := .ref rx0) rfl rfl ?_
    refine sg_getr f57_79 hrx0.1 rfl (w := rx0 + 1) hrx0.2.1 ?_
    refine sg_ld f57_82 (v := .ref rx0) rfl rfl ?_
    refine sg_geti f57_83 hrx0.1 rfl (x := (mi rx0 0)) rfl ?_
    refine sg_ld f57_86 (v := .int x1) rfl rfl ?_
    obtain ⟨e1, h⟩ := h
    refine sg_iast f57_87 hrx0.2.2.2.2.1 e1 ?_
    refine sg_ld f57_88 (v := .ref rx0) rfl rfl ?_
    refine sg_dup f57_89 rfl ?_
    refine sg_geti f57_90 hrx0.1 rfl (x := ((va_up mi (rx0 + 1) (va_up (mi (rx0 + 1)) (Int32.toNatClampNeg (mi rx0 0)) x1)) rx0 0)) (by simp [va_up]) ?_
    refine sg_psh f57_93 (v := .int 1) (by decide) ?_
    refine sg_bin f57_94 rfl ?_
    refine sg_puti f57_95 hrx0.1 rfl rfl (fun hz => by cases hz) ?_
    exact sg_ret f57_98 pq57 rfl h
  · have h := h.2 c
    refine sg_ld f57_22 (v := .int x1) rfl rfl ?_
    refine sg_ld f57_23 (v := .int x4) rfl rfl ?_
    refine sg_cS f57_25 (vs := [.int x1, .int x4]) (rest := []) (en := [some (.int x1), some (.int x4)]) (by decide) pq109 ⟨rfl, rfl⟩ rfl rfl rfl rfl rfl h ?_
    rintro _ mi3 ml4 ⟨y2, rfl, h⟩
    refine sg_psh f57_28 (v := .int 1) (by decide) ?_
    refine sg_icmp f57_29 (fun c => ?_) (fun c => ?_)
    · have h := h.1 c
      refine sg_inc f57_72 (d := 1) (ls' := [some (.ref rx0), some (.int x1), some (.int x2), some (.int x3), some (.int (x4 + 1))]) rfl (by decide) rfl ?_
      refine sg_goto f57_75 ?_
      exact h
    · have h := h.2 c
      refine sg_ld f57_32 (v := .int x3) rfl rfl ?_
      refine sg_if f57_33 (fun c => ?_) (fun c => ?_)
      · have h := h.1 c
        exact h
      · have h := h.2 c
        refine sg_ld f57_36 (v := .int x4) rfl rfl ?_
        refine sg_ld f57_38 (v := .ref rx0) rfl rfl ?_
        refine sg_getr f57_39 hrx0.1 rfl (w := rx0 + 2) hrx0.2.2.1 ?_
        refine sg_ld f57_42 (v := .int x2) rfl rfl ?_
        refine sg_ld f57_43 (v := .int x3) rfl rfl ?_
        refine sg_bin f57_44 rfl ?_
        refine sg_psh f57_45 (v := .int 1) (by decide) ?_
        refine sg_bin f57_46 rfl ?_
        obtain ⟨e5, h⟩ := h
        refine sg_iald f57_47 hrx0.2.2.2.2.2.1 e5 (x := (mi3 (rx0 + 2) (Int32.toNatClampNeg ((x2 + x3) - 1)))) rfl ?_
        refine sg_bin f57_48 rfl ?_
        refine sg_psh f57_49 (v := .int 1) (by decide) ?_
        refine sg_bin f57_50 rfl ?_
        refine sg_ld f57_51 (v := .ref rx0) rfl rfl ?_
        refine sg_geti f57_52 hrx0.1 rfl (x := (mi3 rx0 6)) rfl ?_
        refine sg_icmp f57_55 (fun c => ?_) (fun c => ?_)
        · have h := h.1 c
          exact h
        · have h := h.2 c
          exact sg_ret f57_58 pq57 rfl h

set_option maxRecDepth 10000 in
theorem rg57_59 {mi : Mi} {ml : Ml} {F : Mi → Ml → Prop} {rx0 : Nat} {x1 : Int32} {x2 : Int32} {x3 : Int32} {x4 : Int32} (hrx0 : isT rx0) (h : (vp_in (x2 + x3) 245) ∧ (Sg 57 13 [some (.ref rx0), some (.int x1), some (.int x2), some (.int (x3 + 1)), some (.int (x4 + 1))] [] (va_up mi (rx0 + 2) (va_up (mi (rx0 + 2)) (Int32.toNatClampNeg (x2 + x3)) x4)) ml (qv F))) : Sg 57 59 [some (.ref rx0), some (.int x1), some (.int x2), some (.int x3), some (.int x4)] [] mi ml (qv F) := by
  refine sg_ld f57_59 (v := .ref rx0) rfl rfl ?_
  refine sg_getr f57_60 hrx0.1 rfl (w := rx0 + 2) hrx0.2.2.1 ?_
  refine sg_ld f57_63 (v := .int x2) rfl rfl ?_
  refine sg_ld f57_64 (v := .int x3) rfl rfl ?_
  refine sg_bin f57_65 rfl ?_
  refine sg_ld f57_66 (v := .int x4) rfl rfl ?_
  obtain ⟨e1, h⟩ := h
  refine sg_iast f57_68 hrx0.2.2.2.2.2.1 e1 ?_
  refine sg_inc f57_69 (d := 1) (ls' := [some (.ref rx0), some (.int x1), some (.int x2), some (.int (x3 + 1)), some (.int x4)]) rfl (by decide) rfl ?_
  refine sg_inc f57_72 (d := 1) (ls' := [some (.ref rx0), some (.int x1), some (.int x2), some (.int (x3 + 1)), some (.int (x4 + 1))]) rfl (by decide) rfl ?_
  refine sg_goto f57_75 ?_
  exact h

/-! X4_joinSeats ()V -/
theorem fe58 (pc : Nat) : gm_fetch 58 pc = gm_find pc cd_58 := rfl
theorem f58_0 : gm_fetch 58 0 = some (1, .iconst 0, 0, 0, 0, 0) := (fe58 0).trans rfl
theorem f58_1 : gm_fetch 58 1 = some (2, .istore_n 1, 0, 0, 0, 0) := (fe58 1).trans rfl
theorem f58_2 : gm_fetch 58 2 = some (3, .iload_n 1, 0, 0, 0, 0) := (fe58 2).trans rfl
theorem f58_3 : gm_fetch 58 3 = some (4, .aload_n 0, 0, 0, 0, 0) := (fe58 3).trans rfl
theorem f58_4 : gm_fetch 58 4 = some (7, .getfield 32, 28, 4, 0, 0) := (fe58 4).trans rfl
theorem f58_7 : gm_fetch 58 7 = some (10, .if_icmp .ge 64, 0, 71, 0, 0) := (fe58 7).trans rfl
theorem f58_10 : gm_fetch 58 10 = some (11, .aload_n 0, 0, 0, 0, 0) := (fe58 10).trans rfl
theorem f58_11 : gm_fetch 58 11 = some (14, .getfield 18, 33, 4, 3, 0) := (fe58 11).trans rfl
theorem f58_14 : gm_fetch 58 14 = some (15, .iload_n 1, 0, 0, 0, 0) := (fe58 14).trans rfl
theorem f58_15 : gm_fetch 58 15 = some (16, .lconst 1, 0, 0, 0, 0) := (fe58 15).trans rfl
theorem f58_16 : gm_fetch 58 16 = some (17, .iload_n 1, 0, 0, 0, 0) := (fe58 16).trans rfl
theorem f58_17 : gm_fetch 58 17 = some (18, .lshl, 0, 0, 0, 0) := (fe58 17).trans rfl
theorem f58_18 : gm_fetch 58 18 = some (19, .lastore, 0, 0, 0, 0) := (fe58 18).trans rfl
theorem f58_19 : gm_fetch 58 19 = some (20, .iconst 0, 0, 0, 0, 0) := (fe58 19).trans rfl
theorem f58_20 : gm_fetch 58 20 = some (21, .istore_n 2, 0, 0, 0, 0) := (fe58 20).trans rfl
theorem f58_21 : gm_fetch 58 21 = some (22, .iload_n 2, 0, 0, 0, 0) := (fe58 21).trans rfl
theorem f58_22 : gm_fetch 58 22 = some (23, .iload_n 1, 0, 0, 0, 0) := (fe58 22).trans rfl
theorem f58_23 : gm_fetch 58 23 = some (26, .if_icmp .ge 42, 0, 65, 0, 0) := (fe58 23).trans rfl
theorem f58_26 : gm_fetch 58 26 = some (27, .aload_n 0, 0, 0, 0, 0) := (fe58 26).trans rfl
theorem f58_27 : gm_fetch 58 27 = some (28, .iload_n 1, 0, 0, 0, 0) := (fe58 27).trans rfl
theorem f58_28 : gm_fetch 58 28 = some (29, .iload_n 2, 0, 0, 0, 0) := (fe58 28).trans rfl
theorem f58_29 : gm_fetch 58 29 = some (32, .invokevirtual 52, 48, 59, 0, 0) := (fe58 29).trans rfl
theorem f58_32 : gm_fetch 58 32 = some (35, .ifCond .eq 27, 0, 59, 0, 0) := (fe58 32).trans rfl
theorem f58_35 : gm_fetch 58 35 = some (36, .aload_n 0, 0, 0, 0, 0) := (fe58 35).trans rfl
theorem f58_36 : gm_fetch 58 36 = some (39, .getfield 18, 33, 4, 3, 0) := (fe58 36).trans rfl
theorem f58_39 : gm_fetch 58 39 = some (40, .iload_n 1, 0, 0, 0, 0) := (fe58 39).trans rfl
theorem f58_40 : gm_fetch 58 40 = some (41, .dup2, 0, 0, 0, 0) := (fe58 40).trans rfl
theorem f58_41 : gm_fetch 58 41 = some (42, .laload, 0, 0, 0, 0) := (fe58 41).trans rfl
theorem f58_42 : gm_fetch 58 42 = some (43, .lconst 1, 0, 0, 0, 0) := (fe58 42).trans rfl
theorem f58_43 : gm_fetch 58 43 = some (44, .iload_n 2, 0, 0, 0, 0) := (fe58 43).trans rfl
theorem f58_44 : gm_fetch 58 44 = some (45, .lshl, 0, 0, 0, 0) := (fe58 44).trans rfl
theorem f58_45 : gm_fetch 58 45 = some (46, .lor, 0, 0, 0, 0) := (fe58 45).trans rfl
theorem f58_46 : gm_fetch 58 46 = some (47, .lastore, 0, 0, 0, 0) := (fe58 46).trans rfl
theorem f58_47 : gm_fetch 58 47 = some (48, .aload_n 0, 0, 0, 0, 0) := (fe58 47).trans rfl
theorem f58_48 : gm_fetch 58 48 = some (51, .getfield 18, 33, 4, 3, 0) := (fe58 48).trans rfl
theorem f58_51 : gm_fetch 58 51 = some (52, .iload_n 2, 0, 0, 0, 0) := (fe58 51).trans rfl
theorem f58_52 : gm_fetch 58 52 = some (53, .dup2, 0, 0, 0, 0) := (fe58 52).trans rfl
theorem f58_53 : gm_fetch 58 53 = some (54, .laload, 0, 0, 0, 0) := (fe58 53).trans rfl
theorem f58_54 : gm_fetch 58 54 = some (55, .lconst 1, 0, 0, 0, 0) := (fe58 54).trans rfl
theorem f58_55 : gm_fetch 58 55 = some (56, .iload_n 1, 0, 0, 0, 0) := (fe58 55).trans rfl
theorem f58_56 : gm_fetch 58 56 = some (57, .lshl, 0, 0, 0, 0) := (fe58 56).trans rfl
theorem f58_57 : gm_fetch 58 57 = some (58, .lor, 0, 0, 0, 0) := (fe58 57).trans rfl
theorem f58_58 : gm_fetch 58 58 = some (59, .lastore, 0, 0, 0, 0) := (fe58 58).trans rfl
theorem f58_59 : gm_fetch 58 59 = some (62, .iinc 2 1, 0, 0, 0, 0) := (fe58 59).trans rfl
theorem f58_62 : gm_fetch 58 62 = some (65, .goto (-41), 0, 21, 0, 0) := (fe58 62).trans rfl
theorem f58_65 : gm_fetch 58 65 = some (68, .iinc 1 1, 0, 0, 0, 0) := (fe58 65).trans rfl
theorem f58_68 : gm_fetch 58 68 = some (71, .goto (-66), 0, 2, 0, 0) := (fe58 68).trans rfl
theorem f58_71 : gm_fetch 58 71 = some (72, .return_, 0, 0, 0, 0) := (fe58 71).trans rfl
set_option maxRecDepth 10000 in
theorem rg58_0 {mi : Mi} {ml : Ml} {F : Mi → Ml → Prop} {rx0 : Nat} (hrx0 : isT rx0) (h : Sg 58 2 [some (.ref rx0), some (.int 0), none] [] mi ml (qv F)) : Sg 58 0 [some (.ref rx0), none, none] [] mi ml (qv F) := by
  refine sg_psh f58_0 (v := .int 0) (by decide) ?_
  refine sg_st1 f58_1 (ls' := [some (.ref rx0), some (.int 0), none]) rfl rfl rfl rfl ?_
  exact h

set_option maxRecDepth 10000 in
theorem rg58_2 {mi : Mi} {ml : Ml} {F : Mi → Ml → Prop} {rx0 : Nat} {x1 : Int32} (hrx0 : isT rx0) (h : (((mi rx0 0) ≤ x1) → F mi ml) ∧ (¬ ((mi rx0 0) ≤ x1) → (vp_in x1 35) ∧ (Sg 58 21 [some (.ref rx0), some (.int x1), some (.int 0)] [] mi (va_up ml (rx0 + 3) (va_up (ml (rx0 + 3)) (Int32.toNatClampNeg x1) (lshl 1 x1))) (qv F)))) : Sg 58 2 [some (.ref rx0), some (.int x1), none] [] mi ml (qv F) := by
  refine sg_ld f58_2 (v := .int x1) rfl rfl ?_
  refine sg_ld f58_3 (v := .ref rx0) rfl rfl ?_
  refine sg_geti f58_4 hrx0.1 rfl (x := (mi rx0 0)) rfl ?_
  refine sg_icmp f58_7 (fun c => ?_) (fun c => ?_)
  · have h := h.1 c
    exact sg_ret f58_71 pq58 rfl h
  · have h := h.2 c
    refine sg_ld f58_10 (v := .ref rx0) rfl rfl ?_
    refine sg_getr f58_11 hrx0.1 rfl (w := rx0 + 3) hrx0.2.2.2.1 ?_
    refine sg_ld f58_14 (v := .int x1) rfl rfl ?_
    refine sg_psh f58_15 (v := .long 1) (by decide) ?_
    refine sg_ld f58_16 (v := .int x1) rfl rfl ?_
    refine sg_shl f58_17 rfl ?_
    obtain ⟨e1, h⟩ := h
    refine sg_last f58_18 hrx0.2.2.2.2.2.2 e1 ?_
    refine sg_psh f58_19 (v := .int 0) (by decide) ?_
    refine sg_st1 f58_20 (ls' := [some (.ref rx0), some (.int x1), some (.int 0)]) rfl rfl rfl rfl ?_
    exact h

set_option maxRecDepth 10000 in
theorem rg58_21 {mi : Mi} {ml : Ml} {F : Mi → Ml → Prop} {rx0 : Nat} {x1 : Int32} {x2 : Int32} (hrx0 : isT rx0) (h : ((x1 ≤ x2) → Sg 58 2 [some (.ref rx0), some (.int (x1 + 1)), none] [] mi ml (qv F)) ∧ (¬ (x1 ≤ x2) → Sg 59 0 [some (.ref rx0), some (.int x1), some (.int x2), none, none] [] mi ml (qi fun y1 mi2 ml3 => ((y1 = 0) → Sg 58 21 [some (.ref rx0), some (.int x1), some (.int (x2 + 1))] [] mi2 ml3 (qv F)) ∧ (¬ (y1 = 0) → (vp_in x1 35) ∧ ((vp_in x2 35) ∧ (Sg 58 21 [some (.ref rx0), some (.int x1), some (.int (x2 + 1))] [] mi2 (va_up ml3 (rx0 + 3) (va_up (va_up (ml3 (rx0 + 3)) (Int32.toNatClampNeg x1) ((ml3 (rx0 + 3) (Int32.toNatClampNeg x1)) ||| (lshl 1 x2))) (Int32.toNatClampNeg x2) (((va_up (ml3 (rx0 + 3)) (Int32.toNatClampNeg x1) ((ml3 (rx0 + 3) (Int32.toNatClampNeg x1)) ||| (lshl 1 x2))) (Int32.toNatClampNeg x2)) ||| (lshl 1 x1)))) (qv F))))))) : Sg 58 21 [some (.ref rx0), some (.int x1), some (.int x2)] [] mi ml (qv F) := by
  refine sg_ld f58_21 (v := .int x2) rfl rfl ?_
  refine sg_ld f58_22 (v := .int x1) rfl rfl ?_
  refine sg_icmp f58_23 (fun c => ?_) (fun c => ?_)
  · have h := h.1 c
    refine sg_inc f58_65 (d := 1) (ls' := [some (.ref rx0), some (.int (x1 + 1)), some (.int x2)]) rfl (by decide) rfl ?_
    refine sg_goto f58_68 ?_
    exact sg_drop [2] rfl h
  · have h := h.2 c
    refine sg_ld f58_26 (v := .ref rx0) rfl rfl ?_
    refine sg_ld f58_27 (v := .int x1) rfl rfl ?_
    refine sg_ld f58_28 (v := .int x2) rfl rfl ?_
    refine sg_cV f58_29 (vs := [.int x1, .int x2]) (r := rx0) (rest := []) (en := [some (.ref rx0), some (.int x1), some (.int x2), none, none]) pq59 ⟨rfl, rfl⟩ rfl hrx0.1 rfl rfl rfl rfl h ?_
    rintro _ mi2 ml3 ⟨y1, rfl, h⟩
    refine sg_if f58_32 (fun c => ?_) (fun c => ?_)
    · have h := h.1 c
      refine sg_inc f58_59 (d := 1) (ls' := [some (.ref rx0), some (.int x1), some (.int (x2 + 1))]) rfl (by decide) rfl ?_
      refine sg_goto f58_62 ?_
      exact h
    · have h := h.2 c
      refine sg_ld f58_35 (v := .ref rx0) rfl rfl ?_
      refine sg_getr f58_36 hrx0.1 rfl (w := rx0 + 3) hrx0.2.2.2.1 ?_
      refine sg_ld f58_39 (v := .int x1) rfl rfl ?_
      refine sg_dup2 f58_40 rfl rfl ?_
      obtain ⟨e4, h⟩ := h
      refine sg_lald f58_41 hrx0.2.2.2.2.2.2 e4 (x := (ml3 (rx0 + 3) (Int32.toNatClampNeg x1))) rfl ?_
      refine sg_psh f58_42 (v := .long 1) (by decide) ?_
      refine sg_ld f58_43 (v := .int x2) rfl rfl ?_
      refine sg_shl f58_44 rfl ?_
      refine sg_binl f58_45 rfl ?_
      refine sg_last f58_46 hrx0.2.2.2.2.2.2 e4 ?_
      refine sg_ld f58_47 (v := .ref rx0) rfl rfl ?_
      refine sg_getr f58_48 hrx0.1 rfl (w := rx0 + 3) hrx0.2.2.2.1 ?_
      refine sg_ld f58_51 (v := .int x2) rfl rfl ?_
      refine sg_dup2 f58_52 rfl rfl ?_
      obtain ⟨e5, h⟩ := h
      refine sg_lald f58_53 hrx0.2.2.2.2.2.2 e5 (x := ((va_up (ml3 (rx0 + 3)) (Int32.toNatClampNeg x1) ((ml3 (rx0 + 3) (Int32.toNatClampNeg x1)) ||| (lshl 1 x2))) (Int32.toNatClampNeg x2))) (by simp [va_up]) ?_
      refine sg_psh f58_54 (v := .long 1) (by decide) ?_
      refine sg_ld f58_55 (v := .int x1) rfl rfl ?_
      refine sg_shl f58_56 rfl ?_
      refine sg_binl f58_57 rfl ?_
      refine sg_last2 f58_58 hrx0.2.2.2.2.2.2 e5 ?_
      refine sg_inc f58_59 (d := 1) (ls' := [some (.ref rx0), some (.int x1), some (.int (x2 + 1))]) rfl (by decide) rfl ?_
      refine sg_goto f58_62 ?_
      exact h

/-! X4_areNear (II)Z -/
theorem fe59 (pc : Nat) : gm_fetch 59 pc = gm_find pc cd_59 := rfl
theorem f59_0 : gm_fetch 59 0 = some (1, .iconst 0, 0, 0, 0, 0) := (fe59 0).trans rfl
theorem f59_1 : gm_fetch 59 1 = some (2, .istore_n 3, 0, 0, 0, 0) := (fe59 1).trans rfl
theorem f59_2 : gm_fetch 59 2 = some (3, .iload_n 3, 0, 0, 0, 0) := (fe59 2).trans rfl
theorem f59_3 : gm_fetch 59 3 = some (4, .aload_n 0, 0, 0, 0, 0) := (fe59 3).trans rfl
theorem f59_4 : gm_fetch 59 4 = some (7, .getfield 26, 35, 4, 5, 0) := (fe59 4).trans rfl
theorem f59_7 : gm_fetch 59 7 = some (10, .if_icmp .ge 55, 0, 62, 0, 0) := (fe59 7).trans rfl
theorem f59_10 : gm_fetch 59 10 = some (11, .aload_n 0, 0, 0, 0, 0) := (fe59 10).trans rfl
theorem f59_11 : gm_fetch 59 11 = some (14, .getfield 15, 32, 4, 2, 0) := (fe59 11).trans rfl
theorem f59_14 : gm_fetch 59 14 = some (15, .iload_n 1, 0, 0, 0, 0) := (fe59 14).trans rfl
theorem f59_15 : gm_fetch 59 15 = some (17, .bipush 7, 0, 0, 0, 0) := (fe59 15).trans rfl
theorem f59_17 : gm_fetch 59 17 = some (18, .imul, 0, 0, 0, 0) := (fe59 17).trans rfl
theorem f59_18 : gm_fetch 59 18 = some (19, .iload_n 3, 0, 0, 0, 0) := (fe59 18).trans rfl
theorem f59_19 : gm_fetch 59 19 = some (20, .iadd, 0, 0, 0, 0) := (fe59 19).trans rfl
theorem f59_20 : gm_fetch 59 20 = some (21, .iaload, 0, 0, 0, 0) := (fe59 20).trans rfl
theorem f59_21 : gm_fetch 59 21 = some (22, .aload_n 0, 0, 0, 0, 0) := (fe59 21).trans rfl
theorem f59_22 : gm_fetch 59 22 = some (25, .getfield 15, 32, 4, 2, 0) := (fe59 22).trans rfl
theorem f59_25 : gm_fetch 59 25 = some (26, .iload_n 2, 0, 0, 0, 0) := (fe59 25).trans rfl
theorem f59_26 : gm_fetch 59 26 = some (28, .bipush 7, 0, 0, 0, 0) := (fe59 26).trans rfl
theorem f59_28 : gm_fetch 59 28 = some (29, .imul, 0, 0, 0, 0) := (fe59 28).trans rfl
theorem f59_29 : gm_fetch 59 29 = some (30, .iload_n 3, 0, 0, 0, 0) := (fe59 29).trans rfl
theorem f59_30 : gm_fetch 59 30 = some (31, .iadd, 0, 0, 0, 0) := (fe59 30).trans rfl
theorem f59_31 : gm_fetch 59 31 = some (32, .iaload, 0, 0, 0, 0) := (fe59 31).trans rfl
theorem f59_32 : gm_fetch 59 32 = some (33, .isub, 0, 0, 0, 0) := (fe59 32).trans rfl
theorem f59_33 : gm_fetch 59 33 = some (35, .istore 4, 0, 0, 0, 0) := (fe59 33).trans rfl
theorem f59_35 : gm_fetch 59 35 = some (37, .iload 4, 0, 0, 0, 0) := (fe59 35).trans rfl
theorem f59_37 : gm_fetch 59 37 = some (38, .aload_n 0, 0, 0, 0, 0) := (fe59 37).trans rfl
theorem f59_38 : gm_fetch 59 38 = some (41, .getfield 29, 36, 4, 6, 0) := (fe59 38).trans rfl
theorem f59_41 : gm_fetch 59 41 = some (44, .if_icmp .gt 13, 0, 54, 0, 0) := (fe59 41).trans rfl
theorem f59_44 : gm_fetch 59 44 = some (46, .iload 4, 0, 0, 0, 0) := (fe59 44).trans rfl
theorem f59_46 : gm_fetch 59 46 = some (47, .ineg, 0, 0, 0, 0) := (fe59 46).trans rfl
theorem f59_47 : gm_fetch 59 47 = some (48, .aload_n 0, 0, 0, 0, 0) := (fe59 47).trans rfl
theorem f59_48 : gm_fetch 59 48 = some (51, .getfield 29, 36, 4, 6, 0) := (fe59 48).trans rfl
theorem f59_51 : gm_fetch 59 51 = some (54, .if_icmp .le 5, 0, 56, 0, 0) := (fe59 51).trans rfl
theorem f59_54 : gm_fetch 59 54 = some (55, .iconst 0, 0, 0, 0, 0) := (fe59 54).trans rfl
theorem f59_55 : gm_fetch 59 55 = some (56, .ireturn, 0, 0, 0, 0) := (fe59 55).trans rfl
theorem f59_56 : gm_fetch 59 56 = some (59, .iinc 3 1, 0, 0, 0, 0) := (fe59 56).trans rfl
theorem f59_59 : gm_fetch 59 59 = some (62, .goto (-57), 0, 2, 0, 0) := (fe59 59).trans rfl
theorem f59_62 : gm_fetch 59 62 = some (63, .iconst 1, 0, 0, 0, 0) := (fe59 62).trans rfl
theorem f59_63 : gm_fetch 59 63 = some (64, .ireturn, 0, 0, 0, 0) := (fe59 63).trans rfl
set_option maxRecDepth 10000 in
theorem rg59_0 {mi : Mi} {ml : Ml} {F : Int32 → Mi → Ml → Prop} {rx0 : Nat} {x1 : Int32} {x2 : Int32} (hrx0 : isT rx0) (h : Sg 59 2 [some (.ref rx0), some (.int x1), some (.int x2), some (.int 0), none] [] mi ml (qi F)) : Sg 59 0 [some (.ref rx0), some (.int x1), some (.int x2), none, none] [] mi ml (qi F) := by
  refine sg_psh f59_0 (v := .int 0) (by decide) ?_
  refine sg_st1 f59_1 (ls' := [some (.ref rx0), some (.int x1), some (.int x2), some (.int 0), none]) rfl rfl rfl rfl ?_
  exact h

set_option maxRecDepth 10000 in
theorem rg59_2 {mi : Mi} {ml : Ml} {F : Int32 → Mi → Ml → Prop} {rx0 : Nat} {x1 : Int32} {x2 : Int32} {x3 : Int32} (hrx0 : isT rx0) (h : (((mi rx0 5) ≤ x3) → F 1 mi ml) ∧ (¬ ((mi rx0 5) ≤ x3) → (vp_in ((x1 * 7) + x3) 245) ∧ ((vp_in ((x2 * 7) + x3) 245) ∧ ((((mi rx0 6) < ((mi (rx0 + 2) (Int32.toNatClampNeg ((x1 * 7) + x3))) - (mi (rx0 + 2) (Int32.toNatClampNeg ((x2 * 7) + x3))))) → F 0 mi ml) ∧ (¬ ((mi rx0 6) < ((mi (rx0 + 2) (Int32.toNatClampNeg ((x1 * 7) + x3))) - (mi (rx0 + 2) (Int32.toNatClampNeg ((x2 * 7) + x3))))) → (((-((mi (rx0 + 2) (Int32.toNatClampNeg ((x1 * 7) + x3))) - (mi (rx0 + 2) (Int32.toNatClampNeg ((x2 * 7) + x3))))) ≤ (mi rx0 6)) → Sg 59 2 [some (.ref rx0), some (.int x1), some (.int x2), some (.int (x3 + 1)), none] [] mi ml (qi F)) ∧ (¬ ((-((mi (rx0 + 2) (Int32.toNatClampNeg ((x1 * 7) + x3))) - (mi (rx0 + 2) (Int32.toNatClampNeg ((x2 * 7) + x3))))) ≤ (mi rx0 6)) → F 0 mi ml)))))) : Sg 59 2 [some (.ref rx0), some (.int x1), some (.int x2), some (.int x3), none] [] mi ml (qi F) := by
  refine sg_ld f59_2 (v := .int x3) rfl rfl ?_
  refine sg_ld f59_3 (v := .ref rx0) rfl rfl ?_
  refine sg_geti f59_4 hrx0.1 rfl (x := (mi rx0 5)) rfl ?_
  refine sg_icmp f59_7 (fun c => ?_) (fun c => ?_)
  · have h := h.1 c
    refine sg_psh f59_62 (v := .int 1) (by decide) ?_
    exact sg_iret f59_63 pq59 rfl (by decide) ⟨_, rfl, h⟩
  · have h := h.2 c
    refine sg_ld f59_10 (v := .ref rx0) rfl rfl ?_
    refine sg_getr f59_11 hrx0.1 rfl (w := rx0 + 2) hrx0.2.2.1 ?_
    refine sg_ld f59_14 (v := .int x1) rfl rfl ?_
    refine sg_psh f59_15 (v := .int 7) (by decide) ?_
    refine sg_bin f59_17 rfl ?_
    refine sg_ld f59_18 (v := .int x3) rfl rfl ?_
    refine sg_bin f59_19 rfl ?_
    obtain ⟨e1, h⟩ := h
    refine sg_iald f59_20 hrx0.2.2.2.2.2.1 e1 (x := (mi (rx0 + 2) (Int32.toNatClampNeg ((x1 * 7) + x3)))) rfl ?_
    refine sg_ld f59_21 (v := .ref rx0) rfl rfl ?_
    refine sg_getr f59_22 hrx0.1 rfl (w := rx0 + 2) hrx0.2.2.1 ?_
    refine sg_ld f59_25 (v := .int x2) rfl rfl ?_
    refine sg_psh f59_26 (v := .int 7) (by decide) ?_
    refine sg_bin f59_28 rfl ?_
    refine sg_ld f59_29 (v := .int x3) rfl rfl ?_
    refine sg_bin f59_30 rfl ?_
    obtain ⟨e2, h⟩ := h
    refine sg_iald f59_31 hrx0.2.2.2.2.2.1 e2 (x := (mi (rx0 + 2) (Int32.toNatClampNeg ((x2 * 7) + x3)))) rfl ?_
    refine sg_bin f59_32 rfl ?_
    refine sg_st1 f59_33 (ls' := [some (.ref rx0), some (.int x1), some (.int x2), some (.int x3), some (.int ((mi (rx0 + 2) (Int32.toNatClampNeg ((x1 * 7) + x3))) - (mi (rx0 + 2) (Int32.toNatClampNeg ((x2 * 7) + x3)))))]) rfl rfl rfl rfl ?_
    refine sg_ld f59_35 (v := .int ((mi (rx0 + 2) (Int32.toNatClampNeg ((x1 * 7) + x3))) - (mi (rx0 + 2) (Int32.toNatClampNeg ((x2 * 7) + x3))))) rfl rfl ?_
    refine sg_ld f59_37 (v := .ref rx0) rfl rfl ?_
    refine sg_geti f59_38 hrx0.1 rfl (x := (mi rx0 6)) rfl ?_
    refine sg_icmp f59_41 (fun c => ?_) (fun c => ?_)
    · have h := h.1 c
      refine sg_psh f59_54 (v := .int 0) (by decide) ?_
      exact sg_iret f59_55 pq59 rfl (by decide) ⟨_, rfl, h⟩
    · have h := h.2 c
      refine sg_ld f59_44 (v := .int ((mi (rx0 + 2) (Int32.toNatClampNeg ((x1 * 7) + x3))) - (mi (rx0 + 2) (Int32.toNatClampNeg ((x2 * 7) + x3))))) rfl rfl ?_
      refine sg_un f59_46 rfl ?_
      refine sg_ld f59_47 (v := .ref rx0) rfl rfl ?_
      refine sg_geti f59_48 hrx0.1 rfl (x := (mi rx0 6)) rfl ?_
      refine sg_icmp f59_51 (fun c => ?_) (fun c => ?_)
      · have h := h.1 c
        refine sg_inc f59_56 (d := 1) (ls' := [some (.ref rx0), some (.int x1), some (.int x2), some (.int (x3 + 1)), some (.int ((mi (rx0 + 2) (Int32.toNatClampNeg ((x1 * 7) + x3))) - (mi (rx0 + 2) (Int32.toNatClampNeg ((x2 * 7) + x3)))))]) rfl (by decide) rfl ?_
        refine sg_goto f59_59 ?_
        exact sg_drop [4] rfl h
      · have h := h.2 c
        refine sg_psh f59_54 (v := .int 0) (by decide) ?_
        exact sg_iret f59_55 pq59 rfl (by decide) ⟨_, rfl, h⟩

/-! X4_columnAt (II)I -/
theorem fe60 (pc : Nat) : gm_fetch 60 pc = gm_find pc cd_60 := rfl
theorem f60_0 : gm_fetch 60 0 = some (1, .aload_n 0, 0, 0, 0, 0) := (fe60 0).trans rfl
theorem f60_1 : gm_fetch 60 1 = some (4, .getfield 15, 32, 4, 2, 0) := (fe60 1).trans rfl
theorem f60_4 : gm_fetch 60 4 = some (5, .iload_n 1, 0, 0, 0, 0) := (fe60 4).trans rfl
theorem f60_5 : gm_fetch 60 5 = some (7, .bipush 7, 0, 0, 0, 0) := (fe60 5).trans rfl
theorem f60_7 : gm_fetch 60 7 = some (8, .imul, 0, 0, 0, 0) := (fe60 7).trans rfl
theorem f60_8 : gm_fetch 60 8 = some (9, .iload_n 2, 0, 0, 0, 0) := (fe60 8).trans rfl
theorem f60_9 : gm_fetch 60 9 = some (10, .iadd, 0, 0, 0, 0) := (fe60 9).trans rfl
theorem f60_10 : gm_fetch 60 10 = some (11, .iaload, 0, 0, 0, 0) := (fe60 10).trans rfl
theorem f60_11 : gm_fetch 60 11 = some (12, .ireturn, 0, 0, 0, 0) := (fe60 11).trans rfl
set_option maxRecDepth 10000 in
theorem rg60_0 {mi : Mi} {ml : Ml} {F : Int32 → Mi → Ml → Prop} {rx0 : Nat} {x1 : Int32} {x2 : Int32} (hrx0 : isT rx0) (h : (vp_in ((x1 * 7) + x2) 245) ∧ (F (mi (rx0 + 2) (Int32.toNatClampNeg ((x1 * 7) + x2))) mi ml)) : Sg 60 0 [some (.ref rx0), some (.int x1), some (.int x2)] [] mi ml (qi F) := by
  refine sg_ld f60_0 (v := .ref rx0) rfl rfl ?_
  refine sg_getr f60_1 hrx0.1 rfl (w := rx0 + 2) hrx0.2.2.1 ?_
  refine sg_ld f60_4 (v := .int x1) rfl rfl ?_
  refine sg_psh f60_5 (v := .int 7) (by decide) ?_
  refine sg_bin f60_7 rfl ?_
  refine sg_ld f60_8 (v := .int x2) rfl rfl ?_
  refine sg_bin f60_9 rfl ?_
  obtain ⟨e1, h⟩ := h
  refine sg_iald f60_10 hrx0.2.2.2.2.2.1 e1 (x := (mi (rx0 + 2) (Int32.toNatClampNeg ((x1 * 7) + x2)))) rfl ?_
  exact sg_iret f60_11 pq60 rfl rfl ⟨_, rfl, h⟩

/-! X4_seatsFitting (I)J -/
theorem fe61 (pc : Nat) : gm_fetch 61 pc = gm_find pc cd_61 := rfl
theorem f61_0 : gm_fetch 61 0 = some (1, .aload_n 0, 0, 0, 0, 0) := (fe61 0).trans rfl
theorem f61_1 : gm_fetch 61 1 = some (4, .getfield 18, 33, 4, 3, 0) := (fe61 1).trans rfl
theorem f61_4 : gm_fetch 61 4 = some (5, .iload_n 1, 0, 0, 0, 0) := (fe61 4).trans rfl
theorem f61_5 : gm_fetch 61 5 = some (6, .laload, 0, 0, 0, 0) := (fe61 5).trans rfl
theorem f61_6 : gm_fetch 61 6 = some (7, .lreturn, 0, 0, 0, 0) := (fe61 6).trans rfl
set_option maxRecDepth 10000 in
theorem rg61_0 {mi : Mi} {ml : Ml} {F : Int64 → Mi → Ml → Prop} {rx0 : Nat} {x1 : Int32} (hrx0 : isT rx0) (h : (vp_in x1 35) ∧ (F (ml (rx0 + 3) (Int32.toNatClampNeg x1)) mi ml)) : Sg 61 0 [some (.ref rx0), some (.int x1)] [] mi ml (ql F) := by
  refine sg_ld f61_0 (v := .ref rx0) rfl rfl ?_
  refine sg_getr f61_1 hrx0.1 rfl (w := rx0 + 3) hrx0.2.2.2.1 ?_
  refine sg_ld f61_4 (v := .int x1) rfl rfl ?_
  obtain ⟨e1, h⟩ := h
  refine sg_lald f61_5 hrx0.2.2.2.2.2.2 e1 (x := (ml (rx0 + 3) (Int32.toNatClampNeg x1))) rfl ?_
  exact sg_lret f61_6 pq61 rfl ⟨_, rfl, h⟩

/-! X4_seatsWithout (I)J -/
theorem fe62 (pc : Nat) : gm_fetch 62 pc = gm_find pc cd_62 := rfl
theorem f62_0 : gm_fetch 62 0 = some (1, .lconst 0, 0, 0, 0, 0) := (fe62 0).trans rfl
theorem f62_1 : gm_fetch 62 1 = some (2, .lstore_n 2, 0, 0, 0, 0) := (fe62 1).trans rfl
theorem f62_2 : gm_fetch 62 2 = some (3, .iconst 0, 0, 0, 0, 0) := (fe62 2).trans rfl
theorem f62_3 : gm_fetch 62 3 = some (5, .istore 4, 0, 0, 0, 0) := (fe62 3).trans rfl
theorem f62_5 : gm_fetch 62 5 = some (7, .iload 4, 0, 0, 0, 0) := (fe62 5).trans rfl
theorem f62_7 : gm_fetch 62 7 = some (8, .aload_n 0, 0, 0, 0, 0) := (fe62 7).trans rfl
theorem f62_8 : gm_fetch 62 8 = some (11, .getfield 32, 28, 4, 0, 0) := (fe62 8).trans rfl
theorem f62_11 : gm_fetch 62 11 = some (14, .if_icmp .ge 28, 0, 39, 0, 0) := (fe62 11).trans rfl
theorem f62_14 : gm_fetch 62 14 = some (15, .aload_n 0, 0, 0, 0, 0) := (fe62 14).trans rfl
theorem f62_15 : gm_fetch 62 15 = some (18, .getfield 9, 30, 4, 1, 0) := (fe62 15).trans rfl
theorem f62_18 : gm_fetch 62 18 = some (20, .iload 4, 0, 0, 0, 0) := (fe62 18).trans rfl
theorem f62_20 : gm_fetch 62 20 = some (21, .iaload, 0, 0, 0, 0) := (fe62 20).trans rfl
theorem f62_21 : gm_fetch 62 21 = some (22, .iload_n 1, 0, 0, 0, 0) := (fe62 21).trans rfl
theorem f62_22 : gm_fetch 62 22 = some (23, .iand, 0, 0, 0, 0) := (fe62 22).trans rfl
theorem f62_23 : gm_fetch 62 23 = some (26, .ifCond .ne 10, 0, 33, 0, 0) := (fe62 23).trans rfl
theorem f62_26 : gm_fetch 62 26 = some (27, .lload_n 2, 0, 0, 0, 0) := (fe62 26).trans rfl
theorem f62_27 : gm_fetch 62 27 = some (28, .lconst 1, 0, 0, 0, 0) := (fe62 27).trans rfl
theorem f62_28 : gm_fetch 62 28 = some (30, .iload 4, 0, 0, 0, 0) := (fe62 28).trans rfl
theorem f62_30 : gm_fetch 62 30 = some (31, .lshl, 0, 0, 0, 0) := (fe62 30).trans rfl
theorem f62_31 : gm_fetch 62 31 = some (32, .lor, 0, 0, 0, 0) := (fe62 31).trans rfl
theorem f62_32 : gm_fetch 62 32 = some (33, .lstore_n 2, 0, 0, 0, 0) := (fe62 32).trans rfl
theorem f62_33 : gm_fetch 62 33 = some (36, .iinc 4 1, 0, 0, 0, 0) := (fe62 33).trans rfl
theorem f62_36 : gm_fetch 62 36 = some (39, .goto (-31), 0, 5, 0, 0) := (fe62 36).trans rfl
theorem f62_39 : gm_fetch 62 39 = some (40, .lload_n 2, 0, 0, 0, 0) := (fe62 39).trans rfl
theorem f62_40 : gm_fetch 62 40 = some (41, .lreturn, 0, 0, 0, 0) := (fe62 40).trans rfl
set_option maxRecDepth 10000 in
theorem rg62_0 {mi : Mi} {ml : Ml} {F : Int64 → Mi → Ml → Prop} {rx0 : Nat} {x1 : Int32} (hrx0 : isT rx0) (h : Sg 62 5 [some (.ref rx0), some (.int x1), some (.long 0), none, some (.int 0)] [] mi ml (ql F)) : Sg 62 0 [some (.ref rx0), some (.int x1), none, none, none] [] mi ml (ql F) := by
  refine sg_psh f62_0 (v := .long 0) (by decide) ?_
  refine sg_st2 f62_1 (ls' := [some (.ref rx0), some (.int x1), some (.long 0), none, none]) rfl rfl rfl ?_
  refine sg_psh f62_2 (v := .int 0) (by decide) ?_
  refine sg_st1 f62_3 (ls' := [some (.ref rx0), some (.int x1), some (.long 0), none, some (.int 0)]) rfl rfl rfl rfl ?_
  exact h

set_option maxRecDepth 10000 in
theorem rg62_5 {mi : Mi} {ml : Ml} {F : Int64 → Mi → Ml → Prop} {rx0 : Nat} {x1 : Int32} {x2 : Int64} {x4 : Int32} (hrx0 : isT rx0) (h : (((mi rx0 0) ≤ x4) → F x2 mi ml) ∧ (¬ ((mi rx0 0) ≤ x4) → (vp_in x4 35) ∧ (((¬ ((mi (rx0 + 1) (Int32.toNatClampNeg x4)) &&& x1) = 0) → Sg 62 5 [some (.ref rx0), some (.int x1), some (.long x2), none, some (.int (x4 + 1))] [] mi ml (ql F)) ∧ (¬ (¬ ((mi (rx0 + 1) (Int32.toNatClampNeg x4)) &&& x1) = 0) → Sg 62 5 [some (.ref rx0), some (.int x1), some (.long (x2 ||| (lshl 1 x4))), none, some (.int (x4 + 1))] [] mi ml (ql F))))) : Sg 62 5 [some (.ref rx0), some (.int x1), some (.long x2), none, some (.int x4)] [] mi ml (ql F) := by
  refine sg_ld f62_5 (v := .int x4) rfl rfl ?_
  refine sg_ld f62_7 (v := .ref rx0) rfl rfl ?_
  refine sg_geti f62_8 hrx0.1 rfl (x := (mi rx0 0)) rfl ?_
  refine sg_icmp f62_11 (fun c => ?_) (fun c => ?_)
  · have h := h.1 c
    refine sg_ld f62_39 (v := .long x2) rfl rfl ?_
    exact sg_lret f62_40 pq62 rfl ⟨_, rfl, h⟩
  · have h := h.2 c
    refine sg_ld f62_14 (v := .ref rx0) rfl rfl ?_
    refine sg_getr f62_15 hrx0.1 rfl (w := rx0 + 1) hrx0.2.1 ?_
    refine sg_ld f62_18 (v := .int x4) rfl rfl ?_
    obtain ⟨e1, h⟩ := h
    refine sg_iald f62_20 hrx0.2.2.2.2.1 e1 (x := (mi (rx0 + 1) (Int32.toNatClampNeg x4))) rfl ?_
    refine sg_ld f62_21 (v := .int x1) rfl rfl ?_
    refine sg_bin f62_22 rfl ?_
    refine sg_if f62_23 (fun c => ?_) (fun c => ?_)
    · have h := h.1 c
      refine sg_inc f62_33 (d := 1) (ls' := [some (.ref rx0), some (.int x1), some (.long x2), none, some (.int (x4 + 1))]) rfl (by decide) rfl ?_
      refine sg_goto f62_36 ?_
      exact h
    · have h := h.2 c
      refine sg_ld f62_26 (v := .long x2) rfl rfl ?_
      refine sg_psh f62_27 (v := .long 1) (by decide) ?_
      refine sg_ld f62_28 (v := .int x4) rfl rfl ?_
      refine sg_shl f62_30 rfl ?_
      refine sg_binl f62_31 rfl ?_
      refine sg_st2 f62_32 (ls' := [some (.ref rx0), some (.int x1), some (.long (x2 ||| (lshl 1 x4))), none, some (.int x4)]) rfl rfl rfl ?_
      refine sg_inc f62_33 (d := 1) (ls' := [some (.ref rx0), some (.int x1), some (.long (x2 ||| (lshl 1 x4))), none, some (.int (x4 + 1))]) rfl (by decide) rfl ?_
      refine sg_goto f62_36 ?_
      exact h

/-! X4_seatsFittingAny (J)J -/
theorem fe63 (pc : Nat) : gm_fetch 63 pc = gm_find pc cd_63 := rfl
theorem f63_0 : gm_fetch 63 0 = some (1, .lconst 0, 0, 0, 0, 0) := (fe63 0).trans rfl
theorem f63_1 : gm_fetch 63 1 = some (2, .lstore_n 3, 0, 0, 0, 0) := (fe63 1).trans rfl
theorem f63_2 : gm_fetch 63 2 = some (3, .iconst 0, 0, 0, 0, 0) := (fe63 2).trans rfl
theorem f63_3 : gm_fetch 63 3 = some (5, .istore 5, 0, 0, 0, 0) := (fe63 3).trans rfl
theorem f63_5 : gm_fetch 63 5 = some (7, .iload 5, 0, 0, 0, 0) := (fe63 5).trans rfl
theorem f63_7 : gm_fetch 63 7 = some (8, .aload_n 0, 0, 0, 0, 0) := (fe63 7).trans rfl
theorem f63_8 : gm_fetch 63 8 = some (11, .getfield 32, 28, 4, 0, 0) := (fe63 8).trans rfl
theorem f63_11 : gm_fetch 63 11 = some (14, .if_icmp .ge 30, 0, 41, 0, 0) := (fe63 11).trans rfl
theorem f63_14 : gm_fetch 63 14 = some (15, .lload_n 1, 0, 0, 0, 0) := (fe63 14).trans rfl
theorem f63_15 : gm_fetch 63 15 = some (17, .iload 5, 0, 0, 0, 0) := (fe63 15).trans rfl
theorem f63_17 : gm_fetch 63 17 = some (18, .lushr, 0, 0, 0, 0) := (fe63 17).trans rfl
theorem f63_18 : gm_fetch 63 18 = some (19, .lconst 1, 0, 0, 0, 0) := (fe63 18).trans rfl
theorem f63_19 : gm_fetch 63 19 = some (20, .land, 0, 0, 0, 0) := (fe63 19).trans rfl
theorem f63_20 : gm_fetch 63 20 = some (21, .lconst 1, 0, 0, 0, 0) := (fe63 20).trans rfl
theorem f63_21 : gm_fetch 63 21 = some (22, .lcmp, 0, 0, 0, 0) := (fe63 21).trans rfl
theorem f63_22 : gm_fetch 63 22 = some (25, .ifCond .ne 13, 0, 35, 0, 0) := (fe63 22).trans rfl
theorem f63_25 : gm_fetch 63 25 = some (26, .lload_n 3, 0, 0, 0, 0) := (fe63 25).trans rfl
theorem f63_26 : gm_fetch 63 26 = some (27, .aload_n 0, 0, 0, 0, 0) := (fe63 26).trans rfl
theorem f63_27 : gm_fetch 63 27 = some (30, .getfield 18, 33, 4, 3, 0) := (fe63 27).trans rfl
theorem f63_30 : gm_fetch 63 30 = some (32, .iload 5, 0, 0, 0, 0) := (fe63 30).trans rfl
theorem f63_32 : gm_fetch 63 32 = some (33, .laload, 0, 0, 0, 0) := (fe63 32).trans rfl
theorem f63_33 : gm_fetch 63 33 = some (34, .lor, 0, 0, 0, 0) := (fe63 33).trans rfl
theorem f63_34 : gm_fetch 63 34 = some (35, .lstore_n 3, 0, 0, 0, 0) := (fe63 34).trans rfl
theorem f63_35 : gm_fetch 63 35 = some (38, .iinc 5 1, 0, 0, 0, 0) := (fe63 35).trans rfl
theorem f63_38 : gm_fetch 63 38 = some (41, .goto (-33), 0, 5, 0, 0) := (fe63 38).trans rfl
theorem f63_41 : gm_fetch 63 41 = some (42, .lload_n 3, 0, 0, 0, 0) := (fe63 41).trans rfl
theorem f63_42 : gm_fetch 63 42 = some (43, .lreturn, 0, 0, 0, 0) := (fe63 42).trans rfl
set_option maxRecDepth 10000 in
theorem rg63_0 {mi : Mi} {ml : Ml} {F : Int64 → Mi → Ml → Prop} {rx0 : Nat} {x1 : Int64} (hrx0 : isT rx0) (h : Sg 63 5 [some (.ref rx0), some (.long x1), none, some (.long 0), none, some (.int 0)] [] mi ml (ql F)) : Sg 63 0 [some (.ref rx0), some (.long x1), none, none, none, none] [] mi ml (ql F) := by
  refine sg_psh f63_0 (v := .long 0) (by decide) ?_
  refine sg_st2 f63_1 (ls' := [some (.ref rx0), some (.long x1), none, some (.long 0), none, none]) rfl rfl rfl ?_
  refine sg_psh f63_2 (v := .int 0) (by decide) ?_
  refine sg_st1 f63_3 (ls' := [some (.ref rx0), some (.long x1), none, some (.long 0), none, some (.int 0)]) rfl rfl rfl rfl ?_
  exact h

set_option maxRecDepth 10000 in
theorem rg63_5 {mi : Mi} {ml : Ml} {F : Int64 → Mi → Ml → Prop} {rx0 : Nat} {x1 : Int64} {x3 : Int64} {x5 : Int32} (hrx0 : isT rx0) (h : (((mi rx0 0) ≤ x5) → F x3 mi ml) ∧ (¬ ((mi rx0 0) ≤ x5) → ((¬ (lg_cmp ((lushr x1 x5) &&& 1) 1) = 0) → Sg 63 5 [some (.ref rx0), some (.long x1), none, some (.long x3), none, some (.int (x5 + 1))] [] mi ml (ql F)) ∧ (¬ (¬ (lg_cmp ((lushr x1 x5) &&& 1) 1) = 0) → (vp_in x5 35) ∧ (Sg 63 5 [some (.ref rx0), some (.long x1), none, some (.long (x3 ||| (ml (rx0 + 3) (Int32.toNatClampNeg x5)))), none, some (.int (x5 + 1))] [] mi ml (ql F))))) : Sg 63 5 [some (.ref rx0), some (.long x1), none, some (.long x3), none, some (.int x5)] [] mi ml (ql F) := by
  refine sg_ld f63_5 (v := .int x5) rfl rfl ?_
  refine sg_ld f63_7 (v := .ref rx0) rfl rfl ?_
  refine sg_geti f63_8 hrx0.1 rfl (x := (mi rx0 0)) rfl ?_
  refine sg_icmp f63_11 (fun c => ?_) (fun c => ?_)
  · have h := h.1 c
    refine sg_ld f63_41 (v := .long x3) rfl rfl ?_
    exact sg_lret f63_42 pq63 rfl ⟨_, rfl, h⟩
  · have h := h.2 c
    refine sg_ld f63_14 (v := .long x1) rfl rfl ?_
    refine sg_ld f63_15 (v := .int x5) rfl rfl ?_
    refine sg_shl f63_17 rfl ?_
    refine sg_psh f63_18 (v := .long 1) (by decide) ?_
    refine sg_binl f63_19 rfl ?_
    refine sg_psh f63_20 (v := .long 1) (by decide) ?_
    refine sg_lcmp f63_21 ?_
    refine sg_if f63_22 (fun c => ?_) (fun c => ?_)
    · have h := h.1 c
      refine sg_inc f63_35 (d := 1) (ls' := [some (.ref rx0), some (.long x1), none, some (.long x3), none, some (.int (x5 + 1))]) rfl (by decide) rfl ?_
      refine sg_goto f63_38 ?_
      exact h
    · have h := h.2 c
      refine sg_ld f63_25 (v := .long x3) rfl rfl ?_
      refine sg_ld f63_26 (v := .ref rx0) rfl rfl ?_
      refine sg_getr f63_27 hrx0.1 rfl (w := rx0 + 3) hrx0.2.2.2.1 ?_
      refine sg_ld f63_30 (v := .int x5) rfl rfl ?_
      obtain ⟨e1, h⟩ := h
      refine sg_lald f63_32 hrx0.2.2.2.2.2.2 e1 (x := (ml (rx0 + 3) (Int32.toNatClampNeg x5))) rfl ?_
      refine sg_binl f63_33 rfl ?_
      refine sg_st2 f63_34 (ls' := [some (.ref rx0), some (.long x1), none, some (.long (x3 ||| (ml (rx0 + 3) (Int32.toNatClampNeg x5)))), none, some (.int x5)]) rfl rfl rfl ?_
      refine sg_inc f63_35 (d := 1) (ls' := [some (.ref rx0), some (.long x1), none, some (.long (x3 ||| (ml (rx0 + 3) (Int32.toNatClampNeg x5)))), none, some (.int (x5 + 1))]) rfl (by decide) rfl ?_
      refine sg_goto f63_38 ?_
      exact h

/-! X4_columnsOfAll (J)I -/
theorem fe64 (pc : Nat) : gm_fetch 64 pc = gm_find pc cd_64 := rfl
theorem f64_0 : gm_fetch 64 0 = some (1, .iconst 1, 0, 0, 0, 0) := (fe64 0).trans rfl
theorem f64_1 : gm_fetch 64 1 = some (2, .aload_n 0, 0, 0, 0, 0) := (fe64 1).trans rfl
theorem f64_2 : gm_fetch 64 2 = some (5, .getfield 22, 34, 4, 4, 0) := (fe64 2).trans rfl
theorem f64_5 : gm_fetch 64 5 = some (6, .ishl, 0, 0, 0, 0) := (fe64 5).trans rfl
theorem f64_6 : gm_fetch 64 6 = some (7, .iconst 1, 0, 0, 0, 0) := (fe64 6).trans rfl
theorem f64_7 : gm_fetch 64 7 = some (8, .isub, 0, 0, 0, 0) := (fe64 7).trans rfl
theorem f64_8 : gm_fetch 64 8 = some (9, .istore_n 3, 0, 0, 0, 0) := (fe64 8).trans rfl
theorem f64_9 : gm_fetch 64 9 = some (10, .iconst 0, 0, 0, 0, 0) := (fe64 9).trans rfl
theorem f64_10 : gm_fetch 64 10 = some (12, .istore 4, 0, 0, 0, 0) := (fe64 10).trans rfl
theorem f64_12 : gm_fetch 64 12 = some (14, .iload 4, 0, 0, 0, 0) := (fe64 12).trans rfl
theorem f64_14 : gm_fetch 64 14 = some (15, .aload_n 0, 0, 0, 0, 0) := (fe64 14).trans rfl
theorem f64_15 : gm_fetch 64 15 = some (18, .getfield 32, 28, 4, 0, 0) := (fe64 15).trans rfl
theorem f64_18 : gm_fetch 64 18 = some (21, .if_icmp .ge 30, 0, 48, 0, 0) := (fe64 18).trans rfl
theorem f64_21 : gm_fetch 64 21 = some (22, .lload_n 1, 0, 0, 0, 0) := (fe64 21).trans rfl
theorem f64_22 : gm_fetch 64 22 = some (24, .iload 4, 0, 0, 0, 0) := (fe64 22).trans rfl
theorem f64_24 : gm_fetch 64 24 = some (25, .lushr, 0, 0, 0, 0) := (fe64 24).trans rfl
theorem f64_25 : gm_fetch 64 25 = some (26, .lconst 1, 0, 0, 0, 0) := (fe64 25).trans rfl
theorem f64_26 : gm_fetch 64 26 = some (27, .land, 0, 0, 0, 0) := (fe64 26).trans rfl
theorem f64_27 : gm_fetch 64 27 = some (28, .lconst 1, 0, 0, 0, 0) := (fe64 27).trans rfl
theorem f64_28 : gm_fetch 64 28 = some (29, .lcmp, 0, 0, 0, 0) := (fe64 28).trans rfl
theorem f64_29 : gm_fetch 64 29 = some (32, .ifCond .ne 13, 0, 42, 0, 0) := (fe64 29).trans rfl
theorem f64_32 : gm_fetch 64 32 = some (33, .iload_n 3, 0, 0, 0, 0) := (fe64 32).trans rfl
theorem f64_33 : gm_fetch 64 33 = some (34, .aload_n 0, 0, 0, 0, 0) := (fe64 33).trans rfl
theorem f64_34 : gm_fetch 64 34 = some (37, .getfield 9, 30, 4, 1, 0) := (fe64 34).trans rfl
theorem f64_37 : gm_fetch 64 37 = some (39, .iload 4, 0, 0, 0, 0) := (fe64 37).trans rfl
theorem f64_39 : gm_fetch 64 39 = some (40, .iaload, 0, 0, 0, 0) := (fe64 39).trans rfl
theorem f64_40 : gm_fetch 64 40 = some (41, .iand, 0, 0, 0, 0) := (fe64 40).trans rfl
theorem f64_41 : gm_fetch 64 41 = some (42, .istore_n 3, 0, 0, 0, 0) := (fe64 41).trans rfl
theorem f64_42 : gm_fetch 64 42 = some (45, .iinc 4 1, 0, 0, 0, 0) := (fe64 42).trans rfl
theorem f64_45 : gm_fetch 64 45 = some (48, .goto (-33), 0, 12, 0, 0) := (fe64 45).trans rfl
theorem f64_48 : gm_fetch 64 48 = some (49, .iload_n 3, 0, 0, 0, 0) := (fe64 48).trans rfl
theorem f64_49 : gm_fetch 64 49 = some (50, .ireturn, 0, 0, 0, 0) := (fe64 49).trans rfl
set_option maxRecDepth 10000 in
theorem rg64_0 {mi : Mi} {ml : Ml} {F : Int32 → Mi → Ml → Prop} {rx0 : Nat} {x1 : Int64} (hrx0 : isT rx0) (h : Sg 64 12 [some (.ref rx0), some (.long x1), none, some (.int ((1 <<< ((mi rx0 4) &&& 31)) - 1)), some (.int 0)] [] mi ml (qi F)) : Sg 64 0 [some (.ref rx0), some (.long x1), none, none, none] [] mi ml (qi F) := by
  refine sg_psh f64_0 (v := .int 1) (by decide) ?_
  refine sg_ld f64_1 (v := .ref rx0) rfl rfl ?_
  refine sg_geti f64_2 hrx0.1 rfl (x := (mi rx0 4)) rfl ?_
  refine sg_bin f64_5 rfl ?_
  refine sg_psh f64_6 (v := .int 1) (by decide) ?_
  refine sg_bin f64_7 rfl ?_
  refine sg_st1 f64_8 (ls' := [some (.ref rx0), some (.long x1), none, some (.int ((1 <<< ((mi rx0 4) &&& 31)) - 1)), none]) rfl rfl rfl rfl ?_
  refine sg_psh f64_9 (v := .int 0) (by decide) ?_
  refine sg_st1 f64_10 (ls' := [some (.ref rx0), some (.long x1), none, some (.int ((1 <<< ((mi rx0 4) &&& 31)) - 1)), some (.int 0)]) rfl rfl rfl rfl ?_
  exact h

set_option maxRecDepth 10000 in
theorem rg64_12 {mi : Mi} {ml : Ml} {F : Int32 → Mi → Ml → Prop} {rx0 : Nat} {x1 : Int64} {x3 : Int32} {x4 : Int32} (hrx0 : isT rx0) (h : (((mi rx0 0) ≤ x4) → F x3 mi ml) ∧ (¬ ((mi rx0 0) ≤ x4) → ((¬ (lg_cmp ((lushr x1 x4) &&& 1) 1) = 0) → Sg 64 12 [some (.ref rx0), some (.long x1), none, some (.int x3), some (.int (x4 + 1))] [] mi ml (qi F)) ∧ (¬ (¬ (lg_cmp ((lushr x1 x4) &&& 1) 1) = 0) → (vp_in x4 35) ∧ (Sg 64 12 [some (.ref rx0), some (.long x1), none, some (.int (x3 &&& (mi (rx0 + 1) (Int32.toNatClampNeg x4)))), some (.int (x4 + 1))] [] mi ml (qi F))))) : Sg 64 12 [some (.ref rx0), some (.long x1), none, some (.int x3), some (.int x4)] [] mi ml (qi F) := by
  refine sg_ld f64_12 (v := .int x4) rfl rfl ?_
  refine sg_ld f64_14 (v := .ref rx0) rfl rfl ?_
  refine sg_geti f64_15 hrx0.1 rfl (x := (mi rx0 0)) rfl ?_
  refine sg_icmp f64_18 (fun c => ?_) (fun c => ?_)
  · have h := h.1 c
    refine sg_ld f64_48 (v := .int x3) rfl rfl ?_
    exact sg_iret f64_49 pq64 rfl rfl ⟨_, rfl, h⟩
  · have h := h.2 c
    refine sg_ld f64_21 (v := .long x1) rfl rfl ?_
    refine sg_ld f64_22 (v := .int x4) rfl rfl ?_
    refine sg_shl f64_24 rfl ?_
    refine sg_psh f64_25 (v := .long 1) (by decide) ?_
    refine sg_binl f64_26 rfl ?_
    refine sg_psh f64_27 (v := .long 1) (by decide) ?_
    refine sg_lcmp f64_28 ?_
    refine sg_if f64_29 (fun c => ?_) (fun c => ?_)
    · have h := h.1 c
      refine sg_inc f64_42 (d := 1) (ls' := [some (.ref rx0), some (.long x1), none, some (.int x3), some (.int (x4 + 1))]) rfl (by decide) rfl ?_
      refine sg_goto f64_45 ?_
      exact h
    · have h := h.2 c
      refine sg_ld f64_32 (v := .int x3) rfl rfl ?_
      refine sg_ld f64_33 (v := .ref rx0) rfl rfl ?_
      refine sg_getr f64_34 hrx0.1 rfl (w := rx0 + 1) hrx0.2.1 ?_
      refine sg_ld f64_37 (v := .int x4) rfl rfl ?_
      obtain ⟨e1, h⟩ := h
      refine sg_iald f64_39 hrx0.2.2.2.2.1 e1 (x := (mi (rx0 + 1) (Int32.toNatClampNeg x4))) rfl ?_
      refine sg_bin f64_40 rfl ?_
      refine sg_st1 f64_41 (ls' := [some (.ref rx0), some (.long x1), none, some (.int (x3 &&& (mi (rx0 + 1) (Int32.toNatClampNeg x4)))), some (.int x4)]) rfl rfl rfl rfl ?_
      refine sg_inc f64_42 (d := 1) (ls' := [some (.ref rx0), some (.long x1), none, some (.int (x3 &&& (mi (rx0 + 1) (Int32.toNatClampNeg x4)))), some (.int (x4 + 1))]) rfl (by decide) rfl ?_
      refine sg_goto f64_45 ?_
      exact h

