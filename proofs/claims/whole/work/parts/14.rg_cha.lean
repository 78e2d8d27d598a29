/-! X1_chainCount ()I -/
theorem fe13 (pc : Nat) : gm_fetch 13 pc = gm_find pc cd_13 := rfl
theorem f13_0 : gm_fetch 13 0 = some (1, .aload_n 0, 0, 0, 0, 0) := (fe13 0).trans rfl
theorem f13_1 : gm_fetch 13 1 = some (4, .invokevirtual 28, 62, 15, 0, 0) := (fe13 1).trans rfl
theorem f13_4 : gm_fetch 13 4 = some (5, .aload_n 0, 0, 0, 0, 0) := (fe13 4).trans rfl
theorem f13_5 : gm_fetch 13 5 = some (8, .getfield 31, 58, 1, 7, 0) := (fe13 5).trans rfl
theorem f13_8 : gm_fetch 13 8 = some (9, .ireturn, 0, 0, 0, 0) := (fe13 8).trans rfl
set_option maxRecDepth 10000 in
theorem rg13_0 {mi : Mi} {ml : Ml} {F : Int32 → Mi → Ml → Prop}   (h : Sg 15 0 [some (.ref 18), none, none] [] mi ml (qv fun mi2 ml3 => F (mi2 18 7) mi2 ml3)) : Sg 13 0 [some (.ref 18)] [] mi ml (qi F) := by
  refine sg_ld f13_0 (v := .ref 18) rfl rfl ?_
  refine sg_cV f13_1 (vs := []) (r := 18) (rest := []) (en := [some (.ref 18), none, none]) pq15 ⟨rfl, rfl⟩ rfl rfl rfl rfl rfl rfl h ?_
  intro _ mi2 ml3 h
  have h := gm_qv h
  refine sg_ld f13_4 (v := .ref 18) rfl rfl ?_
  refine sg_geti f13_5 rfl rfl (x := (mi2 18 7)) rfl ?_
  exact sg_iret f13_8 pq13 rfl rfl ⟨_, rfl, h⟩

/-! X1_stoppingCells ()J -/
theorem fe14 (pc : Nat) : gm_fetch 14 pc = gm_find pc cd_14 := rfl
theorem f14_0 : gm_fetch 14 0 = some (1, .aload_n 0, 0, 0, 0, 0) := (fe14 0).trans rfl
theorem f14_1 : gm_fetch 14 1 = some (4, .invokevirtual 28, 62, 15, 0, 0) := (fe14 1).trans rfl
theorem f14_4 : gm_fetch 14 4 = some (5, .aload_n 0, 0, 0, 0, 0) := (fe14 4).trans rfl
theorem f14_5 : gm_fetch 14 5 = some (8, .getfield 35, 59, 1, 8, 0) := (fe14 5).trans rfl
theorem f14_8 : gm_fetch 14 8 = some (9, .lreturn, 0, 0, 0, 0) := (fe14 8).trans rfl
set_option maxRecDepth 10000 in
theorem rg14_0 {mi : Mi} {ml : Ml} {F : Int64 → Mi → Ml → Prop}   (h : Sg 15 0 [some (.ref 18), none, none] [] mi ml (qv fun mi2 ml3 => F (ml3 18 8) mi2 ml3)) : Sg 14 0 [some (.ref 18)] [] mi ml (ql F) := by
  refine sg_ld f14_0 (v := .ref 18) rfl rfl ?_
  refine sg_cV f14_1 (vs := []) (r := 18) (rest := []) (en := [some (.ref 18), none, none]) pq15 ⟨rfl, rfl⟩ rfl rfl rfl rfl rfl rfl h ?_
  intro _ mi2 ml3 h
  have h := gm_qv h
  refine sg_ld f14_4 (v := .ref 18) rfl rfl ?_
  refine sg_getl f14_5 rfl rfl (x := (ml3 18 8)) rfl ?_
  exact sg_lret f14_8 pq14 rfl ⟨_, rfl, h⟩

/-! X1_refresh ()V -/
theorem fe15 (pc : Nat) : gm_fetch 15 pc = gm_find pc cd_15 := rfl
theorem f15_0 : gm_fetch 15 0 = some (1, .aload_n 0, 0, 0, 0, 0) := (fe15 0).trans rfl
theorem f15_1 : gm_fetch 15 1 = some (4, .getfield 39, 57, 1, 6, 0) := (fe15 1).trans rfl
theorem f15_4 : gm_fetch 15 4 = some (5, .aload_n 0, 0, 0, 0, 0) := (fe15 4).trans rfl
theorem f15_5 : gm_fetch 15 5 = some (8, .getfield 24, 51, 1, 0, 0) := (fe15 5).trans rfl
theorem f15_8 : gm_fetch 15 8 = some (11, .getfield 42, 22, 0, 5, 0) := (fe15 8).trans rfl
theorem f15_11 : gm_fetch 15 11 = some (14, .if_icmp .ne 4, 0, 15, 0, 0) := (fe15 11).trans rfl
theorem f15_14 : gm_fetch 15 14 = some (15, .return_, 0, 0, 0, 0) := (fe15 14).trans rfl
theorem f15_15 : gm_fetch 15 15 = some (16, .aload_n 0, 0, 0, 0, 0) := (fe15 15).trans rfl
theorem f15_16 : gm_fetch 15 16 = some (17, .aload_n 0, 0, 0, 0, 0) := (fe15 16).trans rfl
theorem f15_17 : gm_fetch 15 17 = some (20, .getfield 24, 51, 1, 0, 0) := (fe15 17).trans rfl
theorem f15_20 : gm_fetch 15 20 = some (23, .getfield 42, 22, 0, 5, 0) := (fe15 20).trans rfl
theorem f15_23 : gm_fetch 15 23 = some (26, .putfield 39, 57, 1, 6, 0) := (fe15 23).trans rfl
theorem f15_26 : gm_fetch 15 26 = some (27, .aload_n 0, 0, 0, 0, 0) := (fe15 26).trans rfl
theorem f15_27 : gm_fetch 15 27 = some (30, .invokevirtual 45, 63, 16, 0, 0) := (fe15 27).trans rfl
theorem f15_30 : gm_fetch 15 30 = some (31, .aload_n 0, 0, 0, 0, 0) := (fe15 30).trans rfl
theorem f15_31 : gm_fetch 15 31 = some (34, .getfield 15, 53, 1, 2, 0) := (fe15 31).trans rfl
theorem f15_34 : gm_fetch 15 34 = some (36, .bipush (-3), 0, 0, 0, 0) := (fe15 34).trans rfl
theorem f15_36 : gm_fetch 15 36 = some (39, .invokestatic 48, 64, 198, 0, 0) := (fe15 36).trans rfl
theorem f15_39 : gm_fetch 15 39 = some (40, .aload_n 0, 0, 0, 0, 0) := (fe15 39).trans rfl
theorem f15_40 : gm_fetch 15 40 = some (41, .iconst 0, 0, 0, 0, 0) := (fe15 40).trans rfl
theorem f15_41 : gm_fetch 15 41 = some (44, .putfield 31, 58, 1, 7, 0) := (fe15 41).trans rfl
theorem f15_44 : gm_fetch 15 44 = some (45, .aload_n 0, 0, 0, 0, 0) := (fe15 44).trans rfl
theorem f15_45 : gm_fetch 15 45 = some (48, .invokevirtual 54, 68, 17, 0, 0) := (fe15 45).trans rfl
theorem f15_48 : gm_fetch 15 48 = some (49, .istore_n 1, 0, 0, 0, 0) := (fe15 48).trans rfl
theorem f15_49 : gm_fetch 15 49 = some (50, .iconst 0, 0, 0, 0, 0) := (fe15 49).trans rfl
theorem f15_50 : gm_fetch 15 50 = some (51, .istore_n 2, 0, 0, 0, 0) := (fe15 50).trans rfl
theorem f15_51 : gm_fetch 15 51 = some (52, .iload_n 2, 0, 0, 0, 0) := (fe15 51).trans rfl
theorem f15_52 : gm_fetch 15 52 = some (54, .bipush 49, 0, 0, 0, 0) := (fe15 52).trans rfl
theorem f15_54 : gm_fetch 15 54 = some (57, .if_icmp .ge 34, 0, 88, 0, 0) := (fe15 54).trans rfl
theorem f15_57 : gm_fetch 15 57 = some (58, .iload_n 1, 0, 0, 0, 0) := (fe15 57).trans rfl
theorem f15_58 : gm_fetch 15 58 = some (59, .iconst (-1), 0, 0, 0, 0) := (fe15 58).trans rfl
theorem f15_59 : gm_fetch 15 59 = some (62, .if_icmp .eq 29, 0, 88, 0, 0) := (fe15 59).trans rfl
theorem f15_62 : gm_fetch 15 62 = some (63, .aload_n 0, 0, 0, 0, 0) := (fe15 62).trans rfl
theorem f15_63 : gm_fetch 15 63 = some (64, .iload_n 1, 0, 0, 0, 0) := (fe15 63).trans rfl
theorem f15_64 : gm_fetch 15 64 = some (67, .invokevirtual 58, 72, 21, 0, 0) := (fe15 64).trans rfl
theorem f15_67 : gm_fetch 15 67 = some (68, .aload_n 0, 0, 0, 0, 0) := (fe15 67).trans rfl
theorem f15_68 : gm_fetch 15 68 = some (69, .dup, 0, 0, 0, 0) := (fe15 68).trans rfl
theorem f15_69 : gm_fetch 15 69 = some (72, .getfield 31, 58, 1, 7, 0) := (fe15 69).trans rfl
theorem f15_72 : gm_fetch 15 72 = some (73, .iconst 1, 0, 0, 0, 0) := (fe15 72).trans rfl
theorem f15_73 : gm_fetch 15 73 = some (74, .iadd, 0, 0, 0, 0) := (fe15 73).trans rfl
theorem f15_74 : gm_fetch 15 74 = some (77, .putfield 31, 58, 1, 7, 0) := (fe15 74).trans rfl
theorem f15_77 : gm_fetch 15 77 = some (78, .aload_n 0, 0, 0, 0, 0) := (fe15 77).trans rfl
theorem f15_78 : gm_fetch 15 78 = some (81, .invokevirtual 54, 68, 17, 0, 0) := (fe15 78).trans rfl
theorem f15_81 : gm_fetch 15 81 = some (82, .istore_n 1, 0, 0, 0, 0) := (fe15 81).trans rfl
theorem f15_82 : gm_fetch 15 82 = some (85, .iinc 2 1, 0, 0, 0, 0) := (fe15 82).trans rfl
theorem f15_85 : gm_fetch 15 85 = some (88, .goto (-34), 0, 51, 0, 0) := (fe15 85).trans rfl
theorem f15_88 : gm_fetch 15 88 = some (89, .aload_n 0, 0, 0, 0, 0) := (fe15 88).trans rfl
theorem f15_89 : gm_fetch 15 89 = some (90, .aload_n 0, 0, 0, 0, 0) := (fe15 89).trans rfl
theorem f15_90 : gm_fetch 15 90 = some (93, .invokevirtual 62, 73, 22, 0, 0) := (fe15 90).trans rfl
theorem f15_93 : gm_fetch 15 93 = some (96, .putfield 35, 59, 1, 8, 0) := (fe15 93).trans rfl
theorem f15_96 : gm_fetch 15 96 = some (97, .return_, 0, 0, 0, 0) := (fe15 96).trans rfl
set_option maxRecDepth 10000 in
theorem rg15_0 {mi : Mi} {ml : Ml} {F : Mi → Ml → Prop}   (h : ((¬ (mi 18 6) = (mi 1 5)) → Sg 16 0 [some (.ref 18), none, none, none] [] (va_up mi 18 (va_up (mi 18) 6 (mi 1 5))) ml (qv fun mi2 ml3 => Sg 198 0 [some (.ref 20), some (.int (-3)), none, none] [] mi2 ml3 (qv fun mi5 ml6 => Sg 17 0 [some (.ref 18), none, none] [] (va_up mi5 18 (va_up (mi5 18) 7 0)) ml6 (qi fun y7 mi8 ml9 => Sg 15 51 [some (.ref 18), some (.int y7), some (.int 0)] [] mi8 ml9 (qv F))))) ∧ (¬ (¬ (mi 18 6) = (mi 1 5)) → F mi ml)) : Sg 15 0 [some (.ref 18), none, none] [] mi ml (qv F) := by
  refine sg_ld f15_0 (v := .ref 18) rfl rfl ?_
  refine sg_geti f15_1 rfl rfl (x := (mi 18 6)) rfl ?_
  refine sg_ld f15_4 (v := .ref 18) rfl rfl ?_
  refine sg_getr f15_5 rfl rfl (w := 1) rfl ?_
  refine sg_geti f15_8 rfl rfl (x := (mi 1 5)) rfl ?_
  refine sg_icmp f15_11 (fun c => ?_) (fun c => ?_)
  · have h := h.1 c
    refine sg_ld f15_15 (v := .ref 18) rfl rfl ?_
    refine sg_ld f15_16 (v := .ref 18) rfl rfl ?_
    refine sg_getr f15_17 rfl rfl (w := 1) rfl ?_
    refine sg_geti f15_20 rfl rfl (x := (mi 1 5)) rfl ?_
    refine sg_puti f15_23 rfl rfl rfl (fun hz => by cases hz) ?_
    refine sg_ld f15_26 (v := .ref 18) rfl rfl ?_
    refine sg_cV f15_27 (vs := []) (r := 18) (rest := []) (en := [some (.ref 18), none, none, none]) pq16 ⟨rfl, rfl⟩ rfl rfl rfl rfl rfl rfl h ?_
    intro _ mi2 ml3 h
    have h := gm_qv h
    refine sg_ld f15_30 (v := .ref 18) rfl rfl ?_
    refine sg_getr f15_31 rfl rfl (w := 20) rfl ?_
    refine sg_psh f15_34 (v := .int (-3)) (by decide) ?_
    refine sg_cS f15_36 (vs := [.ref 20, .int (-3)]) (rest := []) (en := [some (.ref 20), some (.int (-3)), none, none]) (by decide) pq198 ⟨rfl, rfl⟩ rfl rfl rfl rfl rfl h ?_
    intro _ mi5 ml6 h
    have h := gm_qv h
    refine sg_ld f15_39 (v := .ref 18) rfl rfl ?_
    refine sg_psh f15_40 (v := .int 0) (by decide) ?_
    refine sg_puti f15_41 rfl rfl rfl (fun hz => by cases hz) ?_
    refine sg_ld f15_44 (v := .ref 18) rfl rfl ?_
    refine sg_cV f15_45 (vs := []) (r := 18) (rest := []) (en := [some (.ref 18), none, none]) pq17 ⟨rfl, rfl⟩ rfl rfl rfl rfl rfl rfl h ?_
    rintro _ mi8 ml9 ⟨y7, rfl, h⟩
    refine sg_st1 f15_48 (ls' := [some (.ref 18), some (.int y7), none]) rfl rfl rfl rfl ?_
    refine sg_psh f15_49 (v := .int 0) (by decide) ?_
    refine sg_st1 f15_50 (ls' := [some (.ref 18), some (.int y7), some (.int 0)]) rfl rfl rfl rfl ?_
    exact h
  · have h := h.2 c
    exact sg_ret f15_14 pq15 rfl h

set_option maxRecDepth 10000 in
theorem rg15_51 {mi : Mi} {ml : Ml} {F : Mi → Ml → Prop} {x1 : Int32} {x2 : Int32}  (h : ((49 ≤ x2) → Sg 15 88 [some (.ref 18), some (.int x1), some (.int x2)] [] mi ml (qv F)) ∧ (¬ (49 ≤ x2) → ((x1 = (-1)) → Sg 15 88 [some (.ref 18), some (.int x1), some (.int x2)] [] mi ml (qv F)) ∧ (¬ (x1 = (-1)) → Sg 21 0 [some (.ref 18), some (.int x1), none, none, none] [] mi ml (qv fun mi2 ml3 => Sg 17 0 [some (.ref 18), none, none] [] (va_up mi2 18 (va_up (mi2 18) 7 ((mi2 18 7) + 1))) ml3 (qi fun y4 mi5 ml6 => Sg 15 51 [some (.ref 18), some (.int y4), some (.int (x2 + 1))] [] mi5 ml6 (qv F)))))) : Sg 15 51 [some (.ref 18), some (.int x1), some (.int x2)] [] mi ml (qv F) := by
  refine sg_ld f15_51 (v := .int x2) rfl rfl ?_
  refine sg_psh f15_52 (v := .int 49) (by decide) ?_
  refine sg_icmp f15_54 (fun c => ?_) (fun c => ?_)
  · have h := h.1 c
    exact h
  · have h := h.2 c
    refine sg_ld f15_57 (v := .int x1) rfl rfl ?_
    refine sg_psh f15_58 (v := .int (-1)) (by decide) ?_
    refine sg_icmp f15_59 (fun c => ?_) (fun c => ?_)
    · have h := h.1 c
      exact h
    · have h := h.2 c
      refine sg_ld f15_62 (v := .ref 18) rfl rfl ?_
      refine sg_ld f15_63 (v := .int x1) rfl rfl ?_
      refine sg_cV f15_64 (vs := [.int x1]) (r := 18) (rest := []) (en := [some (.ref 18), some (.int x1), none, none, none]) pq21 ⟨rfl, rfl⟩ rfl rfl rfl rfl rfl rfl h ?_
      intro _ mi2 ml3 h
      have h := gm_qv h
      refine sg_ld f15_67 (v := .ref 18) rfl rfl ?_
      refine sg_dup f15_68 rfl ?_
      refine sg_geti f15_69 rfl rfl (x := (mi2 18 7)) rfl ?_
      refine sg_psh f15_72 (v := .int 1) (by decide) ?_
      refine sg_bin f15_73 rfl ?_
      refine sg_puti f15_74 rfl rfl rfl (fun hz => by cases hz) ?_
      refine sg_ld f15_77 (v := .ref 18) rfl rfl ?_
      refine sg_cV f15_78 (vs := []) (r := 18) (rest := []) (en := [some (.ref 18), none, none]) pq17 ⟨rfl, rfl⟩ rfl rfl rfl rfl rfl rfl h ?_
      rintro _ mi5 ml6 ⟨y4, rfl, h⟩
      refine sg_st1 f15_81 (ls' := [some (.ref 18), some (.int y4), some (.int x2)]) rfl rfl rfl rfl ?_
      refine sg_inc f15_82 (d := 1) (ls' := [some (.ref 18), some (.int y4), some (.int (x2 + 1))]) rfl (by decide) rfl ?_
      refine sg_goto f15_85 ?_
      exact h

set_option maxRecDepth 10000 in
theorem rg15_88 {mi : Mi} {ml : Ml} {F : Mi → Ml → Prop} {x1 : Int32} {x2 : Int32}  (h : Sg 22 0 [some (.ref 18), none, none, none, none, none] [] mi ml (ql fun y1 mi2 ml3 => F mi2 (va_up ml3 18 (va_up (ml3 18) 8 y1)))) : Sg 15 88 [some (.ref 18), some (.int x1), some (.int x2)] [] mi ml (qv F) := by
  refine sg_ld f15_88 (v := .ref 18) rfl rfl ?_
  refine sg_ld f15_89 (v := .ref 18) rfl rfl ?_
  refine sg_cV f15_90 (vs := []) (r := 18) (rest := [.ref 18]) (en := [some (.ref 18), none, none, none, none, none]) pq22 ⟨rfl, rfl⟩ rfl rfl rfl rfl rfl rfl h ?_
  rintro _ mi2 ml3 ⟨y1, rfl, h⟩
  refine sg_putl f15_93 rfl rfl rfl ?_
  exact sg_ret f15_96 pq15 rfl h

/-! X1_takeKinds ()V -/
theorem fe16 (pc : Nat) : gm_fetch 16 pc = gm_find pc cd_16 := rfl
theorem f16_0 : gm_fetch 16 0 = some (1, .aload_n 0, 0, 0, 0, 0) := (fe16 0).trans rfl
theorem f16_1 : gm_fetch 16 1 = some (4, .getfield 11, 52, 1, 1, 0) := (fe16 1).trans rfl
theorem f16_4 : gm_fetch 16 4 = some (5, .iconst 0, 0, 0, 0, 0) := (fe16 4).trans rfl
theorem f16_5 : gm_fetch 16 5 = some (8, .invokestatic 48, 64, 198, 0, 0) := (fe16 5).trans rfl
theorem f16_8 : gm_fetch 16 8 = some (9, .iconst 0, 0, 0, 0, 0) := (fe16 8).trans rfl
theorem f16_9 : gm_fetch 16 9 = some (10, .istore_n 1, 0, 0, 0, 0) := (fe16 9).trans rfl
theorem f16_10 : gm_fetch 16 10 = some (11, .iload_n 1, 0, 0, 0, 0) := (fe16 10).trans rfl
theorem f16_11 : gm_fetch 16 11 = some (12, .aload_n 0, 0, 0, 0, 0) := (fe16 11).trans rfl
theorem f16_12 : gm_fetch 16 12 = some (15, .getfield 24, 51, 1, 0, 0) := (fe16 12).trans rfl
theorem f16_15 : gm_fetch 16 15 = some (18, .getfield 66, 3, 0, 0, 0) := (fe16 15).trans rfl
theorem f16_18 : gm_fetch 16 18 = some (21, .if_icmp .ge 80, 0, 98, 0, 0) := (fe16 18).trans rfl
theorem f16_21 : gm_fetch 16 21 = some (22, .iconst 0, 0, 0, 0, 0) := (fe16 21).trans rfl
theorem f16_22 : gm_fetch 16 22 = some (23, .istore_n 2, 0, 0, 0, 0) := (fe16 22).trans rfl
theorem f16_23 : gm_fetch 16 23 = some (24, .iload_n 2, 0, 0, 0, 0) := (fe16 23).trans rfl
theorem f16_24 : gm_fetch 16 24 = some (25, .aload_n 0, 0, 0, 0, 0) := (fe16 24).trans rfl
theorem f16_25 : gm_fetch 16 25 = some (28, .getfield 24, 51, 1, 0, 0) := (fe16 25).trans rfl
theorem f16_28 : gm_fetch 16 28 = some (31, .getfield 69, 9, 0, 1, 0) := (fe16 28).trans rfl
theorem f16_31 : gm_fetch 16 31 = some (34, .if_icmp .ge 61, 0, 92, 0, 0) := (fe16 31).trans rfl
theorem f16_34 : gm_fetch 16 34 = some (35, .aload_n 0, 0, 0, 0, 0) := (fe16 34).trans rfl
theorem f16_35 : gm_fetch 16 35 = some (38, .getfield 24, 51, 1, 0, 0) := (fe16 35).trans rfl
theorem f16_38 : gm_fetch 16 38 = some (41, .getfield 72, 25, 0, 6, 0) := (fe16 38).trans rfl
theorem f16_41 : gm_fetch 16 41 = some (42, .iload_n 1, 0, 0, 0, 0) := (fe16 41).trans rfl
theorem f16_42 : gm_fetch 16 42 = some (43, .iaload, 0, 0, 0, 0) := (fe16 42).trans rfl
theorem f16_43 : gm_fetch 16 43 = some (44, .iload_n 2, 0, 0, 0, 0) := (fe16 43).trans rfl
theorem f16_44 : gm_fetch 16 44 = some (47, .invokestatic 75, 65, 109, 1, 0) := (fe16 44).trans rfl
theorem f16_47 : gm_fetch 16 47 = some (48, .iconst 1, 0, 0, 0, 0) := (fe16 47).trans rfl
theorem f16_48 : gm_fetch 16 48 = some (51, .if_icmp .ne 7, 0, 55, 0, 0) := (fe16 48).trans rfl
theorem f16_51 : gm_fetch 16 51 = some (52, .iconst 2, 0, 0, 0, 0) := (fe16 51).trans rfl
theorem f16_52 : gm_fetch 16 52 = some (55, .goto 4, 0, 56, 0, 0) := (fe16 52).trans rfl
theorem f16_55 : gm_fetch 16 55 = some (56, .iconst 1, 0, 0, 0, 0) := (fe16 55).trans rfl
theorem f16_56 : gm_fetch 16 56 = some (57, .istore_n 3, 0, 0, 0, 0) := (fe16 56).trans rfl
theorem f16_57 : gm_fetch 16 57 = some (58, .aload_n 0, 0, 0, 0, 0) := (fe16 57).trans rfl
theorem f16_58 : gm_fetch 16 58 = some (61, .getfield 11, 52, 1, 1, 0) := (fe16 58).trans rfl
theorem f16_61 : gm_fetch 16 61 = some (62, .iload_n 2, 0, 0, 0, 0) := (fe16 61).trans rfl
theorem f16_62 : gm_fetch 16 62 = some (63, .iload_n 1, 0, 0, 0, 0) := (fe16 62).trans rfl
theorem f16_63 : gm_fetch 16 63 = some (66, .invokestatic 79, 66, 23, 0, 0) := (fe16 63).trans rfl
theorem f16_66 : gm_fetch 16 66 = some (67, .aload_n 0, 0, 0, 0, 0) := (fe16 66).trans rfl
theorem f16_67 : gm_fetch 16 67 = some (70, .getfield 24, 51, 1, 0, 0) := (fe16 67).trans rfl
theorem f16_70 : gm_fetch 16 70 = some (71, .iload_n 2, 0, 0, 0, 0) := (fe16 70).trans rfl
theorem f16_71 : gm_fetch 16 71 = some (72, .iload_n 1, 0, 0, 0, 0) := (fe16 71).trans rfl
theorem f16_72 : gm_fetch 16 72 = some (75, .invokevirtual 82, 67, 8, 0, 0) := (fe16 72).trans rfl
theorem f16_75 : gm_fetch 16 75 = some (78, .ifCond .eq 9, 0, 84, 0, 0) := (fe16 75).trans rfl
theorem f16_78 : gm_fetch 16 78 = some (79, .iload_n 3, 0, 0, 0, 0) := (fe16 78).trans rfl
theorem f16_79 : gm_fetch 16 79 = some (80, .iconst 4, 0, 0, 0, 0) := (fe16 79).trans rfl
theorem f16_80 : gm_fetch 16 80 = some (81, .ior, 0, 0, 0, 0) := (fe16 80).trans rfl
theorem f16_81 : gm_fetch 16 81 = some (84, .goto 4, 0, 85, 0, 0) := (fe16 81).trans rfl
theorem f16_84 : gm_fetch 16 84 = some (85, .iload_n 3, 0, 0, 0, 0) := (fe16 84).trans rfl
theorem f16_85 : gm_fetch 16 85 = some (86, .iastore, 0, 0, 0, 0) := (fe16 85).trans rfl
theorem f16_86 : gm_fetch 16 86 = some (89, .iinc 2 1, 0, 0, 0, 0) := (fe16 86).trans rfl
theorem f16_89 : gm_fetch 16 89 = some (92, .goto (-66), 0, 23, 0, 0) := (fe16 89).trans rfl
theorem f16_92 : gm_fetch 16 92 = some (95, .iinc 1 1, 0, 0, 0, 0) := (fe16 92).trans rfl
theorem f16_95 : gm_fetch 16 95 = some (98, .goto (-85), 0, 10, 0, 0) := (fe16 95).trans rfl
theorem f16_98 : gm_fetch 16 98 = some (99, .return_, 0, 0, 0, 0) := (fe16 98).trans rfl
set_option maxRecDepth 10000 in
theorem rg16_0 {mi : Mi} {ml : Ml} {F : Mi → Ml → Prop}   (h : Sg 198 0 [some (.ref 19), some (.int 0), none, none] [] mi ml (qv fun mi2 ml3 => Sg 16 10 [some (.ref 18), some (.int 0), none, none] [] mi2 ml3 (qv F))) : Sg 16 0 [some (.ref 18), none, none, none] [] mi ml (qv F) := by
  refine sg_ld f16_0 (v := .ref 18) rfl rfl ?_
  refine sg_getr f16_1 rfl rfl (w := 19) rfl ?_
  refine sg_psh f16_4 (v := .int 0) (by decide) ?_
  refine sg_cS f16_5 (vs := [.ref 19, .int 0]) (rest := []) (en := [some (.ref 19), some (.int 0), none, none]) (by decide) pq198 ⟨rfl, rfl⟩ rfl rfl rfl rfl rfl h ?_
  intro _ mi2 ml3 h
  have h := gm_qv h
  refine sg_psh f16_8 (v := .int 0) (by decide) ?_
  refine sg_st1 f16_9 (ls' := [some (.ref 18), some (.int 0), none, none]) rfl rfl rfl rfl ?_
  exact h

set_option maxRecDepth 10000 in
theorem rg16_10 {mi : Mi} {ml : Ml} {F : Mi → Ml → Prop} {x1 : Int32}  (h : (((mi 1 0) ≤ x1) → F mi ml) ∧ (¬ ((mi 1 0) ≤ x1) → Sg 16 23 [some (.ref 18), some (.int x1), some (.int 0), none] [] mi ml (qv F))) : Sg 16 10 [some (.ref 18), some (.int x1), none, none] [] mi ml (qv F) := by
  refine sg_ld f16_10 (v := .int x1) rfl rfl ?_
  refine sg_ld f16_11 (v := .ref 18) rfl rfl ?_
  refine sg_getr f16_12 rfl rfl (w := 1) rfl ?_
  refine sg_geti f16_15 rfl rfl (x := (mi 1 0)) rfl ?_
  refine sg_icmp f16_18 (fun c => ?_) (fun c => ?_)
  · have h := h.1 c
    exact sg_ret f16_98 pq16 rfl h
  · have h := h.2 c
    refine sg_psh f16_21 (v := .int 0) (by decide) ?_
    refine sg_st1 f16_22 (ls' := [some (.ref 18), some (.int x1), some (.int 0), none]) rfl rfl rfl rfl ?_
    exact h

set_option maxRecDepth 10000 in
theorem rg16_23 {mi : Mi} {ml : Ml} {F : Mi → Ml → Prop} {x1 : Int32} {x2 : Int32}  (h : (((mi 1 1) ≤ x2) → Sg 16 10 [some (.ref 18), some (.int (x1 + 1)), none, none] [] mi ml (qv F)) ∧ (¬ ((mi 1 1) ≤ x2) → (vp_in x1 7) ∧ (Sg 109 0 [some (.int (mi 2 (Int32.toNatClampNeg x1))), some (.int x2)] [] mi ml (qi fun y2 mi3 ml4 => ((¬ y2 = 1) → Sg 16 56 [some (.ref 18), some (.int x1), some (.int x2), none] [.int 1] mi3 ml4 (qv F)) ∧ (¬ (¬ y2 = 1) → Sg 16 56 [some (.ref 18), some (.int x1), some (.int x2), none] [.int 2] mi3 ml4 (qv F)))))) : Sg 16 23 [some (.ref 18), some (.int x1), some (.int x2), none] [] mi ml (qv F) := by
  refine sg_ld f16_23 (v := .int x2) rfl rfl ?_
  refine sg_ld f16_24 (v := .ref 18) rfl rfl ?_
  refine sg_getr f16_25 rfl rfl (w := 1) rfl ?_
  refine sg_geti f16_28 rfl rfl (x := (mi 1 1)) rfl ?_
  refine sg_icmp f16_31 (fun c => ?_) (fun c => ?_)
  · have h := h.1 c
    refine sg_inc f16_92 (d := 1) (ls' := [some (.ref 18), some (.int (x1 + 1)), some (.int x2), none]) rfl (by decide) rfl ?_
    refine sg_goto f16_95 ?_
    exact sg_drop [2] rfl h
  · have h := h.2 c
    refine sg_ld f16_34 (v := .ref 18) rfl rfl ?_
    refine sg_getr f16_35 rfl rfl (w := 1) rfl ?_
    refine sg_getr f16_38 rfl rfl (w := 2) rfl ?_
    refine sg_ld f16_41 (v := .int x1) rfl rfl ?_
    obtain ⟨e1, h⟩ := h
    refine sg_iald f16_42 rfl e1 (x := (mi 2 (Int32.toNatClampNeg x1))) rfl ?_
    refine sg_ld f16_43 (v := .int x2) rfl rfl ?_
    refine sg_cS f16_44 (vs := [.int (mi 2 (Int32.toNatClampNeg x1)), .int x2]) (rest := []) (en := [some (.int (mi 2 (Int32.toNatClampNeg x1))), some (.int x2)]) (by decide) pq109 ⟨rfl, rfl⟩ rfl rfl rfl rfl rfl h ?_
    rintro _ mi3 ml4 ⟨y2, rfl, h⟩
    refine sg_psh f16_47 (v := .int 1) (by decide) ?_
    refine sg_icmp f16_48 (fun c => ?_) (fun c => ?_)
    · have h := h.1 c
      refine sg_psh f16_55 (v := .int 1) (by decide) ?_
      exact h
    · have h := h.2 c
      refine sg_psh f16_51 (v := .int 2) (by decide) ?_
      refine sg_goto f16_52 ?_
      exact h

set_option maxRecDepth 10000 in
theorem rg16_56 {mi : Mi} {ml : Ml} {F : Mi → Ml → Prop} {x1 : Int32} {x2 : Int32} {s0 : Int32}  (h : Sg 23 0 [some (.int x2), some (.int x1)] [] mi ml (qi fun y1 mi2 ml3 => Sg 8 0 [some (.ref 1), some (.int x2), some (.int x1)] [] mi2 ml3 (qi fun y4 mi5 ml6 => ((y4 = 0) → (vp_in y1 81) ∧ (Sg 16 23 [some (.ref 18), some (.int x1), some (.int (x2 + 1)), none] [] (va_up mi5 19 (va_up (mi5 19) (Int32.toNatClampNeg y1) s0)) ml6 (qv F))) ∧ (¬ (y4 = 0) → (vp_in y1 81) ∧ (Sg 16 23 [some (.ref 18), some (.int x1), some (.int (x2 + 1)), none] [] (va_up mi5 19 (va_up (mi5 19) (Int32.toNatClampNeg y1) (s0 ||| 4))) ml6 (qv F)))))) : Sg 16 56 [some (.ref 18), some (.int x1), some (.int x2), none] [.int s0] mi ml (qv F) := by
  refine sg_st1 f16_56 (ls' := [some (.ref 18), some (.int x1), some (.int x2), some (.int s0)]) rfl rfl rfl rfl ?_
  refine sg_ld f16_57 (v := .ref 18) rfl rfl ?_
  refine sg_getr f16_58 rfl rfl (w := 19) rfl ?_
  refine sg_ld f16_61 (v := .int x2) rfl rfl ?_
  refine sg_ld f16_62 (v := .int x1) rfl rfl ?_
  refine sg_cS f16_63 (vs := [.int x2, .int x1]) (rest := [.ref 19]) (en := [some (.int x2), some (.int x1)]) (by decide) pq23 ⟨rfl, rfl⟩ rfl rfl rfl rfl rfl h ?_
  rintro _ mi2 ml3 ⟨y1, rfl, h⟩
  refine sg_ld f16_66 (v := .ref 18) rfl rfl ?_
  refine sg_getr f16_67 rfl rfl (w := 1) rfl ?_
  refine sg_ld f16_70 (v := .int x2) rfl rfl ?_
  refine sg_ld f16_71 (v := .int x1) rfl rfl ?_
  refine sg_cV f16_72 (vs := [.int x2, .int x1]) (r := 1) (rest := [.int y1, .ref 19]) (en := [some (.ref 1), some (.int x2), some (.int x1)]) pq8 ⟨rfl, rfl⟩ rfl rfl rfl rfl rfl rfl h ?_
  rintro _ mi5 ml6 ⟨y4, rfl, h⟩
  refine sg_if f16_75 (fun c => ?_) (fun c => ?_)
  · have h := h.1 c
    refine sg_ld f16_84 (v := .int s0) rfl rfl ?_
    obtain ⟨e7, h⟩ := h
    refine sg_iast f16_85 rfl e7 ?_
    refine sg_inc f16_86 (d := 1) (ls' := [some (.ref 18), some (.int x1), some (.int (x2 + 1)), some (.int s0)]) rfl (by decide) rfl ?_
    refine sg_goto f16_89 ?_
    exact sg_drop [3] rfl h
  · have h := h.2 c
    refine sg_ld f16_78 (v := .int s0) rfl rfl ?_
    refine sg_psh f16_79 (v := .int 4) (by decide) ?_
    refine sg_bin f16_80 rfl ?_
    refine sg_goto f16_81 ?_
    obtain ⟨e8, h⟩ := h
    refine sg_iast f16_85 rfl e8 ?_
    refine sg_inc f16_86 (d := 1) (ls' := [some (.ref 18), some (.int x1), some (.int (x2 + 1)), some (.int s0)]) rfl (by decide) rfl ?_
    refine sg_goto f16_89 ?_
    exact sg_drop [3] rfl h

/-! X1_lastNodeOfNewChain ()I -/
theorem fe17 (pc : Nat) : gm_fetch 17 pc = gm_find pc cd_17 := rfl
set_option maxRecDepth 10000 in
theorem f17_0 : gm_fetch 17 0 = some (1, .aload_n 0, 0, 0, 0, 0) := (fe17 0).trans rfl
set_option maxRecDepth 10000 in
theorem f17_1 : gm_fetch 17 1 = some (2, .iconst 0, 0, 0, 0, 0) := (fe17 1).trans rfl
set_option maxRecDepth 10000 in
theorem f17_2 : gm_fetch 17 2 = some (5, .putfield 86, 56, 1, 5, 0) := (fe17 2).trans rfl
set_option maxRecDepth 10000 in
theorem f17_5 : gm_fetch 17 5 = some (6, .iconst 0, 0, 0, 0, 0) := (fe17 5).trans rfl
set_option maxRecDepth 10000 in
theorem f17_6 : gm_fetch 17 6 = some (7, .istore_n 1, 0, 0, 0, 0) := (fe17 6).trans rfl
set_option maxRecDepth 10000 in
theorem f17_7 : gm_fetch 17 7 = some (8, .iload_n 1, 0, 0, 0, 0) := (fe17 7).trans rfl
set_option maxRecDepth 10000 in
theorem f17_8 : gm_fetch 17 8 = some (10, .bipush 81, 0, 0, 0, 0) := (fe17 8).trans rfl
set_option maxRecDepth 10000 in
theorem f17_10 : gm_fetch 17 10 = some (13, .if_icmp .ge 64, 0, 74, 0, 0) := (fe17 10).trans rfl
set_option maxRecDepth 10000 in
theorem f17_13 : gm_fetch 17 13 = some (14, .aload_n 0, 0, 0, 0, 0) := (fe17 13).trans rfl
set_option maxRecDepth 10000 in
theorem f17_14 : gm_fetch 17 14 = some (17, .getfield 18, 54, 1, 3, 0) := (fe17 14).trans rfl
set_option maxRecDepth 10000 in
theorem f17_17 : gm_fetch 17 17 = some (18, .iconst 2, 0, 0, 0, 0) := (fe17 17).trans rfl
set_option maxRecDepth 10000 in
theorem f17_18 : gm_fetch 17 18 = some (19, .iload_n 1, 0, 0, 0, 0) := (fe17 18).trans rfl
set_option maxRecDepth 10000 in
theorem f17_19 : gm_fetch 17 19 = some (20, .imul, 0, 0, 0, 0) := (fe17 19).trans rfl
set_option maxRecDepth 10000 in
theorem f17_20 : gm_fetch 17 20 = some (21, .aload_n 0, 0, 0, 0, 0) := (fe17 20).trans rfl
set_option maxRecDepth 10000 in
theorem f17_21 : gm_fetch 17 21 = some (24, .getfield 11, 52, 1, 1, 0) := (fe17 21).trans rfl
set_option maxRecDepth 10000 in
theorem f17_24 : gm_fetch 17 24 = some (25, .iload_n 1, 0, 0, 0, 0) := (fe17 24).trans rfl
set_option maxRecDepth 10000 in
theorem f17_25 : gm_fetch 17 25 = some (26, .iaload, 0, 0, 0, 0) := (fe17 25).trans rfl
set_option maxRecDepth 10000 in
theorem f17_26 : gm_fetch 17 26 = some (29, .ifCond .ne 8, 0, 34, 0, 0) := (fe17 26).trans rfl
set_option maxRecDepth 10000 in
theorem f17_29 : gm_fetch 17 29 = some (31, .bipush (-4), 0, 0, 0, 0) := (fe17 29).trans rfl
set_option maxRecDepth 10000 in
theorem f17_31 : gm_fetch 17 31 = some (34, .goto 5, 0, 36, 0, 0) := (fe17 31).trans rfl
set_option maxRecDepth 10000 in
theorem f17_34 : gm_fetch 17 34 = some (36, .bipush (-2), 0, 0, 0, 0) := (fe17 34).trans rfl
set_option maxRecDepth 10000 in
theorem f17_36 : gm_fetch 17 36 = some (37, .iastore, 0, 0, 0, 0) := (fe17 36).trans rfl
set_option maxRecDepth 10000 in
theorem f17_37 : gm_fetch 17 37 = some (38, .aload_n 0, 0, 0, 0, 0) := (fe17 37).trans rfl
set_option maxRecDepth 10000 in
theorem f17_38 : gm_fetch 17 38 = some (41, .getfield 18, 54, 1, 3, 0) := (fe17 38).trans rfl
set_option maxRecDepth 10000 in
theorem f17_41 : gm_fetch 17 41 = some (42, .iconst 2, 0, 0, 0, 0) := (fe17 41).trans rfl
set_option maxRecDepth 10000 in
theorem f17_42 : gm_fetch 17 42 = some (43, .iload_n 1, 0, 0, 0, 0) := (fe17 42).trans rfl
set_option maxRecDepth 10000 in
theorem f17_43 : gm_fetch 17 43 = some (44, .imul, 0, 0, 0, 0) := (fe17 43).trans rfl
set_option maxRecDepth 10000 in
theorem f17_44 : gm_fetch 17 44 = some (45, .iconst 1, 0, 0, 0, 0) := (fe17 44).trans rfl
set_option maxRecDepth 10000 in
theorem f17_45 : gm_fetch 17 45 = some (46, .iadd, 0, 0, 0, 0) := (fe17 45).trans rfl
set_option maxRecDepth 10000 in
theorem f17_46 : gm_fetch 17 46 = some (48, .bipush (-2), 0, 0, 0, 0) := (fe17 46).trans rfl
set_option maxRecDepth 10000 in
theorem f17_48 : gm_fetch 17 48 = some (49, .iastore, 0, 0, 0, 0) := (fe17 48).trans rfl
set_option maxRecDepth 10000 in
theorem f17_49 : gm_fetch 17 49 = some (50, .aload_n 0, 0, 0, 0, 0) := (fe17 49).trans rfl
set_option maxRecDepth 10000 in
theorem f17_50 : gm_fetch 17 50 = some (53, .getfield 11, 52, 1, 1, 0) := (fe17 50).trans rfl
set_option maxRecDepth 10000 in
theorem f17_53 : gm_fetch 17 53 = some (54, .iload_n 1, 0, 0, 0, 0) := (fe17 53).trans rfl
set_option maxRecDepth 10000 in
theorem f17_54 : gm_fetch 17 54 = some (55, .iaload, 0, 0, 0, 0) := (fe17 54).trans rfl
set_option maxRecDepth 10000 in
theorem f17_55 : gm_fetch 17 55 = some (56, .iconst 2, 0, 0, 0, 0) := (fe17 55).trans rfl
set_option maxRecDepth 10000 in
theorem f17_56 : gm_fetch 17 56 = some (57, .iand, 0, 0, 0, 0) := (fe17 56).trans rfl
set_option maxRecDepth 10000 in
theorem f17_57 : gm_fetch 17 57 = some (60, .ifCond .eq 11, 0, 68, 0, 0) := (fe17 57).trans rfl
set_option maxRecDepth 10000 in
theorem f17_60 : gm_fetch 17 60 = some (61, .aload_n 0, 0, 0, 0, 0) := (fe17 60).trans rfl
set_option maxRecDepth 10000 in
theorem f17_61 : gm_fetch 17 61 = some (62, .iconst 2, 0, 0, 0, 0) := (fe17 61).trans rfl
set_option maxRecDepth 10000 in
theorem f17_62 : gm_fetch 17 62 = some (63, .iload_n 1, 0, 0, 0, 0) := (fe17 62).trans rfl
set_option maxRecDepth 10000 in
theorem f17_63 : gm_fetch 17 63 = some (64, .imul, 0, 0, 0, 0) := (fe17 63).trans rfl
set_option maxRecDepth 10000 in
theorem f17_64 : gm_fetch 17 64 = some (65, .iconst (-1), 0, 0, 0, 0) := (fe17 64).trans rfl
set_option maxRecDepth 10000 in
theorem f17_65 : gm_fetch 17 65 = some (68, .invokevirtual 89, 69, 20, 0, 0) := (fe17 65).trans rfl
set_option maxRecDepth 10000 in
theorem f17_68 : gm_fetch 17 68 = some (71, .iinc 1 1, 0, 0, 0, 0) := (fe17 68).trans rfl
set_option maxRecDepth 10000 in
theorem f17_71 : gm_fetch 17 71 = some (74, .goto (-64), 0, 7, 0, 0) := (fe17 71).trans rfl
set_option maxRecDepth 10000 in
theorem f17_74 : gm_fetch 17 74 = some (75, .iconst 0, 0, 0, 0, 0) := (fe17 74).trans rfl
set_option maxRecDepth 10000 in
theorem f17_75 : gm_fetch 17 75 = some (76, .istore_n 1, 0, 0, 0, 0) := (fe17 75).trans rfl
set_option maxRecDepth 10000 in
theorem f17_76 : gm_fetch 17 76 = some (77, .iload_n 1, 0, 0, 0, 0) := (fe17 76).trans rfl
set_option maxRecDepth 10000 in
theorem f17_77 : gm_fetch 17 77 = some (78, .aload_n 0, 0, 0, 0, 0) := (fe17 77).trans rfl
set_option maxRecDepth 10000 in
theorem f17_78 : gm_fetch 17 78 = some (81, .getfield 86, 56, 1, 5, 0) := (fe17 78).trans rfl
set_option maxRecDepth 10000 in
theorem f17_81 : gm_fetch 17 81 = some (84, .if_icmp .ge 57, 0, 138, 0, 0) := (fe17 81).trans rfl
set_option maxRecDepth 10000 in
theorem f17_84 : gm_fetch 17 84 = some (85, .iload_n 1, 0, 0, 0, 0) := (fe17 84).trans rfl
set_option maxRecDepth 10000 in
theorem f17_85 : gm_fetch 17 85 = some (88, .sipush 162, 0, 0, 0, 0) := (fe17 85).trans rfl
set_option maxRecDepth 10000 in
theorem f17_88 : gm_fetch 17 88 = some (91, .if_icmp .ge 50, 0, 138, 0, 0) := (fe17 88).trans rfl
set_option maxRecDepth 10000 in
theorem f17_91 : gm_fetch 17 91 = some (92, .aload_n 0, 0, 0, 0, 0) := (fe17 91).trans rfl
set_option maxRecDepth 10000 in
theorem f17_92 : gm_fetch 17 92 = some (95, .getfield 21, 55, 1, 4, 0) := (fe17 92).trans rfl
set_option maxRecDepth 10000 in
theorem f17_95 : gm_fetch 17 95 = some (96, .iload_n 1, 0, 0, 0, 0) := (fe17 95).trans rfl
set_option maxRecDepth 10000 in
theorem f17_96 : gm_fetch 17 96 = some (97, .iaload, 0, 0, 0, 0) := (fe17 96).trans rfl
set_option maxRecDepth 10000 in
theorem f17_97 : gm_fetch 17 97 = some (98, .istore_n 2, 0, 0, 0, 0) := (fe17 97).trans rfl
set_option maxRecDepth 10000 in
theorem f17_98 : gm_fetch 17 98 = some (99, .iload_n 2, 0, 0, 0, 0) := (fe17 98).trans rfl
set_option maxRecDepth 10000 in
theorem f17_99 : gm_fetch 17 99 = some (100, .iconst 2, 0, 0, 0, 0) := (fe17 99).trans rfl
set_option maxRecDepth 10000 in
theorem f17_100 : gm_fetch 17 100 = some (101, .irem, 0, 0, 0, 0) := (fe17 100).trans rfl
set_option maxRecDepth 10000 in
theorem f17_101 : gm_fetch 17 101 = some (104, .ifCond .ne 11, 0, 112, 0, 0) := (fe17 101).trans rfl
set_option maxRecDepth 10000 in
theorem f17_104 : gm_fetch 17 104 = some (105, .aload_n 0, 0, 0, 0, 0) := (fe17 104).trans rfl
set_option maxRecDepth 10000 in
theorem f17_105 : gm_fetch 17 105 = some (106, .iload_n 2, 0, 0, 0, 0) := (fe17 105).trans rfl
set_option maxRecDepth 10000 in
theorem f17_106 : gm_fetch 17 106 = some (109, .invokevirtual 93, 70, 18, 0, 0) := (fe17 106).trans rfl
set_option maxRecDepth 10000 in
theorem f17_109 : gm_fetch 17 109 = some (112, .goto 23, 0, 132, 0, 0) := (fe17 109).trans rfl
set_option maxRecDepth 10000 in
theorem f17_112 : gm_fetch 17 112 = some (113, .aload_n 0, 0, 0, 0, 0) := (fe17 112).trans rfl
set_option maxRecDepth 10000 in
theorem f17_113 : gm_fetch 17 113 = some (116, .getfield 11, 52, 1, 1, 0) := (fe17 113).trans rfl
set_option maxRecDepth 10000 in
theorem f17_116 : gm_fetch 17 116 = some (117, .iload_n 2, 0, 0, 0, 0) := (fe17 116).trans rfl
set_option maxRecDepth 10000 in
theorem f17_117 : gm_fetch 17 117 = some (118, .iconst 2, 0, 0, 0, 0) := (fe17 117).trans rfl
set_option maxRecDepth 10000 in
theorem f17_118 : gm_fetch 17 118 = some (119, .idiv, 0, 0, 0, 0) := (fe17 118).trans rfl
set_option maxRecDepth 10000 in
theorem f17_119 : gm_fetch 17 119 = some (120, .iaload, 0, 0, 0, 0) := (fe17 119).trans rfl
set_option maxRecDepth 10000 in
theorem f17_120 : gm_fetch 17 120 = some (121, .iconst 4, 0, 0, 0, 0) := (fe17 120).trans rfl
set_option maxRecDepth 10000 in
theorem f17_121 : gm_fetch 17 121 = some (122, .iand, 0, 0, 0, 0) := (fe17 121).trans rfl
set_option maxRecDepth 10000 in
theorem f17_122 : gm_fetch 17 122 = some (125, .ifCond .eq 5, 0, 127, 0, 0) := (fe17 122).trans rfl
set_option maxRecDepth 10000 in
theorem f17_125 : gm_fetch 17 125 = some (126, .iload_n 2, 0, 0, 0, 0) := (fe17 125).trans rfl
set_option maxRecDepth 10000 in
theorem f17_126 : gm_fetch 17 126 = some (127, .ireturn, 0, 0, 0, 0) := (fe17 126).trans rfl
set_option maxRecDepth 10000 in
theorem f17_127 : gm_fetch 17 127 = some (128, .aload_n 0, 0, 0, 0, 0) := (fe17 127).trans rfl
set_option maxRecDepth 10000 in
theorem f17_128 : gm_fetch 17 128 = some (129, .iload_n 2, 0, 0, 0, 0) := (fe17 128).trans rfl
set_option maxRecDepth 10000 in
theorem f17_129 : gm_fetch 17 129 = some (132, .invokevirtual 96, 71, 19, 0, 0) := (fe17 129).trans rfl
set_option maxRecDepth 10000 in
theorem f17_132 : gm_fetch 17 132 = some (135, .iinc 1 1, 0, 0, 0, 0) := (fe17 132).trans rfl
set_option maxRecDepth 10000 in
theorem f17_135 : gm_fetch 17 135 = some (138, .goto (-59), 0, 76, 0, 0) := (fe17 135).trans rfl
set_option maxRecDepth 10000 in
theorem f17_138 : gm_fetch 17 138 = some (139, .iconst (-1), 0, 0, 0, 0) := (fe17 138).trans rfl
set_option maxRecDepth 10000 in
theorem f17_139 : gm_fetch 17 139 = some (140, .ireturn, 0, 0, 0, 0) := (fe17 139).trans rfl
set_option maxRecDepth 10000 in
theorem rg17_0 {mi : Mi} {ml : Ml} {F : Int32 → Mi → Ml → Prop}   (h : Sg 17 7 [some (.ref 18), some (.int 0), none] [] (va_up mi 18 (va_up (mi 18) 5 0)) ml (qi F)) : Sg 17 0 [some (.ref 18), none, none] [] mi ml (qi F) := by
  refine sg_ld f17_0 (v := .ref 18) rfl rfl ?_
  refine sg_psh f17_1 (v := .int 0) (by decide) ?_
  refine sg_puti f17_2 rfl rfl rfl (fun hz => by cases hz) ?_
  refine sg_psh f17_5 (v := .int 0) (by decide) ?_
  refine sg_st1 f17_6 (ls' := [some (.ref 18), some (.int 0), none]) rfl rfl rfl rfl ?_
  exact h

set_option maxRecDepth 10000 in
theorem rg17_7 {mi : Mi} {ml : Ml} {F : Int32 → Mi → Ml → Prop} {x1 : Int32}  (h : ((81 ≤ x1) → Sg 17 76 [some (.ref 18), some (.int 0), none] [] mi ml (qi F)) ∧ (¬ (81 ≤ x1) → (vp_in x1 81) ∧ (((¬ (mi 19 (Int32.toNatClampNeg x1)) = 0) → Sg 17 36 [some (.ref 18), some (.int x1), none] [.int (-2), .int (2 * x1), .ref 21] mi ml (qi F)) ∧ (¬ (¬ (mi 19 (Int32.toNatClampNeg x1)) = 0) → Sg 17 36 [some (.ref 18), some (.int x1), none] [.int (-4), .int (2 * x1), .ref 21] mi ml (qi F))))) : Sg 17 7 [some (.ref 18), some (.int x1), none] [] mi ml (qi F) := by
  refine sg_ld f17_7 (v := .int x1) rfl rfl ?_
  refine sg_psh f17_8 (v := .int 81) (by decide) ?_
  refine sg_icmp f17_10 (fun c => ?_) (fun c => ?_)
  · have h := h.1 c
    refine sg_psh f17_74 (v := .int 0) (by decide) ?_
    refine sg_st1 f17_75 (ls' := [some (.ref 18), some (.int 0), none]) rfl rfl rfl rfl ?_
    exact h
  · have h := h.2 c
    refine sg_ld f17_13 (v := .ref 18) rfl rfl ?_
    refine sg_getr f17_14 rfl rfl (w := 21) rfl ?_
    refine sg_psh f17_17 (v := .int 2) (by decide) ?_
    refine sg_ld f17_18 (v := .int x1) rfl rfl ?_
    refine sg_bin f17_19 rfl ?_
    refine sg_ld f17_20 (v := .ref 18) rfl rfl ?_
    refine sg_getr f17_21 rfl rfl (w := 19) rfl ?_
    refine sg_ld f17_24 (v := .int x1) rfl rfl ?_
    obtain ⟨e1, h⟩ := h
    refine sg_iald f17_25 rfl e1 (x := (mi 19 (Int32.toNatClampNeg x1))) rfl ?_
    refine sg_if f17_26 (fun c => ?_) (fun c => ?_)
    · have h := h.1 c
      refine sg_psh f17_34 (v := .int (-2)) (by decide) ?_
      exact h
    · have h := h.2 c
      refine sg_psh f17_29 (v := .int (-4)) (by decide) ?_
      refine sg_goto f17_31 ?_
      exact h

set_option maxRecDepth 10000 in
theorem rg17_36 {mi : Mi} {ml : Ml} {F : Int32 → Mi → Ml → Prop} {x1 : Int32} {s0 : Int32} {s1 : Int32}  (h : (vp_in s1 162) ∧ ((vp_in ((2 * x1) + 1) 162) ∧ ((vp_in x1 81) ∧ (((((mi 19 (Int32.toNatClampNeg x1)) &&& 2) = 0) → Sg 17 7 [some (.ref 18), some (.int (x1 + 1)), none] [] (va_up mi 21 (va_up (va_up (mi 21) (Int32.toNatClampNeg s1) s0) (Int32.toNatClampNeg ((2 * x1) + 1)) (-2))) ml (qi F)) ∧ (¬ (((mi 19 (Int32.toNatClampNeg x1)) &&& 2) = 0) → Sg 20 0 [some (.ref 18), some (.int (2 * x1)), some (.int (-1))] [] (va_up mi 21 (va_up (va_up (mi 21) (Int32.toNatClampNeg s1) s0) (Int32.toNatClampNeg ((2 * x1) + 1)) (-2))) ml (qv fun mi5 ml6 => Sg 17 7 [some (.ref 18), some (.int (x1 + 1)), none] [] mi5 ml6 (qi F))))))) : Sg 17 36 [some (.ref 18), some (.int x1), none] [.int s0, .int s1, .ref 21] mi ml (qi F) := by
  obtain ⟨e1, h⟩ := h
  refine sg_iast f17_36 rfl e1 ?_
  refine sg_ld f17_37 (v := .ref 18) rfl rfl ?_
  refine sg_getr f17_38 rfl rfl (w := 21) rfl ?_
  refine sg_psh f17_41 (v := .int 2) (by decide) ?_
  refine sg_ld f17_42 (v := .int x1) rfl rfl ?_
  refine sg_bin f17_43 rfl ?_
  refine sg_psh f17_44 (v := .int 1) (by decide) ?_
  refine sg_bin f17_45 rfl ?_
  refine sg_psh f17_46 (v := .int (-2)) (by decide) ?_
  obtain ⟨e2, h⟩ := h
  refine sg_iast2 f17_48 rfl e2 ?_
  refine sg_ld f17_49 (v := .ref 18) rfl rfl ?_
  refine sg_getr f17_50 rfl rfl (w := 19) rfl ?_
  refine sg_ld f17_53 (v := .int x1) rfl rfl ?_
  obtain ⟨e3, h⟩ := h
  refine sg_iald f17_54 rfl e3 (x := (mi 19 (Int32.toNatClampNeg x1))) rfl ?_
  refine sg_psh f17_55 (v := .int 2) (by decide) ?_
  refine sg_bin f17_56 rfl ?_
  refine sg_if f17_57 (fun c => ?_) (fun c => ?_)
  · have h := h.1 c
    refine sg_inc f17_68 (d := 1) (ls' := [some (.ref 18), some (.int (x1 + 1)), none]) rfl (by decide) rfl ?_
    refine sg_goto f17_71 ?_
    exact h
  · have h := h.2 c
    refine sg_ld f17_60 (v := .ref 18) rfl rfl ?_
    refine sg_psh f17_61 (v := .int 2) (by decide) ?_
    refine sg_ld f17_62 (v := .int x1) rfl rfl ?_
    refine sg_bin f17_63 rfl ?_
    refine sg_psh f17_64 (v := .int (-1)) (by decide) ?_
    refine sg_cV f17_65 (vs := [.int (2 * x1), .int (-1)]) (r := 18) (rest := []) (en := [some (.ref 18), some (.int (2 * x1)), some (.int (-1))]) pq20 ⟨rfl, rfl⟩ rfl rfl rfl rfl rfl rfl h ?_
    intro _ mi5 ml6 h
    have h := gm_qv h
    refine sg_inc f17_68 (d := 1) (ls' := [some (.ref 18), some (.int (x1 + 1)), none]) rfl (by decide) rfl ?_
    refine sg_goto f17_71 ?_
    exact h

set_option maxRecDepth 10000 in
theorem rg17_76 {mi : Mi} {ml : Ml} {F : Int32 → Mi → Ml → Prop} {x1 : Int32}  (h : (((mi 18 5) ≤ x1) → F (-1) mi ml) ∧ (¬ ((mi 18 5) ≤ x1) → ((162 ≤ x1) → F (-1) mi ml) ∧ (¬ (162 ≤ x1) → (vp_in x1 162) ∧ (((¬ ((mi 22 (Int32.toNatClampNeg x1)) - (mi 22 (Int32.toNatClampNeg x1)) / 2 * 2) = 0) → (vp_in ((mi 22 (Int32.toNatClampNeg x1)) / 2) 81) ∧ (((((mi 19 (Int32.toNatClampNeg ((mi 22 (Int32.toNatClampNeg x1)) / 2))) &&& 4) = 0) → Sg 19 0 [some (.ref 18), some (.int (mi 22 (Int32.toNatClampNeg x1))), none] [] mi ml (qv fun mi4 ml5 => Sg 17 76 [some (.ref 18), some (.int (x1 + 1)), none] [] mi4 ml5 (qi F))) ∧ (¬ (((mi 19 (Int32.toNatClampNeg ((mi 22 (Int32.toNatClampNeg x1)) / 2))) &&& 4) = 0) → F (mi 22 (Int32.toNatClampNeg x1)) mi ml))) ∧ (¬ (¬ ((mi 22 (Int32.toNatClampNeg x1)) - (mi 22 (Int32.toNatClampNeg x1)) / 2 * 2) = 0) → Sg 18 0 [some (.ref 18), some (.int (mi 22 (Int32.toNatClampNeg x1))), none] [] mi ml (qv fun mi7 ml8 => Sg 17 76 [some (.ref 18), some (.int (x1 + 1)), none] [] mi7 ml8 (qi F))))))) : Sg 17 76 [some (.ref 18), some (.int x1), none] [] mi ml (qi F) := by
  refine sg_ld f17_76 (v := .int x1) rfl rfl ?_
  refine sg_ld f17_77 (v := .ref 18) rfl rfl ?_
  refine sg_geti f17_78 rfl rfl (x := (mi 18 5)) rfl ?_
  refine sg_icmp f17_81 (fun c => ?_) (fun c => ?_)
  · have h := h.1 c
    refine sg_psh f17_138 (v := .int (-1)) (by decide) ?_
    exact sg_iret f17_139 pq17 rfl rfl ⟨_, rfl, h⟩
  · have h := h.2 c
    refine sg_ld f17_84 (v := .int x1) rfl rfl ?_
    refine sg_psh f17_85 (v := .int 162) (by decide) ?_
    refine sg_icmp f17_88 (fun c => ?_) (fun c => ?_)
    · have h := h.1 c
      refine sg_psh f17_138 (v := .int (-1)) (by decide) ?_
      exact sg_iret f17_139 pq17 rfl rfl ⟨_, rfl, h⟩
    · have h := h.2 c
      refine sg_ld f17_91 (v := .ref 18) rfl rfl ?_
      refine sg_getr f17_92 rfl rfl (w := 22) rfl ?_
      refine sg_ld f17_95 (v := .int x1) rfl rfl ?_
      obtain ⟨e1, h⟩ := h
      refine sg_iald f17_96 rfl e1 (x := (mi 22 (Int32.toNatClampNeg x1))) rfl ?_
      refine sg_st1 f17_97 (ls' := [some (.ref 18), some (.int x1), some (.int (mi 22 (Int32.toNatClampNeg x1)))]) rfl rfl rfl rfl ?_
      refine sg_ld f17_98 (v := .int (mi 22 (Int32.toNatClampNeg x1))) rfl rfl ?_
      refine sg_psh f17_99 (v := .int 2) (by decide) ?_
      refine sg_rem f17_100 (by decide) ?_
      refine sg_if f17_101 (fun c => ?_) (fun c => ?_)
      · have h := h.1 c
        refine sg_ld f17_112 (v := .ref 18) rfl rfl ?_
        refine sg_getr f17_113 rfl rfl (w := 19) rfl ?_
        refine sg_ld f17_116 (v := .int (mi 22 (Int32.toNatClampNeg x1))) rfl rfl ?_
        refine sg_psh f17_117 (v := .int 2) (by decide) ?_
        refine sg_div f17_118 (by decide) ?_
        obtain ⟨e2, h⟩ := h
        refine sg_iald f17_119 rfl e2 (x := (mi 19 (Int32.toNatClampNeg ((mi 22 (Int32.toNatClampNeg x1)) / 2)))) rfl ?_
        refine sg_psh f17_120 (v := .int 4) (by decide) ?_
        refine sg_bin f17_121 rfl ?_
        refine sg_if f17_122 (fun c => ?_) (fun c => ?_)
        · have h := h.1 c
          refine sg_ld f17_127 (v := .ref 18) rfl rfl ?_
          refine sg_ld f17_128 (v := .int (mi 22 (Int32.toNatClampNeg x1))) rfl rfl ?_
          refine sg_cV f17_129 (vs := [.int (mi 22 (Int32.toNatClampNeg x1))]) (r := 18) (rest := []) (en := [some (.ref 18), some (.int (mi 22 (Int32.toNatClampNeg x1))), none]) pq19 ⟨rfl, rfl⟩ rfl rfl rfl rfl rfl rfl h ?_
          intro _ mi4 ml5 h
          have h := gm_qv h
          refine sg_inc f17_132 (d := 1) (ls' := [some (.ref 18), some (.int (x1 + 1)), some (.int (mi 22 (Int32.toNatClampNeg x1)))]) rfl (by decide) rfl ?_
          refine sg_goto f17_135 ?_
          exact sg_drop [2] rfl h
        · have h := h.2 c
          refine sg_ld f17_125 (v := .int (mi 22 (Int32.toNatClampNeg x1))) rfl rfl ?_
          exact sg_iret f17_126 pq17 rfl rfl ⟨_, rfl, h⟩
      · have h := h.2 c
        refine sg_ld f17_104 (v := .ref 18) rfl rfl ?_
        refine sg_ld f17_105 (v := .int (mi 22 (Int32.toNatClampNeg x1))) rfl rfl ?_
        refine sg_cV f17_106 (vs := [.int (mi 22 (Int32.toNatClampNeg x1))]) (r := 18) (rest := []) (en := [some (.ref 18), some (.int (mi 22 (Int32.toNatClampNeg x1))), none]) pq18 ⟨rfl, rfl⟩ rfl rfl rfl rfl rfl rfl h ?_
        intro _ mi7 ml8 h
        have h := gm_qv h
        refine sg_goto f17_109 ?_
        refine sg_inc f17_132 (d := 1) (ls' := [some (.ref 18), some (.int (x1 + 1)), some (.int (mi 22 (Int32.toNatClampNeg x1)))]) rfl (by decide) rfl ?_
        refine sg_goto f17_135 ?_
        exact sg_drop [2] rfl h

/-! X1_goOnFromEntry (I)V -/
theorem fe18 (pc : Nat) : gm_fetch 18 pc = gm_find pc cd_18 := rfl
theorem f18_0 : gm_fetch 18 0 = some (1, .aload_n 0, 0, 0, 0, 0) := (fe18 0).trans rfl
theorem f18_1 : gm_fetch 18 1 = some (4, .getfield 15, 53, 1, 2, 0) := (fe18 1).trans rfl
theorem f18_4 : gm_fetch 18 4 = some (5, .iload_n 1, 0, 0, 0, 0) := (fe18 4).trans rfl
theorem f18_5 : gm_fetch 18 5 = some (6, .iconst 2, 0, 0, 0, 0) := (fe18 5).trans rfl
theorem f18_6 : gm_fetch 18 6 = some (7, .idiv, 0, 0, 0, 0) := (fe18 6).trans rfl
theorem f18_7 : gm_fetch 18 7 = some (8, .iaload, 0, 0, 0, 0) := (fe18 7).trans rfl
theorem f18_8 : gm_fetch 18 8 = some (9, .istore_n 2, 0, 0, 0, 0) := (fe18 8).trans rfl
theorem f18_9 : gm_fetch 18 9 = some (10, .iload_n 2, 0, 0, 0, 0) := (fe18 9).trans rfl
theorem f18_10 : gm_fetch 18 10 = some (12, .bipush (-3), 0, 0, 0, 0) := (fe18 10).trans rfl
theorem f18_12 : gm_fetch 18 12 = some (15, .if_icmp .ne 14, 0, 26, 0, 0) := (fe18 12).trans rfl
theorem f18_15 : gm_fetch 18 15 = some (16, .aload_n 0, 0, 0, 0, 0) := (fe18 15).trans rfl
theorem f18_16 : gm_fetch 18 16 = some (17, .iload_n 1, 0, 0, 0, 0) := (fe18 16).trans rfl
theorem f18_17 : gm_fetch 18 17 = some (18, .iconst 1, 0, 0, 0, 0) := (fe18 17).trans rfl
theorem f18_18 : gm_fetch 18 18 = some (19, .iadd, 0, 0, 0, 0) := (fe18 18).trans rfl
theorem f18_19 : gm_fetch 18 19 = some (20, .iload_n 1, 0, 0, 0, 0) := (fe18 19).trans rfl
theorem f18_20 : gm_fetch 18 20 = some (23, .invokevirtual 89, 69, 20, 0, 0) := (fe18 20).trans rfl
theorem f18_23 : gm_fetch 18 23 = some (26, .goto 18, 0, 41, 0, 0) := (fe18 23).trans rfl
theorem f18_26 : gm_fetch 18 26 = some (27, .iload_n 2, 0, 0, 0, 0) := (fe18 26).trans rfl
theorem f18_27 : gm_fetch 18 27 = some (28, .iconst (-1), 0, 0, 0, 0) := (fe18 27).trans rfl
theorem f18_28 : gm_fetch 18 28 = some (31, .if_icmp .eq 13, 0, 41, 0, 0) := (fe18 28).trans rfl
theorem f18_31 : gm_fetch 18 31 = some (32, .aload_n 0, 0, 0, 0, 0) := (fe18 31).trans rfl
theorem f18_32 : gm_fetch 18 32 = some (33, .iconst 2, 0, 0, 0, 0) := (fe18 32).trans rfl
theorem f18_33 : gm_fetch 18 33 = some (34, .iload_n 2, 0, 0, 0, 0) := (fe18 33).trans rfl
theorem f18_34 : gm_fetch 18 34 = some (35, .imul, 0, 0, 0, 0) := (fe18 34).trans rfl
theorem f18_35 : gm_fetch 18 35 = some (36, .iconst 1, 0, 0, 0, 0) := (fe18 35).trans rfl
theorem f18_36 : gm_fetch 18 36 = some (37, .iadd, 0, 0, 0, 0) := (fe18 36).trans rfl
theorem f18_37 : gm_fetch 18 37 = some (38, .iload_n 1, 0, 0, 0, 0) := (fe18 37).trans rfl
theorem f18_38 : gm_fetch 18 38 = some (41, .invokevirtual 89, 69, 20, 0, 0) := (fe18 38).trans rfl
theorem f18_41 : gm_fetch 18 41 = some (42, .return_, 0, 0, 0, 0) := (fe18 41).trans rfl
set_option maxRecDepth 10000 in
theorem rg18_0 {mi : Mi} {ml : Ml} {F : Mi → Ml → Prop} {x1 : Int32}  (h : (vp_in (x1 / 2) 81) ∧ (((¬ (mi 20 (Int32.toNatClampNeg (x1 / 2))) = (-3)) → (((mi 20 (Int32.toNatClampNeg (x1 / 2))) = (-1)) → F mi ml) ∧ (¬ ((mi 20 (Int32.toNatClampNeg (x1 / 2))) = (-1)) → Sg 20 0 [some (.ref 18), some (.int ((2 * (mi 20 (Int32.toNatClampNeg (x1 / 2)))) + 1)), some (.int x1)] [] mi ml (qv fun mi3 ml4 => F mi3 ml4))) ∧ (¬ (¬ (mi 20 (Int32.toNatClampNeg (x1 / 2))) = (-3)) → Sg 20 0 [some (.ref 18), some (.int (x1 + 1)), some (.int x1)] [] mi ml (qv fun mi6 ml7 => F mi6 ml7)))) : Sg 18 0 [some (.ref 18), some (.int x1), none] [] mi ml (qv F) := by
  refine sg_ld f18_0 (v := .ref 18) rfl rfl ?_
  refine sg_getr f18_1 rfl rfl (w := 20) rfl ?_
  refine sg_ld f18_4 (v := .int x1) rfl rfl ?_
  refine sg_psh f18_5 (v := .int 2) (by decide) ?_
  refine sg_div f18_6 (by decide) ?_
  obtain ⟨e1, h⟩ := h
  refine sg_iald f18_7 rfl e1 (x := (mi 20 (Int32.toNatClampNeg (x1 / 2)))) rfl ?_
  refine sg_st1 f18_8 (ls' := [some (.ref 18), some (.int x1), some (.int (mi 20 (Int32.toNatClampNeg (x1 / 2))))]) rfl rfl rfl rfl ?_
  refine sg_ld f18_9 (v := .int (mi 20 (Int32.toNatClampNeg (x1 / 2)))) rfl rfl ?_
  refine sg_psh f18_10 (v := .int (-3)) (by decide) ?_
  refine sg_icmp f18_12 (fun c => ?_) (fun c => ?_)
  · have h := h.1 c
    refine sg_ld f18_26 (v := .int (mi 20 (Int32.toNatClampNeg (x1 / 2)))) rfl rfl ?_
    refine sg_psh f18_27 (v := .int (-1)) (by decide) ?_
    refine sg_icmp f18_28 (fun c => ?_) (fun c => ?_)
    · have h := h.1 c
      exact sg_ret f18_41 pq18 rfl h
    · have h := h.2 c
      refine sg_ld f18_31 (v := .ref 18) rfl rfl ?_
      refine sg_psh f18_32 (v := .int 2) (by decide) ?_
      refine sg_ld f18_33 (v := .int (mi 20 (Int32.toNatClampNeg (x1 / 2)))) rfl rfl ?_
      refine sg_bin f18_34 rfl ?_
      refine sg_psh f18_35 (v := .int 1) (by decide) ?_
      refine sg_bin f18_36 rfl ?_
      refine sg_ld f18_37 (v := .int x1) rfl rfl ?_
      refine sg_cV f18_38 (vs := [.int ((2 * (mi 20 (Int32.toNatClampNeg (x1 / 2)))) + 1), .int x1]) (r := 18) (rest := []) (en := [some (.ref 18), some (.int ((2 * (mi 20 (Int32.toNatClampNeg (x1 / 2)))) + 1)), some (.int x1)]) pq20 ⟨rfl, rfl⟩ rfl rfl rfl rfl rfl rfl h ?_
      intro _ mi3 ml4 h
      have h := gm_qv h
      exact sg_ret f18_41 pq18 rfl h
  · have h := h.2 c
    refine sg_ld f18_15 (v := .ref 18) rfl rfl ?_
    refine sg_ld f18_16 (v := .int x1) rfl rfl ?_
    refine sg_psh f18_17 (v := .int 1) (by decide) ?_
    refine sg_bin f18_18 rfl ?_
    refine sg_ld f18_19 (v := .int x1) rfl rfl ?_
    refine sg_cV f18_20 (vs := [.int (x1 + 1), .int x1]) (r := 18) (rest := []) (en := [some (.ref 18), some (.int (x1 + 1)), some (.int x1)]) pq20 ⟨rfl, rfl⟩ rfl rfl rfl rfl rfl rfl h ?_
    intro _ mi6 ml7 h
    have h := gm_qv h
    refine sg_goto f18_23 ?_
    exact sg_ret f18_41 pq18 rfl h

/-! X1_goOnFromExit (I)V -/
theorem fe19 (pc : Nat) : gm_fetch 19 pc = gm_find pc cd_19 := rfl
theorem f19_0 : gm_fetch 19 0 = some (1, .iload_n 1, 0, 0, 0, 0) := (fe19 0).trans rfl
theorem f19_1 : gm_fetch 19 1 = some (2, .iconst 2, 0, 0, 0, 0) := (fe19 1).trans rfl
theorem f19_2 : gm_fetch 19 2 = some (3, .idiv, 0, 0, 0, 0) := (fe19 2).trans rfl
theorem f19_3 : gm_fetch 19 3 = some (4, .istore_n 2, 0, 0, 0, 0) := (fe19 3).trans rfl
theorem f19_4 : gm_fetch 19 4 = some (5, .aload_n 0, 0, 0, 0, 0) := (fe19 4).trans rfl
theorem f19_5 : gm_fetch 19 5 = some (8, .getfield 15, 53, 1, 2, 0) := (fe19 5).trans rfl
theorem f19_8 : gm_fetch 19 8 = some (9, .iload_n 2, 0, 0, 0, 0) := (fe19 8).trans rfl
theorem f19_9 : gm_fetch 19 9 = some (10, .iaload, 0, 0, 0, 0) := (fe19 9).trans rfl
theorem f19_10 : gm_fetch 19 10 = some (12, .bipush (-3), 0, 0, 0, 0) := (fe19 10).trans rfl
theorem f19_12 : gm_fetch 19 12 = some (15, .if_icmp .eq 11, 0, 23, 0, 0) := (fe19 12).trans rfl
theorem f19_15 : gm_fetch 19 15 = some (16, .aload_n 0, 0, 0, 0, 0) := (fe19 15).trans rfl
theorem f19_16 : gm_fetch 19 16 = some (17, .iload_n 1, 0, 0, 0, 0) := (fe19 16).trans rfl
theorem f19_17 : gm_fetch 19 17 = some (18, .iconst 1, 0, 0, 0, 0) := (fe19 17).trans rfl
theorem f19_18 : gm_fetch 19 18 = some (19, .isub, 0, 0, 0, 0) := (fe19 18).trans rfl
theorem f19_19 : gm_fetch 19 19 = some (20, .iload_n 1, 0, 0, 0, 0) := (fe19 19).trans rfl
theorem f19_20 : gm_fetch 19 20 = some (23, .invokevirtual 89, 69, 20, 0, 0) := (fe19 20).trans rfl
theorem f19_23 : gm_fetch 19 23 = some (24, .aload_n 0, 0, 0, 0, 0) := (fe19 23).trans rfl
theorem f19_24 : gm_fetch 19 24 = some (25, .iconst 2, 0, 0, 0, 0) := (fe19 24).trans rfl
theorem f19_25 : gm_fetch 19 25 = some (26, .iload_n 2, 0, 0, 0, 0) := (fe19 25).trans rfl
theorem f19_26 : gm_fetch 19 26 = some (27, .iconst 1, 0, 0, 0, 0) := (fe19 26).trans rfl
theorem f19_27 : gm_fetch 19 27 = some (28, .isub, 0, 0, 0, 0) := (fe19 27).trans rfl
theorem f19_28 : gm_fetch 19 28 = some (29, .imul, 0, 0, 0, 0) := (fe19 28).trans rfl
theorem f19_29 : gm_fetch 19 29 = some (30, .iload_n 1, 0, 0, 0, 0) := (fe19 29).trans rfl
theorem f19_30 : gm_fetch 19 30 = some (33, .invokevirtual 89, 69, 20, 0, 0) := (fe19 30).trans rfl
theorem f19_33 : gm_fetch 19 33 = some (34, .aload_n 0, 0, 0, 0, 0) := (fe19 33).trans rfl
theorem f19_34 : gm_fetch 19 34 = some (35, .iconst 2, 0, 0, 0, 0) := (fe19 34).trans rfl
theorem f19_35 : gm_fetch 19 35 = some (36, .iload_n 2, 0, 0, 0, 0) := (fe19 35).trans rfl
theorem f19_36 : gm_fetch 19 36 = some (37, .iconst 1, 0, 0, 0, 0) := (fe19 36).trans rfl
theorem f19_37 : gm_fetch 19 37 = some (38, .iadd, 0, 0, 0, 0) := (fe19 37).trans rfl
theorem f19_38 : gm_fetch 19 38 = some (39, .imul, 0, 0, 0, 0) := (fe19 38).trans rfl
theorem f19_39 : gm_fetch 19 39 = some (40, .iload_n 1, 0, 0, 0, 0) := (fe19 39).trans rfl
theorem f19_40 : gm_fetch 19 40 = some (43, .invokevirtual 89, 69, 20, 0, 0) := (fe19 40).trans rfl
theorem f19_43 : gm_fetch 19 43 = some (44, .aload_n 0, 0, 0, 0, 0) := (fe19 43).trans rfl
theorem f19_44 : gm_fetch 19 44 = some (45, .iconst 2, 0, 0, 0, 0) := (fe19 44).trans rfl
theorem f19_45 : gm_fetch 19 45 = some (46, .iload_n 2, 0, 0, 0, 0) := (fe19 45).trans rfl
theorem f19_46 : gm_fetch 19 46 = some (48, .bipush 9, 0, 0, 0, 0) := (fe19 46).trans rfl
theorem f19_48 : gm_fetch 19 48 = some (49, .isub, 0, 0, 0, 0) := (fe19 48).trans rfl
theorem f19_49 : gm_fetch 19 49 = some (50, .imul, 0, 0, 0, 0) := (fe19 49).trans rfl
theorem f19_50 : gm_fetch 19 50 = some (51, .iload_n 1, 0, 0, 0, 0) := (fe19 50).trans rfl
theorem f19_51 : gm_fetch 19 51 = some (54, .invokevirtual 89, 69, 20, 0, 0) := (fe19 51).trans rfl
theorem f19_54 : gm_fetch 19 54 = some (55, .aload_n 0, 0, 0, 0, 0) := (fe19 54).trans rfl
theorem f19_55 : gm_fetch 19 55 = some (56, .iconst 2, 0, 0, 0, 0) := (fe19 55).trans rfl
theorem f19_56 : gm_fetch 19 56 = some (57, .iload_n 2, 0, 0, 0, 0) := (fe19 56).trans rfl
theorem f19_57 : gm_fetch 19 57 = some (59, .bipush 9, 0, 0, 0, 0) := (fe19 57).trans rfl
theorem f19_59 : gm_fetch 19 59 = some (60, .iadd, 0, 0, 0, 0) := (fe19 59).trans rfl
theorem f19_60 : gm_fetch 19 60 = some (61, .imul, 0, 0, 0, 0) := (fe19 60).trans rfl
theorem f19_61 : gm_fetch 19 61 = some (62, .iload_n 1, 0, 0, 0, 0) := (fe19 61).trans rfl
theorem f19_62 : gm_fetch 19 62 = some (65, .invokevirtual 89, 69, 20, 0, 0) := (fe19 62).trans rfl
theorem f19_65 : gm_fetch 19 65 = some (66, .return_, 0, 0, 0, 0) := (fe19 65).trans rfl
set_option maxRecDepth 10000 in
theorem rg19_0 {mi : Mi} {ml : Ml} {F : Mi → Ml → Prop} {x1 : Int32}  (h : (vp_in (x1 / 2) 81) ∧ ((((mi 20 (Int32.toNatClampNeg (x1 / 2))) = (-3)) → Sg 19 23 [some (.ref 18), some (.int x1), some (.int (x1 / 2))] [] mi ml (qv F)) ∧ (¬ ((mi 20 (Int32.toNatClampNeg (x1 / 2))) = (-3)) → Sg 20 0 [some (.ref 18), some (.int (x1 - 1)), some (.int x1)] [] mi ml (qv fun mi3 ml4 => Sg 19 23 [some (.ref 18), some (.int x1), some (.int (x1 / 2))] [] mi3 ml4 (qv F))))) : Sg 19 0 [some (.ref 18), some (.int x1), none] [] mi ml (qv F) := by
  refine sg_ld f19_0 (v := .int x1) rfl rfl ?_
  refine sg_psh f19_1 (v := .int 2) (by decide) ?_
  refine sg_div f19_2 (by decide) ?_
  refine sg_st1 f19_3 (ls' := [some (.ref 18), some (.int x1), some (.int (x1 / 2))]) rfl rfl rfl rfl ?_
  refine sg_ld f19_4 (v := .ref 18) rfl rfl ?_
  refine sg_getr f19_5 rfl rfl (w := 20) rfl ?_
  refine sg_ld f19_8 (v := .int (x1 / 2)) rfl rfl ?_
  obtain ⟨e1, h⟩ := h
  refine sg_iald f19_9 rfl e1 (x := (mi 20 (Int32.toNatClampNeg (x1 / 2)))) rfl ?_
  refine sg_psh f19_10 (v := .int (-3)) (by decide) ?_
  refine sg_icmp f19_12 (fun c => ?_) (fun c => ?_)
  · have h := h.1 c
    exact h
  · have h := h.2 c
    refine sg_ld f19_15 (v := .ref 18) rfl rfl ?_
    refine sg_ld f19_16 (v := .int x1) rfl rfl ?_
    refine sg_psh f19_17 (v := .int 1) (by decide) ?_
    refine sg_bin f19_18 rfl ?_
    refine sg_ld f19_19 (v := .int x1) rfl rfl ?_
    refine sg_cV f19_20 (vs := [.int (x1 - 1), .int x1]) (r := 18) (rest := []) (en := [some (.ref 18), some (.int (x1 - 1)), some (.int x1)]) pq20 ⟨rfl, rfl⟩ rfl rfl rfl rfl rfl rfl h ?_
    intro _ mi3 ml4 h
    have h := gm_qv h
    exact h

set_option maxRecDepth 10000 in
theorem rg19_23 {mi : Mi} {ml : Ml} {F : Mi → Ml → Prop} {x1 : Int32} {x2 : Int32}  (h : Sg 20 0 [some (.ref 18), some (.int (2 * (x2 - 1))), some (.int x1)] [] mi ml (qv fun mi2 ml3 => Sg 20 0 [some (.ref 18), some (.int (2 * (x2 + 1))), some (.int x1)] [] mi2 ml3 (qv fun mi5 ml6 => Sg 20 0 [some (.ref 18), some (.int (2 * (x2 - 9))), some (.int x1)] [] mi5 ml6 (qv fun mi8 ml9 => Sg 20 0 [some (.ref 18), some (.int (2 * (x2 + 9))), some (.int x1)] [] mi8 ml9 (qv fun mi11 ml12 => F mi11 ml12))))) : Sg 19 23 [some (.ref 18), some (.int x1), some (.int x2)] [] mi ml (qv F) := by
  refine sg_ld f19_23 (v := .ref 18) rfl rfl ?_
  refine sg_psh f19_24 (v := .int 2) (by decide) ?_
  refine sg_ld f19_25 (v := .int x2) rfl rfl ?_
  refine sg_psh f19_26 (v := .int 1) (by decide) ?_
  refine sg_bin f19_27 rfl ?_
  refine sg_bin f19_28 rfl ?_
  refine sg_ld f19_29 (v := .int x1) rfl rfl ?_
  refine sg_cV f19_30 (vs := [.int (2 * (x2 - 1)), .int x1]) (r := 18) (rest := []) (en := [some (.ref 18), some (.int (2 * (x2 - 1))), some (.int x1)]) pq20 ⟨rfl, rfl⟩ rfl rfl rfl rfl rfl rfl h ?_
  intro _ mi2 ml3 h
  have h := gm_qv h
  refine sg_ld f19_33 (v := .ref 18) rfl rfl ?_
  refine sg_psh f19_34 (v := .int 2) (by decide) ?_
  refine sg_ld f19_35 (v := .int x2) rfl rfl ?_
  refine sg_psh f19_36 (v := .int 1) (by decide) ?_
  refine sg_bin f19_37 rfl ?_
  refine sg_bin f19_38 rfl ?_
  refine sg_ld f19_39 (v := .int x1) rfl rfl ?_
  refine sg_cV f19_40 (vs := [.int (2 * (x2 + 1)), .int x1]) (r := 18) (rest := []) (en := [some (.ref 18), some (.int (2 * (x2 + 1))), some (.int x1)]) pq20 ⟨rfl, rfl⟩ rfl rfl rfl rfl rfl rfl h ?_
  intro _ mi5 ml6 h
  have h := gm_qv h
  refine sg_ld f19_43 (v := .ref 18) rfl rfl ?_
  refine sg_psh f19_44 (v := .int 2) (by decide) ?_
  refine sg_ld f19_45 (v := .int x2) rfl rfl ?_
  refine sg_psh f19_46 (v := .int 9) (by decide) ?_
  refine sg_bin f19_48 rfl ?_
  refine sg_bin f19_49 rfl ?_
  refine sg_ld f19_50 (v := .int x1) rfl rfl ?_
  refine sg_cV f19_51 (vs := [.int (2 * (x2 - 9)), .int x1]) (r := 18) (rest := []) (en := [some (.ref 18), some (.int (2 * (x2 - 9))), some (.int x1)]) pq20 ⟨rfl, rfl⟩ rfl rfl rfl rfl rfl rfl h ?_
  intro _ mi8 ml9 h
  have h := gm_qv h
  refine sg_ld f19_54 (v := .ref 18) rfl rfl ?_
  refine sg_psh f19_55 (v := .int 2) (by decide) ?_
  refine sg_ld f19_56 (v := .int x2) rfl rfl ?_
  refine sg_psh f19_57 (v := .int 9) (by decide) ?_
  refine sg_bin f19_59 rfl ?_
  refine sg_bin f19_60 rfl ?_
  refine sg_ld f19_61 (v := .int x1) rfl rfl ?_
  refine sg_cV f19_62 (vs := [.int (2 * (x2 + 9)), .int x1]) (r := 18) (rest := []) (en := [some (.ref 18), some (.int (2 * (x2 + 9))), some (.int x1)]) pq20 ⟨rfl, rfl⟩ rfl rfl rfl rfl rfl rfl h ?_
  intro _ mi11 ml12 h
  have h := gm_qv h
  exact sg_ret f19_65 pq19 rfl h

/-! X1_reach (II)V -/
theorem fe20 (pc : Nat) : gm_fetch 20 pc = gm_find pc cd_20 := rfl
theorem f20_0 : gm_fetch 20 0 = some (1, .iload_n 1, 0, 0, 0, 0) := (fe20 0).trans rfl
theorem f20_1 : gm_fetch 20 1 = some (4, .ifCond .lt 58, 0, 59, 0, 0) := (fe20 1).trans rfl
theorem f20_4 : gm_fetch 20 4 = some (5, .iload_n 1, 0, 0, 0, 0) := (fe20 4).trans rfl
theorem f20_5 : gm_fetch 20 5 = some (8, .sipush 162, 0, 0, 0, 0) := (fe20 5).trans rfl
theorem f20_8 : gm_fetch 20 8 = some (11, .if_icmp .ge 51, 0, 59, 0, 0) := (fe20 8).trans rfl
theorem f20_11 : gm_fetch 20 11 = some (12, .aload_n 0, 0, 0, 0, 0) := (fe20 11).trans rfl
theorem f20_12 : gm_fetch 20 12 = some (15, .getfield 86, 56, 1, 5, 0) := (fe20 12).trans rfl
theorem f20_15 : gm_fetch 20 15 = some (18, .sipush 162, 0, 0, 0, 0) := (fe20 15).trans rfl
theorem f20_18 : gm_fetch 20 18 = some (21, .if_icmp .ge 41, 0, 59, 0, 0) := (fe20 18).trans rfl
theorem f20_21 : gm_fetch 20 21 = some (22, .aload_n 0, 0, 0, 0, 0) := (fe20 21).trans rfl
theorem f20_22 : gm_fetch 20 22 = some (25, .getfield 18, 54, 1, 3, 0) := (fe20 22).trans rfl
theorem f20_25 : gm_fetch 20 25 = some (26, .iload_n 1, 0, 0, 0, 0) := (fe20 25).trans rfl
theorem f20_26 : gm_fetch 20 26 = some (27, .iaload, 0, 0, 0, 0) := (fe20 26).trans rfl
theorem f20_27 : gm_fetch 20 27 = some (29, .bipush (-2), 0, 0, 0, 0) := (fe20 27).trans rfl
theorem f20_29 : gm_fetch 20 29 = some (32, .if_icmp .ne 30, 0, 59, 0, 0) := (fe20 29).trans rfl
theorem f20_32 : gm_fetch 20 32 = some (33, .aload_n 0, 0, 0, 0, 0) := (fe20 32).trans rfl
theorem f20_33 : gm_fetch 20 33 = some (36, .getfield 18, 54, 1, 3, 0) := (fe20 33).trans rfl
theorem f20_36 : gm_fetch 20 36 = some (37, .iload_n 1, 0, 0, 0, 0) := (fe20 36).trans rfl
theorem f20_37 : gm_fetch 20 37 = some (38, .iload_n 2, 0, 0, 0, 0) := (fe20 37).trans rfl
theorem f20_38 : gm_fetch 20 38 = some (39, .iastore, 0, 0, 0, 0) := (fe20 38).trans rfl
theorem f20_39 : gm_fetch 20 39 = some (40, .aload_n 0, 0, 0, 0, 0) := (fe20 39).trans rfl
theorem f20_40 : gm_fetch 20 40 = some (43, .getfield 21, 55, 1, 4, 0) := (fe20 40).trans rfl
theorem f20_43 : gm_fetch 20 43 = some (44, .aload_n 0, 0, 0, 0, 0) := (fe20 43).trans rfl
theorem f20_44 : gm_fetch 20 44 = some (47, .getfield 86, 56, 1, 5, 0) := (fe20 44).trans rfl
theorem f20_47 : gm_fetch 20 47 = some (48, .iload_n 1, 0, 0, 0, 0) := (fe20 47).trans rfl
theorem f20_48 : gm_fetch 20 48 = some (49, .iastore, 0, 0, 0, 0) := (fe20 48).trans rfl
theorem f20_49 : gm_fetch 20 49 = some (50, .aload_n 0, 0, 0, 0, 0) := (fe20 49).trans rfl
theorem f20_50 : gm_fetch 20 50 = some (51, .dup, 0, 0, 0, 0) := (fe20 50).trans rfl
theorem f20_51 : gm_fetch 20 51 = some (54, .getfield 86, 56, 1, 5, 0) := (fe20 51).trans rfl
theorem f20_54 : gm_fetch 20 54 = some (55, .iconst 1, 0, 0, 0, 0) := (fe20 54).trans rfl
theorem f20_55 : gm_fetch 20 55 = some (56, .iadd, 0, 0, 0, 0) := (fe20 55).trans rfl
theorem f20_56 : gm_fetch 20 56 = some (59, .putfield 86, 56, 1, 5, 0) := (fe20 56).trans rfl
theorem f20_59 : gm_fetch 20 59 = some (60, .return_, 0, 0, 0, 0) := (fe20 59).trans rfl
set_option maxRecDepth 10000 in
theorem rg20_0 {mi : Mi} {ml : Ml} {F : Mi → Ml → Prop} {x1 : Int32} {x2 : Int32}  (h : ((x1 < 0) → F mi ml) ∧ (¬ (x1 < 0) → ((162 ≤ x1) → F mi ml) ∧ (¬ (162 ≤ x1) → ((162 ≤ (mi 18 5)) → F mi ml) ∧ (¬ (162 ≤ (mi 18 5)) → (vp_in x1 162) ∧ (((¬ (mi 21 (Int32.toNatClampNeg x1)) = (-2)) → F mi ml) ∧ (¬ (¬ (mi 21 (Int32.toNatClampNeg x1)) = (-2)) → (vp_in (mi 18 5) 162) ∧ (F (va_up (va_up (va_up mi 21 (va_up (mi 21) (Int32.toNatClampNeg x1) x2)) 22 (va_up (mi 22) (Int32.toNatClampNeg (mi 18 5)) x1)) 18 (va_up (mi 18) 5 ((mi 18 5) + 1))) ml))))))) : Sg 20 0 [some (.ref 18), some (.int x1), some (.int x2)] [] mi ml (qv F) := by
  refine sg_ld f20_0 (v := .int x1) rfl rfl ?_
  refine sg_if f20_1 (fun c => ?_) (fun c => ?_)
  · have h := h.1 c
    exact sg_ret f20_59 pq20 rfl h
  · have h := h.2 c
    refine sg_ld f20_4 (v := .int x1) rfl rfl ?_
    refine sg_psh f20_5 (v := .int 162) (by decide) ?_
    refine sg_icmp f20_8 (fun c => ?_) (fun c => ?_)
    · have h := h.1 c
      exact sg_ret f20_59 pq20 rfl h
    · have h := h.2 c
      refine sg_ld f20_11 (v := .ref 18) rfl rfl ?_
      refine sg_geti f20_12 rfl rfl (x := (mi 18 5)) rfl ?_
      refine sg_psh f20_15 (v := .int 162) (by decide) ?_
      refine sg_icmp f20_18 (fun c => ?_) (fun c => ?_)
      · have h := h.1 c
        exact sg_ret f20_59 pq20 rfl h
      · have h := h.2 c
        refine sg_ld f20_21 (v := .ref 18) rfl rfl ?_
        refine sg_getr f20_22 rfl rfl (w := 21) rfl ?_
        refine sg_ld f20_25 (v := .int x1) rfl rfl ?_
        obtain ⟨e1, h⟩ := h
        refine sg_iald f20_26 rfl e1 (x := (mi 21 (Int32.toNatClampNeg x1))) rfl ?_
        refine sg_psh f20_27 (v := .int (-2)) (by decide) ?_
        refine sg_icmp f20_29 (fun c => ?_) (fun c => ?_)
        · have h := h.1 c
          exact sg_ret f20_59 pq20 rfl h
        · have h := h.2 c
          refine sg_ld f20_32 (v := .ref 18) rfl rfl ?_
          refine sg_getr f20_33 rfl rfl (w := 21) rfl ?_
          refine sg_ld f20_36 (v := .int x1) rfl rfl ?_
          refine sg_ld f20_37 (v := .int x2) rfl rfl ?_
          refine sg_iast f20_38 rfl e1 ?_
          refine sg_ld f20_39 (v := .ref 18) rfl rfl ?_
          refine sg_getr f20_40 rfl rfl (w := 22) rfl ?_
          refine sg_ld f20_43 (v := .ref 18) rfl rfl ?_
          refine sg_geti f20_44 rfl rfl (x := (mi 18 5)) rfl ?_
          refine sg_ld f20_47 (v := .int x1) rfl rfl ?_
          obtain ⟨e2, h⟩ := h
          refine sg_iast f20_48 rfl e2 ?_
          refine sg_ld f20_49 (v := .ref 18) rfl rfl ?_
          refine sg_dup f20_50 rfl ?_
          refine sg_geti f20_51 rfl rfl (x := (mi 18 5)) rfl ?_
          refine sg_psh f20_54 (v := .int 1) (by decide) ?_
          refine sg_bin f20_55 rfl ?_
          refine sg_puti f20_56 rfl rfl rfl (fun hz => by cases hz) ?_
          exact sg_ret f20_59 pq20 rfl h

/-! X1_addChain (I)V -/
theorem fe21 (pc : Nat) : gm_fetch 21 pc = gm_find pc cd_21 := rfl
theorem f21_0 : gm_fetch 21 0 = some (1, .iload_n 1, 0, 0, 0, 0) := (fe21 0).trans rfl
theorem f21_1 : gm_fetch 21 1 = some (2, .istore_n 2, 0, 0, 0, 0) := (fe21 1).trans rfl
theorem f21_2 : gm_fetch 21 2 = some (3, .iconst 0, 0, 0, 0, 0) := (fe21 2).trans rfl
theorem f21_3 : gm_fetch 21 3 = some (4, .istore_n 3, 0, 0, 0, 0) := (fe21 3).trans rfl
theorem f21_4 : gm_fetch 21 4 = some (5, .iload_n 3, 0, 0, 0, 0) := (fe21 4).trans rfl
theorem f21_5 : gm_fetch 21 5 = some (8, .sipush 162, 0, 0, 0, 0) := (fe21 5).trans rfl
theorem f21_8 : gm_fetch 21 8 = some (11, .if_icmp .ge 65, 0, 73, 0, 0) := (fe21 8).trans rfl
theorem f21_11 : gm_fetch 21 11 = some (12, .iload_n 2, 0, 0, 0, 0) := (fe21 11).trans rfl
theorem f21_12 : gm_fetch 21 12 = some (15, .ifCond .lt 61, 0, 73, 0, 0) := (fe21 12).trans rfl
theorem f21_15 : gm_fetch 21 15 = some (16, .aload_n 0, 0, 0, 0, 0) := (fe21 15).trans rfl
theorem f21_16 : gm_fetch 21 16 = some (19, .getfield 18, 54, 1, 3, 0) := (fe21 16).trans rfl
theorem f21_19 : gm_fetch 21 19 = some (20, .iload_n 2, 0, 0, 0, 0) := (fe21 19).trans rfl
theorem f21_20 : gm_fetch 21 20 = some (21, .iaload, 0, 0, 0, 0) := (fe21 20).trans rfl
theorem f21_21 : gm_fetch 21 21 = some (23, .istore 4, 0, 0, 0, 0) := (fe21 21).trans rfl
theorem f21_23 : gm_fetch 21 23 = some (24, .iload_n 2, 0, 0, 0, 0) := (fe21 23).trans rfl
theorem f21_24 : gm_fetch 21 24 = some (25, .iconst 2, 0, 0, 0, 0) := (fe21 24).trans rfl
theorem f21_25 : gm_fetch 21 25 = some (26, .irem, 0, 0, 0, 0) := (fe21 25).trans rfl
theorem f21_26 : gm_fetch 21 26 = some (29, .ifCond .ne 38, 0, 64, 0, 0) := (fe21 26).trans rfl
theorem f21_29 : gm_fetch 21 29 = some (30, .aload_n 0, 0, 0, 0, 0) := (fe21 29).trans rfl
theorem f21_30 : gm_fetch 21 30 = some (33, .getfield 15, 53, 1, 2, 0) := (fe21 30).trans rfl
theorem f21_33 : gm_fetch 21 33 = some (34, .iload_n 2, 0, 0, 0, 0) := (fe21 33).trans rfl
theorem f21_34 : gm_fetch 21 34 = some (35, .iconst 2, 0, 0, 0, 0) := (fe21 34).trans rfl
theorem f21_35 : gm_fetch 21 35 = some (36, .idiv, 0, 0, 0, 0) := (fe21 35).trans rfl
theorem f21_36 : gm_fetch 21 36 = some (38, .iload 4, 0, 0, 0, 0) := (fe21 36).trans rfl
theorem f21_38 : gm_fetch 21 38 = some (39, .iconst (-1), 0, 0, 0, 0) := (fe21 38).trans rfl
theorem f21_39 : gm_fetch 21 39 = some (42, .if_icmp .ne 7, 0, 46, 0, 0) := (fe21 39).trans rfl
theorem f21_42 : gm_fetch 21 42 = some (43, .iconst (-1), 0, 0, 0, 0) := (fe21 42).trans rfl
theorem f21_43 : gm_fetch 21 43 = some (46, .goto 20, 0, 63, 0, 0) := (fe21 43).trans rfl
theorem f21_46 : gm_fetch 21 46 = some (48, .iload 4, 0, 0, 0, 0) := (fe21 46).trans rfl
theorem f21_48 : gm_fetch 21 48 = some (49, .iload_n 2, 0, 0, 0, 0) := (fe21 48).trans rfl
theorem f21_49 : gm_fetch 21 49 = some (50, .iconst 1, 0, 0, 0, 0) := (fe21 49).trans rfl
theorem f21_50 : gm_fetch 21 50 = some (51, .iadd, 0, 0, 0, 0) := (fe21 50).trans rfl
theorem f21_51 : gm_fetch 21 51 = some (54, .if_icmp .ne 8, 0, 59, 0, 0) := (fe21 51).trans rfl
theorem f21_54 : gm_fetch 21 54 = some (56, .bipush (-3), 0, 0, 0, 0) := (fe21 54).trans rfl
theorem f21_56 : gm_fetch 21 56 = some (59, .goto 7, 0, 63, 0, 0) := (fe21 56).trans rfl
theorem f21_59 : gm_fetch 21 59 = some (61, .iload 4, 0, 0, 0, 0) := (fe21 59).trans rfl
theorem f21_61 : gm_fetch 21 61 = some (62, .iconst 2, 0, 0, 0, 0) := (fe21 61).trans rfl
theorem f21_62 : gm_fetch 21 62 = some (63, .idiv, 0, 0, 0, 0) := (fe21 62).trans rfl
theorem f21_63 : gm_fetch 21 63 = some (64, .iastore, 0, 0, 0, 0) := (fe21 63).trans rfl
theorem f21_64 : gm_fetch 21 64 = some (66, .iload 4, 0, 0, 0, 0) := (fe21 64).trans rfl
theorem f21_66 : gm_fetch 21 66 = some (67, .istore_n 2, 0, 0, 0, 0) := (fe21 66).trans rfl
theorem f21_67 : gm_fetch 21 67 = some (70, .iinc 3 1, 0, 0, 0, 0) := (fe21 67).trans rfl
theorem f21_70 : gm_fetch 21 70 = some (73, .goto (-66), 0, 4, 0, 0) := (fe21 70).trans rfl
theorem f21_73 : gm_fetch 21 73 = some (74, .return_, 0, 0, 0, 0) := (fe21 73).trans rfl
set_option maxRecDepth 10000 in
theorem rg21_0 {mi : Mi} {ml : Ml} {F : Mi → Ml → Prop} {x1 : Int32}  (h : Sg 21 4 [some (.ref 18), some (.int x1), some (.int x1), some (.int 0), none] [] mi ml (qv F)) : Sg 21 0 [some (.ref 18), some (.int x1), none, none, none] [] mi ml (qv F) := by
  refine sg_ld f21_0 (v := .int x1) rfl rfl ?_
  refine sg_st1 f21_1 (ls' := [some (.ref 18), some (.int x1), some (.int x1), none, none]) rfl rfl rfl rfl ?_
  refine sg_psh f21_2 (v := .int 0) (by decide) ?_
  refine sg_st1 f21_3 (ls' := [some (.ref 18), some (.int x1), some (.int x1), some (.int 0), none]) rfl rfl rfl rfl ?_
  exact h

set_option maxRecDepth 10000 in
theorem rg21_4 {mi : Mi} {ml : Ml} {F : Mi → Ml → Prop} {x1 : Int32} {x2 : Int32} {x3 : Int32}  (h : ((162 ≤ x3) → F mi ml) ∧ (¬ (162 ≤ x3) → ((x2 < 0) → F mi ml) ∧ (¬ (x2 < 0) → (vp_in x2 162) ∧ (((¬ (x2 - x2 / 2 * 2) = 0) → Sg 21 4 [some (.ref 18), some (.int x1), some (.int (mi 21 (Int32.toNatClampNeg x2))), some (.int (x3 + 1)), none] [] mi ml (qv F)) ∧ (¬ (¬ (x2 - x2 / 2 * 2) = 0) → ((¬ (mi 21 (Int32.toNatClampNeg x2)) = (-1)) → ((¬ (mi 21 (Int32.toNatClampNeg x2)) = (x2 + 1)) → (vp_in (x2 / 2) 81) ∧ (Sg 21 4 [some (.ref 18), some (.int x1), some (.int (mi 21 (Int32.toNatClampNeg x2))), some (.int (x3 + 1)), none] [] (va_up mi 20 (va_up (mi 20) (Int32.toNatClampNeg (x2 / 2)) ((mi 21 (Int32.toNatClampNeg x2)) / 2))) ml (qv F))) ∧ (¬ (¬ (mi 21 (Int32.toNatClampNeg x2)) = (x2 + 1)) → (vp_in (x2 / 2) 81) ∧ (Sg 21 4 [some (.ref 18), some (.int x1), some (.int (mi 21 (Int32.toNatClampNeg x2))), some (.int (x3 + 1)), none] [] (va_up mi 20 (va_up (mi 20) (Int32.toNatClampNeg (x2 / 2)) (-3))) ml (qv F)))) ∧ (¬ (¬ (mi 21 (Int32.toNatClampNeg x2)) = (-1)) → (vp_in (x2 / 2) 81) ∧ (Sg 21 4 [some (.ref 18), some (.int x1), some (.int (mi 21 (Int32.toNatClampNeg x2))), some (.int (x3 + 1)), none] [] (va_up mi 20 (va_up (mi 20) (Int32.toNatClampNeg (x2 / 2)) (-1))) ml (qv F)))))))) : Sg 21 4 [some (.ref 18), some (.int x1), some (.int x2), some (.int x3), none] [] mi ml (qv F) := by
  refine sg_ld f21_4 (v := .int x3) rfl rfl ?_
  refine sg_psh f21_5 (v := .int 162) (by decide) ?_
  refine sg_icmp f21_8 (fun c => ?_) (fun c => ?_)
  · have h := h.1 c
    exact sg_ret f21_73 pq21 rfl h
  · have h := h.2 c
    refine sg_ld f21_11 (v := .int x2) rfl rfl ?_
    refine sg_if f21_12 (fun c => ?_) (fun c => ?_)
    · have h := h.1 c
      exact sg_ret f21_73 pq21 rfl h
    · have h := h.2 c
      refine sg_ld f21_15 (v := .ref 18) rfl rfl ?_
      refine sg_getr f21_16 rfl rfl (w := 21) rfl ?_
      refine sg_ld f21_19 (v := .int x2) rfl rfl ?_
      obtain ⟨e1, h⟩ := h
      refine sg_iald f21_20 rfl e1 (x := (mi 21 (Int32.toNatClampNeg x2))) rfl ?_
      refine sg_st1 f21_21 (ls' := [some (.ref 18), some (.int x1), some (.int x2), some (.int x3), some (.int (mi 21 (Int32.toNatClampNeg x2)))]) rfl rfl rfl rfl ?_
      refine sg_ld f21_23 (v := .int x2) rfl rfl ?_
      refine sg_psh f21_24 (v := .int 2) (by decide) ?_
      refine sg_rem f21_25 (by decide) ?_
      refine sg_if f21_26 (fun c => ?_) (fun c => ?_)
      · have h := h.1 c
        refine sg_ld f21_64 (v := .int (mi 21 (Int32.toNatClampNeg x2))) rfl rfl ?_
        refine sg_st1 f21_66 (ls' := [some (.ref 18), some (.int x1), some (.int (mi 21 (Int32.toNatClampNeg x2))), some (.int x3), some (.int (mi 21 (Int32.toNatClampNeg x2)))]) rfl rfl rfl rfl ?_
        refine sg_inc f21_67 (d := 1) (ls' := [some (.ref 18), some (.int x1), some (.int (mi 21 (Int32.toNatClampNeg x2))), some (.int (x3 + 1)), some (.int (mi 21 (Int32.toNatClampNeg x2)))]) rfl (by decide) rfl ?_
        refine sg_goto f21_70 ?_
        exact sg_drop [4] rfl h
      · have h := h.2 c
        refine sg_ld f21_29 (v := .ref 18) rfl rfl ?_
        refine sg_getr f21_30 rfl rfl (w := 20) rfl ?_
        refine sg_ld f21_33 (v := .int x2) rfl rfl ?_
        refine sg_psh f21_34 (v := .int 2) (by decide) ?_
        refine sg_div f21_35 (by decide) ?_
        refine sg_ld f21_36 (v := .int (mi 21 (Int32.toNatClampNeg x2))) rfl rfl ?_
        refine sg_psh f21_38 (v := .int (-1)) (by decide) ?_
        refine sg_icmp f21_39 (fun c => ?_) (fun c => ?_)
        · have h := h.1 c
          refine sg_ld f21_46 (v := .int (mi 21 (Int32.toNatClampNeg x2))) rfl rfl ?_
          refine sg_ld f21_48 (v := .int x2) rfl rfl ?_
          refine sg_psh f21_49 (v := .int 1) (by decide) ?_
          refine sg_bin f21_50 rfl ?_
          refine sg_icmp f21_51 (fun c => ?_) (fun c => ?_)
          · have h := h.1 c
            refine sg_ld f21_59 (v := .int (mi 21 (Int32.toNatClampNeg x2))) rfl rfl ?_
            refine sg_psh f21_61 (v := .int 2) (by decide) ?_
            refine sg_div f21_62 (by decide) ?_
            obtain ⟨e2, h⟩ := h
            refine sg_iast f21_63 rfl e2 ?_
            refine sg_ld f21_64 (v := .int (mi 21 (Int32.toNatClampNeg x2))) rfl rfl ?_
            refine sg_st1 f21_66 (ls' := [some (.ref 18), some (.int x1), some (.int (mi 21 (Int32.toNatClampNeg x2))), some (.int x3), some (.int (mi 21 (Int32.toNatClampNeg x2)))]) rfl rfl rfl rfl ?_
            refine sg_inc f21_67 (d := 1) (ls' := [some (.ref 18), some (.int x1), some (.int (mi 21 (Int32.toNatClampNeg x2))), some (.int (x3 + 1)), some (.int (mi 21 (Int32.toNatClampNeg x2)))]) rfl (by decide) rfl ?_
            refine sg_goto f21_70 ?_
            exact sg_drop [4] rfl h
          · have h := h.2 c
            refine sg_psh f21_54 (v := .int (-3)) (by decide) ?_
            refine sg_goto f21_56 ?_
            obtain ⟨e3, h⟩ := h
            refine sg_iast f21_63 rfl e3 ?_
            refine sg_ld f21_64 (v := .int (mi 21 (Int32.toNatClampNeg x2))) rfl rfl ?_
            refine sg_st1 f21_66 (ls' := [some (.ref 18), some (.int x1), some (.int (mi 21 (Int32.toNatClampNeg x2))), some (.int x3), some (.int (mi 21 (Int32.toNatClampNeg x2)))]) rfl rfl rfl rfl ?_
            refine sg_inc f21_67 (d := 1) (ls' := [some (.ref 18), some (.int x1), some (.int (mi 21 (Int32.toNatClampNeg x2))), some (.int (x3 + 1)), some (.int (mi 21 (Int32.toNatClampNeg x2)))]) rfl (by decide) rfl ?_
            refine sg_goto f21_70 ?_
            exact sg_drop [4] rfl h
        · have h := h.2 c
          refine sg_psh f21_42 (v := .int (-1)) (by decide) ?_
          refine sg_goto f21_43 ?_
          obtain ⟨e4, h⟩ := h
          refine sg_iast f21_63 rfl e4 ?_
          refine sg_ld f21_64 (v := .int (mi 21 (Int32.toNatClampNeg x2))) rfl rfl ?_
          refine sg_st1 f21_66 (ls' := [some (.ref 18), some (.int x1), some (.int (mi 21 (Int32.toNatClampNeg x2))), some (.int x3), some (.int (mi 21 (Int32.toNatClampNeg x2)))]) rfl rfl rfl rfl ?_
          refine sg_inc f21_67 (d := 1) (ls' := [some (.ref 18), some (.int x1), some (.int (mi 21 (Int32.toNatClampNeg x2))), some (.int (x3 + 1)), some (.int (mi 21 (Int32.toNatClampNeg x2)))]) rfl (by decide) rfl ?_
          refine sg_goto f21_70 ?_
          exact sg_drop [4] rfl h

/-! X1_cellsNotPassed ()J -/
theorem fe22 (pc : Nat) : gm_fetch 22 pc = gm_find pc cd_22 := rfl
theorem f22_0 : gm_fetch 22 0 = some (1, .lconst 0, 0, 0, 0, 0) := (fe22 0).trans rfl
theorem f22_1 : gm_fetch 22 1 = some (2, .lstore_n 1, 0, 0, 0, 0) := (fe22 1).trans rfl
theorem f22_2 : gm_fetch 22 2 = some (3, .iconst 0, 0, 0, 0, 0) := (fe22 2).trans rfl
theorem f22_3 : gm_fetch 22 3 = some (4, .istore_n 3, 0, 0, 0, 0) := (fe22 3).trans rfl
theorem f22_4 : gm_fetch 22 4 = some (5, .iload_n 3, 0, 0, 0, 0) := (fe22 4).trans rfl
theorem f22_5 : gm_fetch 22 5 = some (6, .aload_n 0, 0, 0, 0, 0) := (fe22 5).trans rfl
theorem f22_6 : gm_fetch 22 6 = some (9, .getfield 24, 51, 1, 0, 0) := (fe22 6).trans rfl
theorem f22_9 : gm_fetch 22 9 = some (12, .getfield 66, 3, 0, 0, 0) := (fe22 9).trans rfl
theorem f22_12 : gm_fetch 22 12 = some (15, .if_icmp .ge 81, 0, 93, 0, 0) := (fe22 12).trans rfl
theorem f22_15 : gm_fetch 22 15 = some (16, .iconst 0, 0, 0, 0, 0) := (fe22 15).trans rfl
theorem f22_16 : gm_fetch 22 16 = some (18, .istore 4, 0, 0, 0, 0) := (fe22 16).trans rfl
theorem f22_18 : gm_fetch 22 18 = some (20, .iload 4, 0, 0, 0, 0) := (fe22 18).trans rfl
theorem f22_20 : gm_fetch 22 20 = some (21, .aload_n 0, 0, 0, 0, 0) := (fe22 20).trans rfl
theorem f22_21 : gm_fetch 22 21 = some (24, .getfield 24, 51, 1, 0, 0) := (fe22 21).trans rfl
theorem f22_24 : gm_fetch 22 24 = some (27, .getfield 69, 9, 0, 1, 0) := (fe22 24).trans rfl
theorem f22_27 : gm_fetch 22 27 = some (30, .if_icmp .ge 60, 0, 87, 0, 0) := (fe22 27).trans rfl
theorem f22_30 : gm_fetch 22 30 = some (31, .iconst 2, 0, 0, 0, 0) := (fe22 30).trans rfl
theorem f22_31 : gm_fetch 22 31 = some (33, .iload 4, 0, 0, 0, 0) := (fe22 31).trans rfl
theorem f22_33 : gm_fetch 22 33 = some (34, .iload_n 3, 0, 0, 0, 0) := (fe22 33).trans rfl
theorem f22_34 : gm_fetch 22 34 = some (37, .invokestatic 79, 66, 23, 0, 0) := (fe22 34).trans rfl
theorem f22_37 : gm_fetch 22 37 = some (38, .imul, 0, 0, 0, 0) := (fe22 37).trans rfl
theorem f22_38 : gm_fetch 22 38 = some (40, .istore 5, 0, 0, 0, 0) := (fe22 38).trans rfl
theorem f22_40 : gm_fetch 22 40 = some (41, .aload_n 0, 0, 0, 0, 0) := (fe22 40).trans rfl
theorem f22_41 : gm_fetch 22 41 = some (44, .getfield 18, 54, 1, 3, 0) := (fe22 41).trans rfl
theorem f22_44 : gm_fetch 22 44 = some (46, .iload 5, 0, 0, 0, 0) := (fe22 44).trans rfl
theorem f22_46 : gm_fetch 22 46 = some (47, .iaload, 0, 0, 0, 0) := (fe22 46).trans rfl
theorem f22_47 : gm_fetch 22 47 = some (49, .bipush (-2), 0, 0, 0, 0) := (fe22 47).trans rfl
theorem f22_49 : gm_fetch 22 49 = some (52, .if_icmp .eq 32, 0, 81, 0, 0) := (fe22 49).trans rfl
theorem f22_52 : gm_fetch 22 52 = some (53, .aload_n 0, 0, 0, 0, 0) := (fe22 52).trans rfl
theorem f22_53 : gm_fetch 22 53 = some (56, .getfield 18, 54, 1, 3, 0) := (fe22 53).trans rfl
theorem f22_56 : gm_fetch 22 56 = some (58, .iload 5, 0, 0, 0, 0) := (fe22 56).trans rfl
theorem f22_58 : gm_fetch 22 58 = some (59, .iconst 1, 0, 0, 0, 0) := (fe22 58).trans rfl
theorem f22_59 : gm_fetch 22 59 = some (60, .iadd, 0, 0, 0, 0) := (fe22 59).trans rfl
theorem f22_60 : gm_fetch 22 60 = some (61, .iaload, 0, 0, 0, 0) := (fe22 60).trans rfl
theorem f22_61 : gm_fetch 22 61 = some (63, .bipush (-2), 0, 0, 0, 0) := (fe22 61).trans rfl
theorem f22_63 : gm_fetch 22 63 = some (66, .if_icmp .ne 18, 0, 81, 0, 0) := (fe22 63).trans rfl
theorem f22_66 : gm_fetch 22 66 = some (67, .lload_n 1, 0, 0, 0, 0) := (fe22 66).trans rfl
theorem f22_67 : gm_fetch 22 67 = some (68, .lconst 1, 0, 0, 0, 0) := (fe22 67).trans rfl
theorem f22_68 : gm_fetch 22 68 = some (69, .aload_n 0, 0, 0, 0, 0) := (fe22 68).trans rfl
theorem f22_69 : gm_fetch 22 69 = some (72, .getfield 24, 51, 1, 0, 0) := (fe22 69).trans rfl
theorem f22_72 : gm_fetch 22 72 = some (74, .iload 4, 0, 0, 0, 0) := (fe22 72).trans rfl
theorem f22_74 : gm_fetch 22 74 = some (75, .iload_n 3, 0, 0, 0, 0) := (fe22 74).trans rfl
theorem f22_75 : gm_fetch 22 75 = some (78, .invokevirtual 99, 74, 9, 0, 0) := (fe22 75).trans rfl
theorem f22_78 : gm_fetch 22 78 = some (79, .lshl, 0, 0, 0, 0) := (fe22 78).trans rfl
theorem f22_79 : gm_fetch 22 79 = some (80, .lor, 0, 0, 0, 0) := (fe22 79).trans rfl
theorem f22_80 : gm_fetch 22 80 = some (81, .lstore_n 1, 0, 0, 0, 0) := (fe22 80).trans rfl
theorem f22_81 : gm_fetch 22 81 = some (84, .iinc 4 1, 0, 0, 0, 0) := (fe22 81).trans rfl
theorem f22_84 : gm_fetch 22 84 = some (87, .goto (-66), 0, 18, 0, 0) := (fe22 84).trans rfl
theorem f22_87 : gm_fetch 22 87 = some (90, .iinc 3 1, 0, 0, 0, 0) := (fe22 87).trans rfl
theorem f22_90 : gm_fetch 22 90 = some (93, .goto (-86), 0, 4, 0, 0) := (fe22 90).trans rfl
theorem f22_93 : gm_fetch 22 93 = some (94, .lload_n 1, 0, 0, 0, 0) := (fe22 93).trans rfl
theorem f22_94 : gm_fetch 22 94 = some (95, .lreturn, 0, 0, 0, 0) := (fe22 94).trans rfl
set_option maxRecDepth 10000 in
theorem rg22_0 {mi : Mi} {ml : Ml} {F : Int64 → Mi → Ml → Prop}   (h : Sg 22 4 [some (.ref 18), some (.long 0), none, some (.int 0), none, none] [] mi ml (ql F)) : Sg 22 0 [some (.ref 18), none, none, none, none, none] [] mi ml (ql F) := by
  refine sg_psh f22_0 (v := .long 0) (by decide) ?_
  refine sg_st2 f22_1 (ls' := [some (.ref 18), some (.long 0), none, none, none, none]) rfl rfl rfl ?_
  refine sg_psh f22_2 (v := .int 0) (by decide) ?_
  refine sg_st1 f22_3 (ls' := [some (.ref 18), some (.long 0), none, some (.int 0), none, none]) rfl rfl rfl rfl ?_
  exact h

set_option maxRecDepth 10000 in
theorem rg22_4 {mi : Mi} {ml : Ml} {F : Int64 → Mi → Ml → Prop} {x1 : Int64} {x3 : Int32}  (h : (((mi 1 0) ≤ x3) → F x1 mi ml) ∧ (¬ ((mi 1 0) ≤ x3) → Sg 22 18 [some (.ref 18), some (.long x1), none, some (.int x3), some (.int 0), none] [] mi ml (ql F))) : Sg 22 4 [some (.ref 18), some (.long x1), none, some (.int x3), none, none] [] mi ml (ql F) := by
  refine sg_ld f22_4 (v := .int x3) rfl rfl ?_
  refine sg_ld f22_5 (v := .ref 18) rfl rfl ?_
  refine sg_getr f22_6 rfl rfl (w := 1) rfl ?_
  refine sg_geti f22_9 rfl rfl (x := (mi 1 0)) rfl ?_
  refine sg_icmp f22_12 (fun c => ?_) (fun c => ?_)
  · have h := h.1 c
    refine sg_ld f22_93 (v := .long x1) rfl rfl ?_
    exact sg_lret f22_94 pq22 rfl ⟨_, rfl, h⟩
  · have h := h.2 c
    refine sg_psh f22_15 (v := .int 0) (by decide) ?_
    refine sg_st1 f22_16 (ls' := [some (.ref 18), some (.long x1), none, some (.int x3), some (.int 0), none]) rfl rfl rfl rfl ?_
    exact h

set_option maxRecDepth 10000 in
theorem rg22_18 {mi : Mi} {ml : Ml} {F : Int64 → Mi → Ml → Prop} {x1 : Int64} {x3 : Int32} {x4 : Int32}  (h : (((mi 1 1) ≤ x4) → Sg 22 4 [some (.ref 18), some (.long x1), none, some (.int (x3 + 1)), none, none] [] mi ml (ql F)) ∧ (¬ ((mi 1 1) ≤ x4) → Sg 23 0 [some (.int x4), some (.int x3)] [] mi ml (qi fun y1 mi2 ml3 => (vp_in (2 * y1) 162) ∧ ((((mi2 21 (Int32.toNatClampNeg (2 * y1))) = (-2)) → Sg 22 18 [some (.ref 18), some (.long x1), none, some (.int x3), some (.int (x4 + 1)), none] [] mi2 ml3 (ql F)) ∧ (¬ ((mi2 21 (Int32.toNatClampNeg (2 * y1))) = (-2)) → (vp_in ((2 * y1) + 1) 162) ∧ (((¬ (mi2 21 (Int32.toNatClampNeg ((2 * y1) + 1))) = (-2)) → Sg 22 18 [some (.ref 18), some (.long x1), none, some (.int x3), some (.int (x4 + 1)), none] [] mi2 ml3 (ql F)) ∧ (¬ (¬ (mi2 21 (Int32.toNatClampNeg ((2 * y1) + 1))) = (-2)) → Sg 9 0 [some (.ref 1), some (.int x4), some (.int x3)] [] mi2 ml3 (qi fun y6 mi7 ml8 => Sg 22 18 [some (.ref 18), some (.long (x1 ||| (lshl 1 y6))), none, some (.int x3), some (.int (x4 + 1)), none] [] mi7 ml8 (ql F))))))))) : Sg 22 18 [some (.ref 18), some (.long x1), none, some (.int x3), some (.int x4), none] [] mi ml (ql F) := by
  refine sg_ld f22_18 (v := .int x4) rfl rfl ?_
  refine sg_ld f22_20 (v := .ref 18) rfl rfl ?_
  refine sg_getr f22_21 rfl rfl (w := 1) rfl ?_
  refine sg_geti f22_24 rfl rfl (x := (mi 1 1)) rfl ?_
  refine sg_icmp f22_27 (fun c => ?_) (fun c => ?_)
  · have h := h.1 c
    refine sg_inc f22_87 (d := 1) (ls' := [some (.ref 18), some (.long x1), none, some (.int (x3 + 1)), some (.int x4), none]) rfl (by decide) rfl ?_
    refine sg_goto f22_90 ?_
    exact sg_drop [4] rfl h
  · have h := h.2 c
    refine sg_psh f22_30 (v := .int 2) (by decide) ?_
    refine sg_ld f22_31 (v := .int x4) rfl rfl ?_
    refine sg_ld f22_33 (v := .int x3) rfl rfl ?_
    refine sg_cS f22_34 (vs := [.int x4, .int x3]) (rest := [.int 2]) (en := [some (.int x4), some (.int x3)]) (by decide) pq23 ⟨rfl, rfl⟩ rfl rfl rfl rfl rfl h ?_
    rintro _ mi2 ml3 ⟨y1, rfl, h⟩
    refine sg_bin f22_37 rfl ?_
    refine sg_st1 f22_38 (ls' := [some (.ref 18), some (.long x1), none, some (.int x3), some (.int x4), some (.int (2 * y1))]) rfl rfl rfl rfl ?_
    refine sg_ld f22_40 (v := .ref 18) rfl rfl ?_
    refine sg_getr f22_41 rfl rfl (w := 21) rfl ?_
    refine sg_ld f22_44 (v := .int (2 * y1)) rfl rfl ?_
    obtain ⟨e4, h⟩ := h
    refine sg_iald f22_46 rfl e4 (x := (mi2 21 (Int32.toNatClampNeg (2 * y1)))) rfl ?_
    refine sg_psh f22_47 (v := .int (-2)) (by decide) ?_
    refine sg_icmp f22_49 (fun c => ?_) (fun c => ?_)
    · have h := h.1 c
      refine sg_inc f22_81 (d := 1) (ls' := [some (.ref 18), some (.long x1), none, some (.int x3), some (.int (x4 + 1)), some (.int (2 * y1))]) rfl (by decide) rfl ?_
      refine sg_goto f22_84 ?_
      exact sg_drop [5] rfl h
    · have h := h.2 c
      refine sg_ld f22_52 (v := .ref 18) rfl rfl ?_
      refine sg_getr f22_53 rfl rfl (w := 21) rfl ?_
      refine sg_ld f22_56 (v := .int (2 * y1)) rfl rfl ?_
      refine sg_psh f22_58 (v := .int 1) (by decide) ?_
      refine sg_bin f22_59 rfl ?_
      obtain ⟨e5, h⟩ := h
      refine sg_iald f22_60 rfl e5 (x := (mi2 21 (Int32.toNatClampNeg ((2 * y1) + 1)))) rfl ?_
      refine sg_psh f22_61 (v := .int (-2)) (by decide) ?_
      refine sg_icmp f22_63 (fun c => ?_) (fun c => ?_)
      · have h := h.1 c
        refine sg_inc f22_81 (d := 1) (ls' := [some (.ref 18), some (.long x1), none, some (.int x3), some (.int (x4 + 1)), some (.int (2 * y1))]) rfl (by decide) rfl ?_
        refine sg_goto f22_84 ?_
        exact sg_drop [5] rfl h
      · have h := h.2 c
        refine sg_ld f22_66 (v := .long x1) rfl rfl ?_
        refine sg_psh f22_67 (v := .long 1) (by decide) ?_
        refine sg_ld f22_68 (v := .ref 18) rfl rfl ?_
        refine sg_getr f22_69 rfl rfl (w := 1) rfl ?_
        refine sg_ld f22_72 (v := .int x4) rfl rfl ?_
        refine sg_ld f22_74 (v := .int x3) rfl rfl ?_
        refine sg_cV f22_75 (vs := [.int x4, .int x3]) (r := 1) (rest := [.long 1, .long x1]) (en := [some (.ref 1), some (.int x4), some (.int x3)]) pq9 ⟨rfl, rfl⟩ rfl rfl rfl rfl rfl rfl h ?_
        rintro _ mi7 ml8 ⟨y6, rfl, h⟩
        refine sg_shl f22_78 rfl ?_
        refine sg_binl f22_79 rfl ?_
        refine sg_st2 f22_80 (ls' := [some (.ref 18), some (.long (x1 ||| (lshl 1 y6))), none, some (.int x3), some (.int x4), some (.int (2 * y1))]) rfl rfl rfl ?_
        refine sg_inc f22_81 (d := 1) (ls' := [some (.ref 18), some (.long (x1 ||| (lshl 1 y6))), none, some (.int x3), some (.int (x4 + 1)), some (.int (2 * y1))]) rfl (by decide) rfl ?_
        refine sg_goto f22_84 ?_
        exact sg_drop [5] rfl h

/-! X1_placeOf (II)I -/
theorem fe23 (pc : Nat) : gm_fetch 23 pc = gm_find pc cd_23 := rfl
theorem f23_0 : gm_fetch 23 0 = some (1, .iload_n 1, 0, 0, 0, 0) := (fe23 0).trans rfl
theorem f23_1 : gm_fetch 23 1 = some (2, .iconst 1, 0, 0, 0, 0) := (fe23 1).trans rfl
theorem f23_2 : gm_fetch 23 2 = some (3, .iadd, 0, 0, 0, 0) := (fe23 2).trans rfl
theorem f23_3 : gm_fetch 23 3 = some (5, .bipush 9, 0, 0, 0, 0) := (fe23 3).trans rfl
theorem f23_5 : gm_fetch 23 5 = some (6, .imul, 0, 0, 0, 0) := (fe23 5).trans rfl
theorem f23_6 : gm_fetch 23 6 = some (7, .iload_n 0, 0, 0, 0, 0) := (fe23 6).trans rfl
theorem f23_7 : gm_fetch 23 7 = some (8, .iadd, 0, 0, 0, 0) := (fe23 7).trans rfl
theorem f23_8 : gm_fetch 23 8 = some (9, .iconst 1, 0, 0, 0, 0) := (fe23 8).trans rfl
theorem f23_9 : gm_fetch 23 9 = some (10, .iadd, 0, 0, 0, 0) := (fe23 9).trans rfl
theorem f23_10 : gm_fetch 23 10 = some (11, .ireturn, 0, 0, 0, 0) := (fe23 10).trans rfl
set_option maxRecDepth 10000 in
theorem rg23_0 {mi : Mi} {ml : Ml} {F : Int32 → Mi → Ml → Prop} {x0 : Int32} {x1 : Int32}  (h : F ((((x1 + 1) * 9) + x0) + 1) mi ml) : Sg 23 0 [some (.int x0), some (.int x1)] [] mi ml (qi F) := by
  refine sg_ld f23_0 (v := .int x1) rfl rfl ?_
  refine sg_psh f23_1 (v := .int 1) (by decide) ?_
  refine sg_bin f23_2 rfl ?_
  refine sg_psh f23_3 (v := .int 9) (by decide) ?_
  refine sg_bin f23_5 rfl ?_
  refine sg_ld f23_6 (v := .int x0) rfl rfl ?_
  refine sg_bin f23_7 rfl ?_
  refine sg_psh f23_8 (v := .int 1) (by decide) ?_
  refine sg_bin f23_9 rfl ?_
  exact sg_iret f23_10 pq23 rfl rfl ⟨_, rfl, h⟩

