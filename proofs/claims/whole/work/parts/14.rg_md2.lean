/-! X7_columnOf (II)I -/
theorem fe140 (pc : Nat) : gm_fetch 140 pc = gm_find pc cd_140 := rfl
theorem f140_0 : gm_fetch 140 0 = some (1, .iconst 0, 0, 0, 0, 0) := (fe140 0).trans rfl
theorem f140_1 : gm_fetch 140 1 = some (2, .istore_n 2, 0, 0, 0, 0) := (fe140 1).trans rfl
theorem f140_2 : gm_fetch 140 2 = some (3, .iconst 0, 0, 0, 0, 0) := (fe140 2).trans rfl
theorem f140_3 : gm_fetch 140 3 = some (4, .istore_n 3, 0, 0, 0, 0) := (fe140 3).trans rfl
theorem f140_4 : gm_fetch 140 4 = some (5, .iload_n 3, 0, 0, 0, 0) := (fe140 4).trans rfl
theorem f140_5 : gm_fetch 140 5 = some (7, .bipush 7, 0, 0, 0, 0) := (fe140 5).trans rfl
theorem f140_7 : gm_fetch 140 7 = some (10, .if_icmp .ge 28, 0, 35, 0, 0) := (fe140 7).trans rfl
theorem f140_10 : gm_fetch 140 10 = some (11, .iload_n 0, 0, 0, 0, 0) := (fe140 10).trans rfl
theorem f140_11 : gm_fetch 140 11 = some (12, .i2l, 0, 0, 0, 0) := (fe140 11).trans rfl
theorem f140_12 : gm_fetch 140 12 = some (13, .iload_n 3, 0, 0, 0, 0) := (fe140 12).trans rfl
theorem f140_13 : gm_fetch 140 13 = some (16, .invokestatic 97, 176, 116, 0, 0) := (fe140 13).trans rfl
theorem f140_16 : gm_fetch 140 16 = some (19, .ifCond .eq 13, 0, 29, 0, 0) := (fe140 16).trans rfl
theorem f140_19 : gm_fetch 140 19 = some (20, .iload_n 2, 0, 0, 0, 0) := (fe140 19).trans rfl
theorem f140_20 : gm_fetch 140 20 = some (21, .iload_n 1, 0, 0, 0, 0) := (fe140 20).trans rfl
theorem f140_21 : gm_fetch 140 21 = some (24, .if_icmp .ne 5, 0, 26, 0, 0) := (fe140 21).trans rfl
theorem f140_24 : gm_fetch 140 24 = some (25, .iload_n 3, 0, 0, 0, 0) := (fe140 24).trans rfl
theorem f140_25 : gm_fetch 140 25 = some (26, .ireturn, 0, 0, 0, 0) := (fe140 25).trans rfl
theorem f140_26 : gm_fetch 140 26 = some (29, .iinc 2 1, 0, 0, 0, 0) := (fe140 26).trans rfl
theorem f140_29 : gm_fetch 140 29 = some (32, .iinc 3 1, 0, 0, 0, 0) := (fe140 29).trans rfl
theorem f140_32 : gm_fetch 140 32 = some (35, .goto (-28), 0, 4, 0, 0) := (fe140 32).trans rfl
theorem f140_35 : gm_fetch 140 35 = some (36, .iconst (-1), 0, 0, 0, 0) := (fe140 35).trans rfl
theorem f140_36 : gm_fetch 140 36 = some (37, .ireturn, 0, 0, 0, 0) := (fe140 36).trans rfl
set_option maxRecDepth 10000 in
theorem rg140_0 {mi : Mi} {ml : Ml} {F : Int32 → Mi → Ml → Prop} {x0 : Int32} {x1 : Int32}  (h : Sg 140 4 [some (.int x0), some (.int x1), some (.int 0), some (.int 0)] [] mi ml (qi F)) : Sg 140 0 [some (.int x0), some (.int x1), none, none] [] mi ml (qi F) := by
  refine sg_psh f140_0 (v := .int 0) (by decide) ?_
  refine sg_st1 f140_1 (ls' := [some (.int x0), some (.int x1), some (.int 0), none]) rfl rfl rfl rfl ?_
  refine sg_psh f140_2 (v := .int 0) (by decide) ?_
  refine sg_st1 f140_3 (ls' := [some (.int x0), some (.int x1), some (.int 0), some (.int 0)]) rfl rfl rfl rfl ?_
  exact h

set_option maxRecDepth 10000 in
theorem rg140_4 {mi : Mi} {ml : Ml} {F : Int32 → Mi → Ml → Prop} {x0 : Int32} {x1 : Int32} {x2 : Int32} {x3 : Int32}  (h : ((7 ≤ x3) → F (-1) mi ml) ∧ (¬ (7 ≤ x3) → Sg 116 0 [some (.long (Int32.toInt64 x0)), none, some (.int x3)] [] mi ml (qi fun y1 mi2 ml3 => ((y1 = 0) → Sg 140 4 [some (.int x0), some (.int x1), some (.int x2), some (.int (x3 + 1))] [] mi2 ml3 (qi F)) ∧ (¬ (y1 = 0) → ((¬ x2 = x1) → Sg 140 4 [some (.int x0), some (.int x1), some (.int (x2 + 1)), some (.int (x3 + 1))] [] mi2 ml3 (qi F)) ∧ (¬ (¬ x2 = x1) → F x3 mi2 ml3))))) : Sg 140 4 [some (.int x0), some (.int x1), some (.int x2), some (.int x3)] [] mi ml (qi F) := by
  refine sg_ld f140_4 (v := .int x3) rfl rfl ?_
  refine sg_psh f140_5 (v := .int 7) (by decide) ?_
  refine sg_icmp f140_7 (fun c => ?_) (fun c => ?_)
  · have h := h.1 c
    refine sg_psh f140_35 (v := .int (-1)) (by decide) ?_
    exact sg_iret f140_36 pq140 rfl rfl ⟨_, rfl, h⟩
  · have h := h.2 c
    refine sg_ld f140_10 (v := .int x0) rfl rfl ?_
    refine sg_i2l f140_11 ?_
    refine sg_ld f140_12 (v := .int x3) rfl rfl ?_
    refine sg_cS f140_13 (vs := [.long (Int32.toInt64 x0), .int x3]) (rest := []) (en := [some (.long (Int32.toInt64 x0)), none, some (.int x3)]) (by decide) pq116 ⟨rfl, rfl⟩ rfl rfl rfl rfl rfl h ?_
    rintro _ mi2 ml3 ⟨y1, rfl, h⟩
    refine sg_if f140_16 (fun c => ?_) (fun c => ?_)
    · have h := h.1 c
      refine sg_inc f140_29 (d := 1) (ls' := [some (.int x0), some (.int x1), some (.int x2), some (.int (x3 + 1))]) rfl (by decide) rfl ?_
      refine sg_goto f140_32 ?_
      exact h
    · have h := h.2 c
      refine sg_ld f140_19 (v := .int x2) rfl rfl ?_
      refine sg_ld f140_20 (v := .int x1) rfl rfl ?_
      refine sg_icmp f140_21 (fun c => ?_) (fun c => ?_)
      · have h := h.1 c
        refine sg_inc f140_26 (d := 1) (ls' := [some (.int x0), some (.int x1), some (.int (x2 + 1)), some (.int x3)]) rfl (by decide) rfl ?_
        refine sg_inc f140_29 (d := 1) (ls' := [some (.int x0), some (.int x1), some (.int (x2 + 1)), some (.int (x3 + 1))]) rfl (by decide) rfl ?_
        refine sg_goto f140_32 ?_
        exact h
      · have h := h.2 c
        refine sg_ld f140_24 (v := .int x3) rfl rfl ?_
        exact sg_iret f140_25 pq140 rfl rfl ⟨_, rfl, h⟩

/-! X7_seatsOf (II)V -/
theorem fe141 (pc : Nat) : gm_fetch 141 pc = gm_find pc cd_141 := rfl
set_option maxRecDepth 10000 in
theorem f141_0 : gm_fetch 141 0 = some (1, .aload_n 0, 0, 0, 0, 0) := (fe141 0).trans rfl
set_option maxRecDepth 10000 in
theorem f141_1 : gm_fetch 141 1 = some (2, .iconst 0, 0, 0, 0, 0) := (fe141 1).trans rfl
set_option maxRecDepth 10000 in
theorem f141_2 : gm_fetch 141 2 = some (5, .putfield 158, 102, 7, 18, 0) := (fe141 2).trans rfl
set_option maxRecDepth 10000 in
theorem f141_5 : gm_fetch 141 5 = some (6, .iconst 0, 0, 0, 0, 0) := (fe141 5).trans rfl
set_option maxRecDepth 10000 in
theorem f141_6 : gm_fetch 141 6 = some (7, .istore_n 3, 0, 0, 0, 0) := (fe141 6).trans rfl
set_option maxRecDepth 10000 in
theorem f141_7 : gm_fetch 141 7 = some (8, .iload_n 3, 0, 0, 0, 0) := (fe141 7).trans rfl
set_option maxRecDepth 10000 in
theorem f141_8 : gm_fetch 141 8 = some (9, .iconst 1, 0, 0, 0, 0) := (fe141 8).trans rfl
set_option maxRecDepth 10000 in
theorem f141_9 : gm_fetch 141 9 = some (10, .aload_n 0, 0, 0, 0, 0) := (fe141 9).trans rfl
set_option maxRecDepth 10000 in
theorem f141_10 : gm_fetch 141 10 = some (13, .getfield 81, 90, 7, 6, 0) := (fe141 10).trans rfl
set_option maxRecDepth 10000 in
theorem f141_13 : gm_fetch 141 13 = some (14, .ishl, 0, 0, 0, 0) := (fe141 13).trans rfl
set_option maxRecDepth 10000 in
theorem f141_14 : gm_fetch 141 14 = some (17, .if_icmp .ge 154, 0, 168, 0, 0) := (fe141 14).trans rfl
set_option maxRecDepth 10000 in
theorem f141_17 : gm_fetch 141 17 = some (18, .iload_n 3, 0, 0, 0, 0) := (fe141 17).trans rfl
set_option maxRecDepth 10000 in
theorem f141_18 : gm_fetch 141 18 = some (19, .i2l, 0, 0, 0, 0) := (fe141 18).trans rfl
set_option maxRecDepth 10000 in
theorem f141_19 : gm_fetch 141 19 = some (22, .invokestatic 128, 175, 119, 0, 0) := (fe141 19).trans rfl
set_option maxRecDepth 10000 in
theorem f141_22 : gm_fetch 141 22 = some (23, .iload_n 1, 0, 0, 0, 0) := (fe141 22).trans rfl
set_option maxRecDepth 10000 in
theorem f141_23 : gm_fetch 141 23 = some (26, .if_icmp .ne 139, 0, 162, 0, 0) := (fe141 23).trans rfl
set_option maxRecDepth 10000 in
theorem f141_26 : gm_fetch 141 26 = some (27, .aload_n 0, 0, 0, 0, 0) := (fe141 26).trans rfl
set_option maxRecDepth 10000 in
theorem f141_27 : gm_fetch 141 27 = some (30, .getfield 28, 98, 7, 14, 0) := (fe141 27).trans rfl
set_option maxRecDepth 10000 in
theorem f141_30 : gm_fetch 141 30 = some (31, .aload_n 0, 0, 0, 0, 0) := (fe141 30).trans rfl
set_option maxRecDepth 10000 in
theorem f141_31 : gm_fetch 141 31 = some (34, .getfield 158, 102, 7, 18, 0) := (fe141 31).trans rfl
set_option maxRecDepth 10000 in
theorem f141_34 : gm_fetch 141 34 = some (35, .iload_n 3, 0, 0, 0, 0) := (fe141 34).trans rfl
set_option maxRecDepth 10000 in
theorem f141_35 : gm_fetch 141 35 = some (36, .iastore, 0, 0, 0, 0) := (fe141 35).trans rfl
set_option maxRecDepth 10000 in
theorem f141_36 : gm_fetch 141 36 = some (37, .aload_n 0, 0, 0, 0, 0) := (fe141 36).trans rfl
set_option maxRecDepth 10000 in
theorem f141_37 : gm_fetch 141 37 = some (40, .getfield 34, 100, 7, 16, 0) := (fe141 37).trans rfl
set_option maxRecDepth 10000 in
theorem f141_40 : gm_fetch 141 40 = some (41, .aload_n 0, 0, 0, 0, 0) := (fe141 40).trans rfl
set_option maxRecDepth 10000 in
theorem f141_41 : gm_fetch 141 41 = some (44, .getfield 158, 102, 7, 18, 0) := (fe141 41).trans rfl
set_option maxRecDepth 10000 in
theorem f141_44 : gm_fetch 141 44 = some (45, .iconst 1, 0, 0, 0, 0) := (fe141 44).trans rfl
set_option maxRecDepth 10000 in
theorem f141_45 : gm_fetch 141 45 = some (46, .bastore, 0, 0, 0, 0) := (fe141 45).trans rfl
set_option maxRecDepth 10000 in
theorem f141_46 : gm_fetch 141 46 = some (47, .iconst 0, 0, 0, 0, 0) := (fe141 46).trans rfl
set_option maxRecDepth 10000 in
theorem f141_47 : gm_fetch 141 47 = some (49, .istore 4, 0, 0, 0, 0) := (fe141 47).trans rfl
set_option maxRecDepth 10000 in
theorem f141_49 : gm_fetch 141 49 = some (51, .iload 4, 0, 0, 0, 0) := (fe141 49).trans rfl
set_option maxRecDepth 10000 in
theorem f141_51 : gm_fetch 141 51 = some (52, .iload_n 1, 0, 0, 0, 0) := (fe141 51).trans rfl
set_option maxRecDepth 10000 in
theorem f141_52 : gm_fetch 141 52 = some (55, .if_icmp .ge 100, 0, 152, 0, 0) := (fe141 52).trans rfl
set_option maxRecDepth 10000 in
theorem f141_55 : gm_fetch 141 55 = some (56, .aload_n 0, 0, 0, 0, 0) := (fe141 55).trans rfl
set_option maxRecDepth 10000 in
theorem f141_56 : gm_fetch 141 56 = some (59, .getfield 31, 99, 7, 15, 0) := (fe141 56).trans rfl
set_option maxRecDepth 10000 in
theorem f141_59 : gm_fetch 141 59 = some (61, .bipush 7, 0, 0, 0, 0) := (fe141 59).trans rfl
set_option maxRecDepth 10000 in
theorem f141_61 : gm_fetch 141 61 = some (62, .aload_n 0, 0, 0, 0, 0) := (fe141 61).trans rfl
set_option maxRecDepth 10000 in
theorem f141_62 : gm_fetch 141 62 = some (65, .getfield 158, 102, 7, 18, 0) := (fe141 62).trans rfl
set_option maxRecDepth 10000 in
theorem f141_65 : gm_fetch 141 65 = some (66, .imul, 0, 0, 0, 0) := (fe141 65).trans rfl
set_option maxRecDepth 10000 in
theorem f141_66 : gm_fetch 141 66 = some (68, .iload 4, 0, 0, 0, 0) := (fe141 66).trans rfl
set_option maxRecDepth 10000 in
theorem f141_68 : gm_fetch 141 68 = some (69, .iadd, 0, 0, 0, 0) := (fe141 68).trans rfl
set_option maxRecDepth 10000 in
theorem f141_69 : gm_fetch 141 69 = some (70, .iload_n 3, 0, 0, 0, 0) := (fe141 69).trans rfl
set_option maxRecDepth 10000 in
theorem f141_70 : gm_fetch 141 70 = some (72, .iload 4, 0, 0, 0, 0) := (fe141 70).trans rfl
set_option maxRecDepth 10000 in
theorem f141_72 : gm_fetch 141 72 = some (75, .invokestatic 161, 183, 140, 0, 0) := (fe141 72).trans rfl
set_option maxRecDepth 10000 in
theorem f141_75 : gm_fetch 141 75 = some (76, .iastore, 0, 0, 0, 0) := (fe141 75).trans rfl
set_option maxRecDepth 10000 in
theorem f141_76 : gm_fetch 141 76 = some (77, .aload_n 0, 0, 0, 0, 0) := (fe141 76).trans rfl
set_option maxRecDepth 10000 in
theorem f141_77 : gm_fetch 141 77 = some (80, .getfield 34, 100, 7, 16, 0) := (fe141 77).trans rfl
set_option maxRecDepth 10000 in
theorem f141_80 : gm_fetch 141 80 = some (81, .aload_n 0, 0, 0, 0, 0) := (fe141 80).trans rfl
set_option maxRecDepth 10000 in
theorem f141_81 : gm_fetch 141 81 = some (84, .getfield 158, 102, 7, 18, 0) := (fe141 81).trans rfl
set_option maxRecDepth 10000 in
theorem f141_84 : gm_fetch 141 84 = some (85, .aload_n 0, 0, 0, 0, 0) := (fe141 84).trans rfl
set_option maxRecDepth 10000 in
theorem f141_85 : gm_fetch 141 85 = some (88, .getfield 34, 100, 7, 16, 0) := (fe141 85).trans rfl
set_option maxRecDepth 10000 in
theorem f141_88 : gm_fetch 141 88 = some (89, .aload_n 0, 0, 0, 0, 0) := (fe141 88).trans rfl
set_option maxRecDepth 10000 in
theorem f141_89 : gm_fetch 141 89 = some (92, .getfield 158, 102, 7, 18, 0) := (fe141 89).trans rfl
set_option maxRecDepth 10000 in
theorem f141_92 : gm_fetch 141 92 = some (93, .baload, 0, 0, 0, 0) := (fe141 92).trans rfl
set_option maxRecDepth 10000 in
theorem f141_93 : gm_fetch 141 93 = some (96, .ifCond .eq 51, 0, 144, 0, 0) := (fe141 93).trans rfl
set_option maxRecDepth 10000 in
theorem f141_96 : gm_fetch 141 96 = some (98, .iload 4, 0, 0, 0, 0) := (fe141 96).trans rfl
set_option maxRecDepth 10000 in
theorem f141_98 : gm_fetch 141 98 = some (101, .ifCond .eq 42, 0, 140, 0, 0) := (fe141 98).trans rfl
set_option maxRecDepth 10000 in
theorem f141_101 : gm_fetch 141 101 = some (102, .aload_n 0, 0, 0, 0, 0) := (fe141 101).trans rfl
set_option maxRecDepth 10000 in
theorem f141_102 : gm_fetch 141 102 = some (105, .getfield 31, 99, 7, 15, 0) := (fe141 102).trans rfl
set_option maxRecDepth 10000 in
theorem f141_105 : gm_fetch 141 105 = some (107, .bipush 7, 0, 0, 0, 0) := (fe141 105).trans rfl
set_option maxRecDepth 10000 in
theorem f141_107 : gm_fetch 141 107 = some (108, .aload_n 0, 0, 0, 0, 0) := (fe141 107).trans rfl
set_option maxRecDepth 10000 in
theorem f141_108 : gm_fetch 141 108 = some (111, .getfield 158, 102, 7, 18, 0) := (fe141 108).trans rfl
set_option maxRecDepth 10000 in
theorem f141_111 : gm_fetch 141 111 = some (112, .imul, 0, 0, 0, 0) := (fe141 111).trans rfl
set_option maxRecDepth 10000 in
theorem f141_112 : gm_fetch 141 112 = some (114, .iload 4, 0, 0, 0, 0) := (fe141 112).trans rfl
set_option maxRecDepth 10000 in
theorem f141_114 : gm_fetch 141 114 = some (115, .iadd, 0, 0, 0, 0) := (fe141 114).trans rfl
set_option maxRecDepth 10000 in
theorem f141_115 : gm_fetch 141 115 = some (116, .iaload, 0, 0, 0, 0) := (fe141 115).trans rfl
set_option maxRecDepth 10000 in
theorem f141_116 : gm_fetch 141 116 = some (117, .aload_n 0, 0, 0, 0, 0) := (fe141 116).trans rfl
set_option maxRecDepth 10000 in
theorem f141_117 : gm_fetch 141 117 = some (120, .getfield 31, 99, 7, 15, 0) := (fe141 117).trans rfl
set_option maxRecDepth 10000 in
theorem f141_120 : gm_fetch 141 120 = some (122, .bipush 7, 0, 0, 0, 0) := (fe141 120).trans rfl
set_option maxRecDepth 10000 in
theorem f141_122 : gm_fetch 141 122 = some (123, .aload_n 0, 0, 0, 0, 0) := (fe141 122).trans rfl
set_option maxRecDepth 10000 in
theorem f141_123 : gm_fetch 141 123 = some (126, .getfield 158, 102, 7, 18, 0) := (fe141 123).trans rfl
set_option maxRecDepth 10000 in
theorem f141_126 : gm_fetch 141 126 = some (127, .imul, 0, 0, 0, 0) := (fe141 126).trans rfl
set_option maxRecDepth 10000 in
theorem f141_127 : gm_fetch 141 127 = some (129, .iload 4, 0, 0, 0, 0) := (fe141 127).trans rfl
set_option maxRecDepth 10000 in
theorem f141_129 : gm_fetch 141 129 = some (130, .iadd, 0, 0, 0, 0) := (fe141 129).trans rfl
set_option maxRecDepth 10000 in
theorem f141_130 : gm_fetch 141 130 = some (131, .iconst 1, 0, 0, 0, 0) := (fe141 130).trans rfl
set_option maxRecDepth 10000 in
theorem f141_131 : gm_fetch 141 131 = some (132, .isub, 0, 0, 0, 0) := (fe141 131).trans rfl
set_option maxRecDepth 10000 in
theorem f141_132 : gm_fetch 141 132 = some (133, .iaload, 0, 0, 0, 0) := (fe141 132).trans rfl
set_option maxRecDepth 10000 in
theorem f141_133 : gm_fetch 141 133 = some (134, .isub, 0, 0, 0, 0) := (fe141 133).trans rfl
set_option maxRecDepth 10000 in
theorem f141_134 : gm_fetch 141 134 = some (135, .iconst 1, 0, 0, 0, 0) := (fe141 134).trans rfl
set_option maxRecDepth 10000 in
theorem f141_135 : gm_fetch 141 135 = some (136, .isub, 0, 0, 0, 0) := (fe141 135).trans rfl
set_option maxRecDepth 10000 in
theorem f141_136 : gm_fetch 141 136 = some (137, .iload_n 2, 0, 0, 0, 0) := (fe141 136).trans rfl
set_option maxRecDepth 10000 in
theorem f141_137 : gm_fetch 141 137 = some (140, .if_icmp .gt 7, 0, 144, 0, 0) := (fe141 137).trans rfl
set_option maxRecDepth 10000 in
theorem f141_140 : gm_fetch 141 140 = some (141, .iconst 1, 0, 0, 0, 0) := (fe141 140).trans rfl
set_option maxRecDepth 10000 in
theorem f141_141 : gm_fetch 141 141 = some (144, .goto 4, 0, 145, 0, 0) := (fe141 141).trans rfl
set_option maxRecDepth 10000 in
theorem f141_144 : gm_fetch 141 144 = some (145, .iconst 0, 0, 0, 0, 0) := (fe141 144).trans rfl
set_option maxRecDepth 10000 in
theorem f141_145 : gm_fetch 141 145 = some (146, .bastore, 0, 0, 0, 0) := (fe141 145).trans rfl
set_option maxRecDepth 10000 in
theorem f141_146 : gm_fetch 141 146 = some (149, .iinc 4 1, 0, 0, 0, 0) := (fe141 146).trans rfl
set_option maxRecDepth 10000 in
theorem f141_149 : gm_fetch 141 149 = some (152, .goto (-100), 0, 49, 0, 0) := (fe141 149).trans rfl
set_option maxRecDepth 10000 in
theorem f141_152 : gm_fetch 141 152 = some (153, .aload_n 0, 0, 0, 0, 0) := (fe141 152).trans rfl
set_option maxRecDepth 10000 in
theorem f141_153 : gm_fetch 141 153 = some (154, .dup, 0, 0, 0, 0) := (fe141 153).trans rfl
set_option maxRecDepth 10000 in
theorem f141_154 : gm_fetch 141 154 = some (157, .getfield 158, 102, 7, 18, 0) := (fe141 154).trans rfl
set_option maxRecDepth 10000 in
theorem f141_157 : gm_fetch 141 157 = some (158, .iconst 1, 0, 0, 0, 0) := (fe141 157).trans rfl
set_option maxRecDepth 10000 in
theorem f141_158 : gm_fetch 141 158 = some (159, .iadd, 0, 0, 0, 0) := (fe141 158).trans rfl
set_option maxRecDepth 10000 in
theorem f141_159 : gm_fetch 141 159 = some (162, .putfield 158, 102, 7, 18, 0) := (fe141 159).trans rfl
set_option maxRecDepth 10000 in
theorem f141_162 : gm_fetch 141 162 = some (165, .iinc 3 1, 0, 0, 0, 0) := (fe141 162).trans rfl
set_option maxRecDepth 10000 in
theorem f141_165 : gm_fetch 141 165 = some (168, .goto (-158), 0, 7, 0, 0) := (fe141 165).trans rfl
set_option maxRecDepth 10000 in
theorem f141_168 : gm_fetch 141 168 = some (169, .iconst 0, 0, 0, 0, 0) := (fe141 168).trans rfl
set_option maxRecDepth 10000 in
theorem f141_169 : gm_fetch 141 169 = some (170, .istore_n 3, 0, 0, 0, 0) := (fe141 169).trans rfl
set_option maxRecDepth 10000 in
theorem f141_170 : gm_fetch 141 170 = some (171, .iload_n 3, 0, 0, 0, 0) := (fe141 170).trans rfl
set_option maxRecDepth 10000 in
theorem f141_171 : gm_fetch 141 171 = some (172, .aload_n 0, 0, 0, 0, 0) := (fe141 171).trans rfl
set_option maxRecDepth 10000 in
theorem f141_172 : gm_fetch 141 172 = some (175, .getfield 158, 102, 7, 18, 0) := (fe141 172).trans rfl
set_option maxRecDepth 10000 in
theorem f141_175 : gm_fetch 141 175 = some (178, .if_icmp .ge 104, 0, 279, 0, 0) := (fe141 175).trans rfl
set_option maxRecDepth 10000 in
theorem f141_178 : gm_fetch 141 178 = some (179, .iconst 0, 0, 0, 0, 0) := (fe141 178).trans rfl
set_option maxRecDepth 10000 in
theorem f141_179 : gm_fetch 141 179 = some (181, .istore 4, 0, 0, 0, 0) := (fe141 179).trans rfl
set_option maxRecDepth 10000 in
theorem f141_181 : gm_fetch 141 181 = some (183, .iload 4, 0, 0, 0, 0) := (fe141 181).trans rfl
set_option maxRecDepth 10000 in
theorem f141_183 : gm_fetch 141 183 = some (184, .aload_n 0, 0, 0, 0, 0) := (fe141 183).trans rfl
set_option maxRecDepth 10000 in
theorem f141_184 : gm_fetch 141 184 = some (187, .getfield 158, 102, 7, 18, 0) := (fe141 184).trans rfl
set_option maxRecDepth 10000 in
theorem f141_187 : gm_fetch 141 187 = some (190, .if_icmp .ge 86, 0, 273, 0, 0) := (fe141 187).trans rfl
set_option maxRecDepth 10000 in
theorem f141_190 : gm_fetch 141 190 = some (191, .iconst 1, 0, 0, 0, 0) := (fe141 190).trans rfl
set_option maxRecDepth 10000 in
theorem f141_191 : gm_fetch 141 191 = some (193, .istore 5, 0, 0, 0, 0) := (fe141 191).trans rfl
set_option maxRecDepth 10000 in
theorem f141_193 : gm_fetch 141 193 = some (194, .iconst 0, 0, 0, 0, 0) := (fe141 193).trans rfl
set_option maxRecDepth 10000 in
theorem f141_194 : gm_fetch 141 194 = some (196, .istore 6, 0, 0, 0, 0) := (fe141 194).trans rfl
set_option maxRecDepth 10000 in
theorem f141_196 : gm_fetch 141 196 = some (198, .iload 6, 0, 0, 0, 0) := (fe141 196).trans rfl
set_option maxRecDepth 10000 in
theorem f141_198 : gm_fetch 141 198 = some (199, .iload_n 1, 0, 0, 0, 0) := (fe141 198).trans rfl
set_option maxRecDepth 10000 in
theorem f141_199 : gm_fetch 141 199 = some (202, .if_icmp .ge 54, 0, 253, 0, 0) := (fe141 199).trans rfl
set_option maxRecDepth 10000 in
theorem f141_202 : gm_fetch 141 202 = some (204, .iload 5, 0, 0, 0, 0) := (fe141 202).trans rfl
set_option maxRecDepth 10000 in
theorem f141_204 : gm_fetch 141 204 = some (207, .ifCond .eq 49, 0, 253, 0, 0) := (fe141 204).trans rfl
set_option maxRecDepth 10000 in
theorem f141_207 : gm_fetch 141 207 = some (208, .aload_n 0, 0, 0, 0, 0) := (fe141 207).trans rfl
set_option maxRecDepth 10000 in
theorem f141_208 : gm_fetch 141 208 = some (211, .getfield 31, 99, 7, 15, 0) := (fe141 208).trans rfl
set_option maxRecDepth 10000 in
theorem f141_211 : gm_fetch 141 211 = some (213, .bipush 7, 0, 0, 0, 0) := (fe141 211).trans rfl
set_option maxRecDepth 10000 in
theorem f141_213 : gm_fetch 141 213 = some (214, .iload_n 3, 0, 0, 0, 0) := (fe141 213).trans rfl
set_option maxRecDepth 10000 in
theorem f141_214 : gm_fetch 141 214 = some (215, .imul, 0, 0, 0, 0) := (fe141 214).trans rfl
set_option maxRecDepth 10000 in
theorem f141_215 : gm_fetch 141 215 = some (217, .iload 6, 0, 0, 0, 0) := (fe141 215).trans rfl
set_option maxRecDepth 10000 in
theorem f141_217 : gm_fetch 141 217 = some (218, .iadd, 0, 0, 0, 0) := (fe141 217).trans rfl
set_option maxRecDepth 10000 in
theorem f141_218 : gm_fetch 141 218 = some (219, .iaload, 0, 0, 0, 0) := (fe141 218).trans rfl
set_option maxRecDepth 10000 in
theorem f141_219 : gm_fetch 141 219 = some (220, .aload_n 0, 0, 0, 0, 0) := (fe141 219).trans rfl
set_option maxRecDepth 10000 in
theorem f141_220 : gm_fetch 141 220 = some (223, .getfield 31, 99, 7, 15, 0) := (fe141 220).trans rfl
set_option maxRecDepth 10000 in
theorem f141_223 : gm_fetch 141 223 = some (225, .bipush 7, 0, 0, 0, 0) := (fe141 223).trans rfl
set_option maxRecDepth 10000 in
theorem f141_225 : gm_fetch 141 225 = some (227, .iload 4, 0, 0, 0, 0) := (fe141 225).trans rfl
set_option maxRecDepth 10000 in
theorem f141_227 : gm_fetch 141 227 = some (228, .imul, 0, 0, 0, 0) := (fe141 227).trans rfl
set_option maxRecDepth 10000 in
theorem f141_228 : gm_fetch 141 228 = some (230, .iload 6, 0, 0, 0, 0) := (fe141 228).trans rfl
set_option maxRecDepth 10000 in
theorem f141_230 : gm_fetch 141 230 = some (231, .iadd, 0, 0, 0, 0) := (fe141 230).trans rfl
set_option maxRecDepth 10000 in
theorem f141_231 : gm_fetch 141 231 = some (232, .iaload, 0, 0, 0, 0) := (fe141 231).trans rfl
set_option maxRecDepth 10000 in
theorem f141_232 : gm_fetch 141 232 = some (233, .isub, 0, 0, 0, 0) := (fe141 232).trans rfl
set_option maxRecDepth 10000 in
theorem f141_233 : gm_fetch 141 233 = some (236, .invokestatic 164, 184, 118, 0, 0) := (fe141 233).trans rfl
set_option maxRecDepth 10000 in
theorem f141_236 : gm_fetch 141 236 = some (237, .iload_n 2, 0, 0, 0, 0) := (fe141 236).trans rfl
set_option maxRecDepth 10000 in
theorem f141_237 : gm_fetch 141 237 = some (240, .if_icmp .gt 7, 0, 244, 0, 0) := (fe141 237).trans rfl
set_option maxRecDepth 10000 in
theorem f141_240 : gm_fetch 141 240 = some (241, .iconst 1, 0, 0, 0, 0) := (fe141 240).trans rfl
set_option maxRecDepth 10000 in
theorem f141_241 : gm_fetch 141 241 = some (244, .goto 4, 0, 245, 0, 0) := (fe141 241).trans rfl
set_option maxRecDepth 10000 in
theorem f141_244 : gm_fetch 141 244 = some (245, .iconst 0, 0, 0, 0, 0) := (fe141 244).trans rfl
set_option maxRecDepth 10000 in
theorem f141_245 : gm_fetch 141 245 = some (247, .istore 5, 0, 0, 0, 0) := (fe141 245).trans rfl
set_option maxRecDepth 10000 in
theorem f141_247 : gm_fetch 141 247 = some (250, .iinc 6 1, 0, 0, 0, 0) := (fe141 247).trans rfl
set_option maxRecDepth 10000 in
theorem f141_250 : gm_fetch 141 250 = some (253, .goto (-54), 0, 196, 0, 0) := (fe141 250).trans rfl
set_option maxRecDepth 10000 in
theorem f141_253 : gm_fetch 141 253 = some (254, .aload_n 0, 0, 0, 0, 0) := (fe141 253).trans rfl
set_option maxRecDepth 10000 in
theorem f141_254 : gm_fetch 141 254 = some (257, .getfield 38, 101, 7, 17, 0) := (fe141 254).trans rfl
set_option maxRecDepth 10000 in
theorem f141_257 : gm_fetch 141 257 = some (259, .bipush 40, 0, 0, 0, 0) := (fe141 257).trans rfl
set_option maxRecDepth 10000 in
theorem f141_259 : gm_fetch 141 259 = some (260, .iload_n 3, 0, 0, 0, 0) := (fe141 259).trans rfl
set_option maxRecDepth 10000 in
theorem f141_260 : gm_fetch 141 260 = some (261, .imul, 0, 0, 0, 0) := (fe141 260).trans rfl
set_option maxRecDepth 10000 in
theorem f141_261 : gm_fetch 141 261 = some (263, .iload 4, 0, 0, 0, 0) := (fe141 261).trans rfl
set_option maxRecDepth 10000 in
theorem f141_263 : gm_fetch 141 263 = some (264, .iadd, 0, 0, 0, 0) := (fe141 263).trans rfl
set_option maxRecDepth 10000 in
theorem f141_264 : gm_fetch 141 264 = some (266, .iload 5, 0, 0, 0, 0) := (fe141 264).trans rfl
set_option maxRecDepth 10000 in
theorem f141_266 : gm_fetch 141 266 = some (267, .bastore, 0, 0, 0, 0) := (fe141 266).trans rfl
set_option maxRecDepth 10000 in
theorem f141_267 : gm_fetch 141 267 = some (270, .iinc 4 1, 0, 0, 0, 0) := (fe141 267).trans rfl
set_option maxRecDepth 10000 in
theorem f141_270 : gm_fetch 141 270 = some (273, .goto (-89), 0, 181, 0, 0) := (fe141 270).trans rfl
set_option maxRecDepth 10000 in
theorem f141_273 : gm_fetch 141 273 = some (276, .iinc 3 1, 0, 0, 0, 0) := (fe141 273).trans rfl
set_option maxRecDepth 10000 in
theorem f141_276 : gm_fetch 141 276 = some (279, .goto (-106), 0, 170, 0, 0) := (fe141 276).trans rfl
set_option maxRecDepth 10000 in
theorem f141_279 : gm_fetch 141 279 = some (280, .return_, 0, 0, 0, 0) := (fe141 279).trans rfl
set_option maxRecDepth 10000 in
theorem rg141_0 {mi : Mi} {ml : Ml} {F : Mi → Ml → Prop} {x1 : Int32} {x2 : Int32}  (h : Sg 141 7 [some (.ref 47), some (.int x1), some (.int x2), some (.int 0), none, none, none] [] (va_up mi 47 (va_up (mi 47) 18 0)) ml (qv F)) : Sg 141 0 [some (.ref 47), some (.int x1), some (.int x2), none, none, none, none] [] mi ml (qv F) := by
  refine sg_ld f141_0 (v := .ref 47) rfl rfl ?_
  refine sg_psh f141_1 (v := .int 0) (by decide) ?_
  refine sg_puti f141_2 rfl rfl rfl (fun hz => by cases hz) ?_
  refine sg_psh f141_5 (v := .int 0) (by decide) ?_
  refine sg_st1 f141_6 (ls' := [some (.ref 47), some (.int x1), some (.int x2), some (.int 0), none, none, none]) rfl rfl rfl rfl ?_
  exact h

set_option maxRecDepth 10000 in
theorem rg141_7 {mi : Mi} {ml : Ml} {F : Mi → Ml → Prop} {x1 : Int32} {x2 : Int32} {x3 : Int32}  (h : (((1 <<< ((mi 47 6) &&& 31)) ≤ x3) → Sg 141 170 [some (.ref 47), some (.int x1), some (.int x2), some (.int 0), none, none, none] [] mi ml (qv F)) ∧ (¬ ((1 <<< ((mi 47 6) &&& 31)) ≤ x3) → Sg 119 0 [some (.long (Int32.toInt64 x3)), none, none, none] [] mi ml (qi fun y1 mi2 ml3 => ((¬ y1 = x1) → Sg 141 7 [some (.ref 47), some (.int x1), some (.int x2), some (.int (x3 + 1)), none, none, none] [] mi2 ml3 (qv F)) ∧ (¬ (¬ y1 = x1) → (vp_in (mi2 47 18) 40) ∧ (Sg 141 49 [some (.ref 47), some (.int x1), some (.int x2), some (.int x3), some (.int 0), none, none] [] (va_up (va_up mi2 54 (va_up (mi2 54) (Int32.toNatClampNeg (mi2 47 18)) x3)) 56 (va_up (mi2 56) (Int32.toNatClampNeg (mi2 47 18)) 1)) ml3 (qv F)))))) : Sg 141 7 [some (.ref 47), some (.int x1), some (.int x2), some (.int x3), none, none, none] [] mi ml (qv F) := by
  refine sg_ld f141_7 (v := .int x3) rfl rfl ?_
  refine sg_psh f141_8 (v := .int 1) (by decide) ?_
  refine sg_ld f141_9 (v := .ref 47) rfl rfl ?_
  refine sg_geti f141_10 rfl rfl (x := (mi 47 6)) rfl ?_
  refine sg_bin f141_13 rfl ?_
  refine sg_icmp f141_14 (fun c => ?_) (fun c => ?_)
  · have h := h.1 c
    refine sg_psh f141_168 (v := .int 0) (by decide) ?_
    refine sg_st1 f141_169 (ls' := [some (.ref 47), some (.int x1), some (.int x2), some (.int 0), none, none, none]) rfl rfl rfl rfl ?_
    exact h
  · have h := h.2 c
    refine sg_ld f141_17 (v := .int x3) rfl rfl ?_
    refine sg_i2l f141_18 ?_
    refine sg_cS f141_19 (vs := [.long (Int32.toInt64 x3)]) (rest := []) (en := [some (.long (Int32.toInt64 x3)), none, none, none]) (by decide) pq119 ⟨rfl, rfl⟩ rfl rfl rfl rfl rfl h ?_
    rintro _ mi2 ml3 ⟨y1, rfl, h⟩
    refine sg_ld f141_22 (v := .int x1) rfl rfl ?_
    refine sg_icmp f141_23 (fun c => ?_) (fun c => ?_)
    · have h := h.1 c
      refine sg_inc f141_162 (d := 1) (ls' := [some (.ref 47), some (.int x1), some (.int x2), some (.int (x3 + 1)), none, none, none]) rfl (by decide) rfl ?_
      refine sg_goto f141_165 ?_
      exact h
    · have h := h.2 c
      refine sg_ld f141_26 (v := .ref 47) rfl rfl ?_
      refine sg_getr f141_27 rfl rfl (w := 54) rfl ?_
      refine sg_ld f141_30 (v := .ref 47) rfl rfl ?_
      refine sg_geti f141_31 rfl rfl (x := (mi2 47 18)) rfl ?_
      refine sg_ld f141_34 (v := .int x3) rfl rfl ?_
      obtain ⟨e4, h⟩ := h
      refine sg_iast f141_35 rfl e4 ?_
      refine sg_ld f141_36 (v := .ref 47) rfl rfl ?_
      refine sg_getr f141_37 rfl rfl (w := 56) rfl ?_
      refine sg_ld f141_40 (v := .ref 47) rfl rfl ?_
      refine sg_geti f141_41 rfl rfl (x := (mi2 47 18)) rfl ?_
      refine sg_psh f141_44 (v := .int 1) (by decide) ?_
      refine sg_zast f141_45 rfl e4 (by decide) ?_
      refine sg_psh f141_46 (v := .int 0) (by decide) ?_
      refine sg_st1 f141_47 (ls' := [some (.ref 47), some (.int x1), some (.int x2), some (.int x3), some (.int 0), none, none]) rfl rfl rfl rfl ?_
      exact h

set_option maxRecDepth 10000 in
theorem rg141_49 {mi : Mi} {ml : Ml} {F : Mi → Ml → Prop} {x1 : Int32} {x2 : Int32} {x3 : Int32} {x4 : Int32}  (h : ((x1 ≤ x4) → Sg 141 7 [some (.ref 47), some (.int x1), some (.int x2), some (.int (x3 + 1)), none, none, none] [] (va_up mi 47 (va_up (mi 47) 18 ((mi 47 18) + 1))) ml (qv F)) ∧ (¬ (x1 ≤ x4) → Sg 140 0 [some (.int x3), some (.int x4), none, none] [] mi ml (qi fun y1 mi2 ml3 => (vp_in ((7 * (mi 47 18)) + x4) 280) ∧ ((vp_in (mi2 47 18) 40) ∧ ((((mi2 56 (Int32.toNatClampNeg (mi2 47 18))) = 0) → Sg 141 49 [some (.ref 47), some (.int x1), some (.int x2), some (.int x3), some (.int (x4 + 1)), none, none] [] (va_up (va_up mi2 55 (va_up (mi2 55) (Int32.toNatClampNeg ((7 * (mi 47 18)) + x4)) y1)) 56 (va_up (mi2 56) (Int32.toNatClampNeg (mi2 47 18)) 0)) ml3 (qv F)) ∧ (¬ ((mi2 56 (Int32.toNatClampNeg (mi2 47 18))) = 0) → ((x4 = 0) → Sg 141 49 [some (.ref 47), some (.int x1), some (.int x2), some (.int x3), some (.int (x4 + 1)), none, none] [] (va_up (va_up mi2 55 (va_up (mi2 55) (Int32.toNatClampNeg ((7 * (mi 47 18)) + x4)) y1)) 56 (va_up (mi2 56) (Int32.toNatClampNeg (mi2 47 18)) 1)) ml3 (qv F)) ∧ (¬ (x4 = 0) → (vp_in ((7 * (mi2 47 18)) + x4) 280) ∧ ((vp_in (((7 * (mi2 47 18)) + x4) - 1) 280) ∧ (((x2 < ((((va_up (mi2 55) (Int32.toNatClampNeg ((7 * (mi 47 18)) + x4)) y1) (Int32.toNatClampNeg ((7 * (mi2 47 18)) + x4))) - ((va_up (mi2 55) (Int32.toNatClampNeg ((7 * (mi 47 18)) + x4)) y1) (Int32.toNatClampNeg (((7 * (mi2 47 18)) + x4) - 1)))) - 1)) → Sg 141 49 [some (.ref 47), some (.int x1), some (.int x2), some (.int x3), some (.int (x4 + 1)), none, none] [] (va_up (va_up mi2 55 (va_up (mi2 55) (Int32.toNatClampNeg ((7 * (mi 47 18)) + x4)) y1)) 56 (va_up (mi2 56) (Int32.toNatClampNeg (mi2 47 18)) 0)) ml3 (qv F)) ∧ (¬ (x2 < ((((va_up (mi2 55) (Int32.toNatClampNeg ((7 * (mi 47 18)) + x4)) y1) (Int32.toNatClampNeg ((7 * (mi2 47 18)) + x4))) - ((va_up (mi2 55) (Int32.toNatClampNeg ((7 * (mi 47 18)) + x4)) y1) (Int32.toNatClampNeg (((7 * (mi2 47 18)) + x4) - 1)))) - 1)) → Sg 141 49 [some (.ref 47), some (.int x1), some (.int x2), some (.int x3), some (.int (x4 + 1)), none, none] [] (va_up (va_up mi2 55 (va_up (mi2 55) (Int32.toNatClampNeg ((7 * (mi 47 18)) + x4)) y1)) 56 (va_up (mi2 56) (Int32.toNatClampNeg (mi2 47 18)) 1)) ml3 (qv F))))))))))) : Sg 141 49 [some (.ref 47), some (.int x1), some (.int x2), some (.int x3), some (.int x4), none, none] [] mi ml (qv F) := by
  refine sg_ld f141_49 (v := .int x4) rfl rfl ?_
  refine sg_ld f141_51 (v := .int x1) rfl rfl ?_
  refine sg_icmp f141_52 (fun c => ?_) (fun c => ?_)
  · have h := h.1 c
    refine sg_ld f141_152 (v := .ref 47) rfl rfl ?_
    refine sg_dup f141_153 rfl ?_
    refine sg_geti f141_154 rfl rfl (x := (mi 47 18)) rfl ?_
    refine sg_psh f141_157 (v := .int 1) (by decide) ?_
    refine sg_bin f141_158 rfl ?_
    refine sg_puti f141_159 rfl rfl rfl (fun hz => by cases hz) ?_
    refine sg_inc f141_162 (d := 1) (ls' := [some (.ref 47), some (.int x1), some (.int x2), some (.int (x3 + 1)), some (.int x4), none, none]) rfl (by decide) rfl ?_
    refine sg_goto f141_165 ?_
    exact sg_drop [4] rfl h
  · have h := h.2 c
    refine sg_ld f141_55 (v := .ref 47) rfl rfl ?_
    refine sg_getr f141_56 rfl rfl (w := 55) rfl ?_
    refine sg_psh f141_59 (v := .int 7) (by decide) ?_
    refine sg_ld f141_61 (v := .ref 47) rfl rfl ?_
    refine sg_geti f141_62 rfl rfl (x := (mi 47 18)) rfl ?_
    refine sg_bin f141_65 rfl ?_
    refine sg_ld f141_66 (v := .int x4) rfl rfl ?_
    refine sg_bin f141_68 rfl ?_
    refine sg_ld f141_69 (v := .int x3) rfl rfl ?_
    refine sg_ld f141_70 (v := .int x4) rfl rfl ?_
    refine sg_cS f141_72 (vs := [.int x3, .int x4]) (rest := [.int ((7 * (mi 47 18)) + x4), .ref 55]) (en := [some (.int x3), some (.int x4), none, none]) (by decide) pq140 ⟨rfl, rfl⟩ rfl rfl rfl rfl rfl h ?_
    rintro _ mi2 ml3 ⟨y1, rfl, h⟩
    obtain ⟨e4, h⟩ := h
    refine sg_iast f141_75 rfl e4 ?_
    refine sg_ld f141_76 (v := .ref 47) rfl rfl ?_
    refine sg_getr f141_77 rfl rfl (w := 56) rfl ?_
    refine sg_ld f141_80 (v := .ref 47) rfl rfl ?_
    refine sg_geti f141_81 rfl rfl (x := (mi2 47 18)) rfl ?_
    refine sg_ld f141_84 (v := .ref 47) rfl rfl ?_
    refine sg_getr f141_85 rfl rfl (w := 56) rfl ?_
    refine sg_ld f141_88 (v := .ref 47) rfl rfl ?_
    refine sg_geti f141_89 rfl rfl (x := (mi2 47 18)) rfl ?_
    obtain ⟨e5, h⟩ := h
    refine sg_zald f141_92 rfl e5 (x := (mi2 56 (Int32.toNatClampNeg (mi2 47 18)))) rfl ?_
    refine sg_if f141_93 (fun c => ?_) (fun c => ?_)
    · have h := h.1 c
      refine sg_psh f141_144 (v := .int 0) (by decide) ?_
      refine sg_zast f141_145 rfl e5 (by decide) ?_
      refine sg_inc f141_146 (d := 1) (ls' := [some (.ref 47), some (.int x1), some (.int x2), some (.int x3), some (.int (x4 + 1)), none, none]) rfl (by decide) rfl ?_
      refine sg_goto f141_149 ?_
      exact h
    · have h := h.2 c
      refine sg_ld f141_96 (v := .int x4) rfl rfl ?_
      refine sg_if f141_98 (fun c => ?_) (fun c => ?_)
      · have h := h.1 c
        refine sg_psh f141_140 (v := .int 1) (by decide) ?_
        refine sg_goto f141_141 ?_
        refine sg_zast f141_145 rfl e5 (by decide) ?_
        refine sg_inc f141_146 (d := 1) (ls' := [some (.ref 47), some (.int x1), some (.int x2), some (.int x3), some (.int (x4 + 1)), none, none]) rfl (by decide) rfl ?_
        refine sg_goto f141_149 ?_
        exact h
      · have h := h.2 c
        refine sg_ld f141_101 (v := .ref 47) rfl rfl ?_
        refine sg_getr f141_102 rfl rfl (w := 55) rfl ?_
        refine sg_psh f141_105 (v := .int 7) (by decide) ?_
        refine sg_ld f141_107 (v := .ref 47) rfl rfl ?_
        refine sg_geti f141_108 rfl rfl (x := (mi2 47 18)) rfl ?_
        refine sg_bin f141_111 rfl ?_
        refine sg_ld f141_112 (v := .int x4) rfl rfl ?_
        refine sg_bin f141_114 rfl ?_
        obtain ⟨e6, h⟩ := h
        refine sg_iald f141_115 rfl e6 (x := ((va_up (mi2 55) (Int32.toNatClampNeg ((7 * (mi 47 18)) + x4)) y1) (Int32.toNatClampNeg ((7 * (mi2 47 18)) + x4)))) rfl ?_
        refine sg_ld f141_116 (v := .ref 47) rfl rfl ?_
        refine sg_getr f141_117 rfl rfl (w := 55) rfl ?_
        refine sg_psh f141_120 (v := .int 7) (by decide) ?_
        refine sg_ld f141_122 (v := .ref 47) rfl rfl ?_
        refine sg_geti f141_123 rfl rfl (x := (mi2 47 18)) rfl ?_
        refine sg_bin f141_126 rfl ?_
        refine sg_ld f141_127 (v := .int x4) rfl rfl ?_
        refine sg_bin f141_129 rfl ?_
        refine sg_psh f141_130 (v := .int 1) (by decide) ?_
        refine sg_bin f141_131 rfl ?_
        obtain ⟨e7, h⟩ := h
        refine sg_iald f141_132 rfl e7 (x := ((va_up (mi2 55) (Int32.toNatClampNeg ((7 * (mi 47 18)) + x4)) y1) (Int32.toNatClampNeg (((7 * (mi2 47 18)) + x4) - 1)))) rfl ?_
        refine sg_bin f141_133 rfl ?_
        refine sg_psh f141_134 (v := .int 1) (by decide) ?_
        refine sg_bin f141_135 rfl ?_
        refine sg_ld f141_136 (v := .int x2) rfl rfl ?_
        refine sg_icmp f141_137 (fun c => ?_) (fun c => ?_)
        · have h := h.1 c
          refine sg_psh f141_144 (v := .int 0) (by decide) ?_
          refine sg_zast f141_145 rfl e5 (by decide) ?_
          refine sg_inc f141_146 (d := 1) (ls' := [some (.ref 47), some (.int x1), some (.int x2), some (.int x3), some (.int (x4 + 1)), none, none]) rfl (by decide) rfl ?_
          refine sg_goto f141_149 ?_
          exact h
        · have h := h.2 c
          refine sg_psh f141_140 (v := .int 1) (by decide) ?_
          refine sg_goto f141_141 ?_
          refine sg_zast f141_145 rfl e5 (by decide) ?_
          refine sg_inc f141_146 (d := 1) (ls' := [some (.ref 47), some (.int x1), some (.int x2), some (.int x3), some (.int (x4 + 1)), none, none]) rfl (by decide) rfl ?_
          refine sg_goto f141_149 ?_
          exact h

set_option maxRecDepth 10000 in
theorem rg141_170 {mi : Mi} {ml : Ml} {F : Mi → Ml → Prop} {x1 : Int32} {x2 : Int32} {x3 : Int32}  (h : (((mi 47 18) ≤ x3) → F mi ml) ∧ (¬ ((mi 47 18) ≤ x3) → Sg 141 181 [some (.ref 47), some (.int x1), some (.int x2), some (.int x3), some (.int 0), none, none] [] mi ml (qv F))) : Sg 141 170 [some (.ref 47), some (.int x1), some (.int x2), some (.int x3), none, none, none] [] mi ml (qv F) := by
  refine sg_ld f141_170 (v := .int x3) rfl rfl ?_
  refine sg_ld f141_171 (v := .ref 47) rfl rfl ?_
  refine sg_geti f141_172 rfl rfl (x := (mi 47 18)) rfl ?_
  refine sg_icmp f141_175 (fun c => ?_) (fun c => ?_)
  · have h := h.1 c
    exact sg_ret f141_279 pq141 rfl h
  · have h := h.2 c
    refine sg_psh f141_178 (v := .int 0) (by decide) ?_
    refine sg_st1 f141_179 (ls' := [some (.ref 47), some (.int x1), some (.int x2), some (.int x3), some (.int 0), none, none]) rfl rfl rfl rfl ?_
    exact h

set_option maxRecDepth 10000 in
theorem rg141_181 {mi : Mi} {ml : Ml} {F : Mi → Ml → Prop} {x1 : Int32} {x2 : Int32} {x3 : Int32} {x4 : Int32}  (h : (((mi 47 18) ≤ x4) → Sg 141 170 [some (.ref 47), some (.int x1), some (.int x2), some (.int (x3 + 1)), none, none, none] [] mi ml (qv F)) ∧ (¬ ((mi 47 18) ≤ x4) → Sg 141 196 [some (.ref 47), some (.int x1), some (.int x2), some (.int x3), some (.int x4), some (.int 1), some (.int 0)] [] mi ml (qv F))) : Sg 141 181 [some (.ref 47), some (.int x1), some (.int x2), some (.int x3), some (.int x4), none, none] [] mi ml (qv F) := by
  refine sg_ld f141_181 (v := .int x4) rfl rfl ?_
  refine sg_ld f141_183 (v := .ref 47) rfl rfl ?_
  refine sg_geti f141_184 rfl rfl (x := (mi 47 18)) rfl ?_
  refine sg_icmp f141_187 (fun c => ?_) (fun c => ?_)
  · have h := h.1 c
    refine sg_inc f141_273 (d := 1) (ls' := [some (.ref 47), some (.int x1), some (.int x2), some (.int (x3 + 1)), some (.int x4), none, none]) rfl (by decide) rfl ?_
    refine sg_goto f141_276 ?_
    exact sg_drop [4] rfl h
  · have h := h.2 c
    refine sg_psh f141_190 (v := .int 1) (by decide) ?_
    refine sg_st1 f141_191 (ls' := [some (.ref 47), some (.int x1), some (.int x2), some (.int x3), some (.int x4), some (.int 1), none]) rfl rfl rfl rfl ?_
    refine sg_psh f141_193 (v := .int 0) (by decide) ?_
    refine sg_st1 f141_194 (ls' := [some (.ref 47), some (.int x1), some (.int x2), some (.int x3), some (.int x4), some (.int 1), some (.int 0)]) rfl rfl rfl rfl ?_
    exact h

set_option maxRecDepth 10000 in
theorem rg141_196 {mi : Mi} {ml : Ml} {F : Mi → Ml → Prop} {x1 : Int32} {x2 : Int32} {x3 : Int32} {x4 : Int32} {x5 : Int32} {x6 : Int32}  (h : ((x1 ≤ x6) → Sg 141 253 [some (.ref 47), some (.int x1), some (.int x2), some (.int x3), some (.int x4), some (.int x5), some (.int x6)] [] mi ml (qv F)) ∧ (¬ (x1 ≤ x6) → ((x5 = 0) → Sg 141 253 [some (.ref 47), some (.int x1), some (.int x2), some (.int x3), some (.int x4), some (.int x5), some (.int x6)] [] mi ml (qv F)) ∧ (¬ (x5 = 0) → (vp_in ((7 * x3) + x6) 280) ∧ ((vp_in ((7 * x4) + x6) 280) ∧ (Sg 118 0 [some (.int ((mi 55 (Int32.toNatClampNeg ((7 * x3) + x6))) - (mi 55 (Int32.toNatClampNeg ((7 * x4) + x6)))))] [] mi ml (qi fun y3 mi4 ml5 => ((x2 < y3) → Sg 141 196 [some (.ref 47), some (.int x1), some (.int x2), some (.int x3), some (.int x4), some (.int 0), some (.int (x6 + 1))] [] mi4 ml5 (qv F)) ∧ (¬ (x2 < y3) → Sg 141 196 [some (.ref 47), some (.int x1), some (.int x2), some (.int x3), some (.int x4), some (.int 1), some (.int (x6 + 1))] [] mi4 ml5 (qv F)))))))) : Sg 141 196 [some (.ref 47), some (.int x1), some (.int x2), some (.int x3), some (.int x4), some (.int x5), some (.int x6)] [] mi ml (qv F) := by
  refine sg_ld f141_196 (v := .int x6) rfl rfl ?_
  refine sg_ld f141_198 (v := .int x1) rfl rfl ?_
  refine sg_icmp f141_199 (fun c => ?_) (fun c => ?_)
  · have h := h.1 c
    exact h
  · have h := h.2 c
    refine sg_ld f141_202 (v := .int x5) rfl rfl ?_
    refine sg_if f141_204 (fun c => ?_) (fun c => ?_)
    · have h := h.1 c
      exact h
    · have h := h.2 c
      refine sg_ld f141_207 (v := .ref 47) rfl rfl ?_
      refine sg_getr f141_208 rfl rfl (w := 55) rfl ?_
      refine sg_psh f141_211 (v := .int 7) (by decide) ?_
      refine sg_ld f141_213 (v := .int x3) rfl rfl ?_
      refine sg_bin f141_214 rfl ?_
      refine sg_ld f141_215 (v := .int x6) rfl rfl ?_
      refine sg_bin f141_217 rfl ?_
      obtain ⟨e1, h⟩ := h
      refine sg_iald f141_218 rfl e1 (x := (mi 55 (Int32.toNatClampNeg ((7 * x3) + x6)))) rfl ?_
      refine sg_ld f141_219 (v := .ref 47) rfl rfl ?_
      refine sg_getr f141_220 rfl rfl (w := 55) rfl ?_
      refine sg_psh f141_223 (v := .int 7) (by decide) ?_
      refine sg_ld f141_225 (v := .int x4) rfl rfl ?_
      refine sg_bin f141_227 rfl ?_
      refine sg_ld f141_228 (v := .int x6) rfl rfl ?_
      refine sg_bin f141_230 rfl ?_
      obtain ⟨e2, h⟩ := h
      refine sg_iald f141_231 rfl e2 (x := (mi 55 (Int32.toNatClampNeg ((7 * x4) + x6)))) rfl ?_
      refine sg_bin f141_232 rfl ?_
      refine sg_cS f141_233 (vs := [.int ((mi 55 (Int32.toNatClampNeg ((7 * x3) + x6))) - (mi 55 (Int32.toNatClampNeg ((7 * x4) + x6))))]) (rest := []) (en := [some (.int ((mi 55 (Int32.toNatClampNeg ((7 * x3) + x6))) - (mi 55 (Int32.toNatClampNeg ((7 * x4) + x6)))))]) (by decide) pq118 ⟨rfl, rfl⟩ rfl rfl rfl rfl rfl h ?_
      rintro _ mi4 ml5 ⟨y3, rfl, h⟩
      refine sg_ld f141_236 (v := .int x2) rfl rfl ?_
      refine sg_icmp f141_237 (fun c => ?_) (fun c => ?_)
      · have h := h.1 c
        refine sg_psh f141_244 (v := .int 0) (by decide) ?_
        refine sg_st1 f141_245 (ls' := [some (.ref 47), some (.int x1), some (.int x2), some (.int x3), some (.int x4), some (.int 0), some (.int x6)]) rfl rfl rfl rfl ?_
        refine sg_inc f141_247 (d := 1) (ls' := [some (.ref 47), some (.int x1), some (.int x2), some (.int x3), some (.int x4), some (.int 0), some (.int (x6 + 1))]) rfl (by decide) rfl ?_
        refine sg_goto f141_250 ?_
        exact h
      · have h := h.2 c
        refine sg_psh f141_240 (v := .int 1) (by decide) ?_
        refine sg_goto f141_241 ?_
        refine sg_st1 f141_245 (ls' := [some (.ref 47), some (.int x1), some (.int x2), some (.int x3), some (.int x4), some (.int 1), some (.int x6)]) rfl rfl rfl rfl ?_
        refine sg_inc f141_247 (d := 1) (ls' := [some (.ref 47), some (.int x1), some (.int x2), some (.int x3), some (.int x4), some (.int 1), some (.int (x6 + 1))]) rfl (by decide) rfl ?_
        refine sg_goto f141_250 ?_
        exact h

set_option maxRecDepth 10000 in
theorem rg141_253 {mi : Mi} {ml : Ml} {F : Mi → Ml → Prop} {x1 : Int32} {x2 : Int32} {x3 : Int32} {x4 : Int32} {x5 : Int32} {x6 : Int32}  (h : (vp_in ((40 * x3) + x4) 1600) ∧ ((x5 = 0 ∨ x5 = 1) ∧ (Sg 141 181 [some (.ref 47), some (.int x1), some (.int x2), some (.int x3), some (.int (x4 + 1)), none, none] [] (va_up mi 57 (va_up (mi 57) (Int32.toNatClampNeg ((40 * x3) + x4)) x5)) ml (qv F)))) : Sg 141 253 [some (.ref 47), some (.int x1), some (.int x2), some (.int x3), some (.int x4), some (.int x5), some (.int x6)] [] mi ml (qv F) := by
  refine sg_ld f141_253 (v := .ref 47) rfl rfl ?_
  refine sg_getr f141_254 rfl rfl (w := 57) rfl ?_
  refine sg_psh f141_257 (v := .int 40) (by decide) ?_
  refine sg_ld f141_259 (v := .int x3) rfl rfl ?_
  refine sg_bin f141_260 rfl ?_
  refine sg_ld f141_261 (v := .int x4) rfl rfl ?_
  refine sg_bin f141_263 rfl ?_
  refine sg_ld f141_264 (v := .int x5) rfl rfl ?_
  obtain ⟨e1, h⟩ := h
  obtain ⟨e2, h⟩ := h
  refine sg_zast f141_266 rfl e1 e2 ?_
  refine sg_inc f141_267 (d := 1) (ls' := [some (.ref 47), some (.int x1), some (.int x2), some (.int x3), some (.int (x4 + 1)), some (.int x5), some (.int x6)]) rfl (by decide) rfl ?_
  refine sg_goto f141_270 ?_
  exact sg_drop [5, 6] rfl h

/-! X7_seatsNow ()V -/
theorem fe142 (pc : Nat) : gm_fetch 142 pc = gm_find pc cd_142 := rfl
theorem f142_0 : gm_fetch 142 0 = some (1, .aload_n 0, 0, 0, 0, 0) := (fe142 0).trans rfl
theorem f142_1 : gm_fetch 142 1 = some (2, .aload_n 0, 0, 0, 0, 0) := (fe142 1).trans rfl
theorem f142_2 : gm_fetch 142 2 = some (5, .getfield 84, 91, 7, 7, 0) := (fe142 2).trans rfl
theorem f142_5 : gm_fetch 142 5 = some (6, .aload_n 0, 0, 0, 0, 0) := (fe142 5).trans rfl
theorem f142_6 : gm_fetch 142 6 = some (9, .getfield 87, 92, 7, 8, 0) := (fe142 6).trans rfl
theorem f142_9 : gm_fetch 142 9 = some (12, .invokevirtual 167, 182, 141, 0, 0) := (fe142 9).trans rfl
theorem f142_12 : gm_fetch 142 12 = some (13, .return_, 0, 0, 0, 0) := (fe142 12).trans rfl
set_option maxRecDepth 10000 in
theorem rg142_0 {mi : Mi} {ml : Ml} {F : Mi → Ml → Prop}   (h : Sg 141 0 [some (.ref 47), some (.int (mi 47 7)), some (.int (mi 47 8)), none, none, none, none] [] mi ml (qv fun mi2 ml3 => F mi2 ml3)) : Sg 142 0 [some (.ref 47)] [] mi ml (qv F) := by
  refine sg_ld f142_0 (v := .ref 47) rfl rfl ?_
  refine sg_ld f142_1 (v := .ref 47) rfl rfl ?_
  refine sg_geti f142_2 rfl rfl (x := (mi 47 7)) rfl ?_
  refine sg_ld f142_5 (v := .ref 47) rfl rfl ?_
  refine sg_geti f142_6 rfl rfl (x := (mi 47 8)) rfl ?_
  refine sg_cV f142_9 (vs := [.int (mi 47 7), .int (mi 47 8)]) (r := 47) (rest := []) (en := [some (.ref 47), some (.int (mi 47 7)), some (.int (mi 47 8)), none, none, none, none]) pq141 ⟨rfl, rfl⟩ rfl rfl rfl rfl rfl rfl h ?_
  intro _ mi2 ml3 h
  have h := gm_qv h
  exact sg_ret f142_12 pq142 rfl h

/-! X7_fits (II)Z -/
theorem fe143 (pc : Nat) : gm_fetch 143 pc = gm_find pc cd_143 := rfl
theorem f143_0 : gm_fetch 143 0 = some (1, .aload_n 0, 0, 0, 0, 0) := (fe143 0).trans rfl
theorem f143_1 : gm_fetch 143 1 = some (4, .getfield 34, 100, 7, 16, 0) := (fe143 1).trans rfl
theorem f143_4 : gm_fetch 143 4 = some (5, .iload_n 2, 0, 0, 0, 0) := (fe143 4).trans rfl
theorem f143_5 : gm_fetch 143 5 = some (6, .baload, 0, 0, 0, 0) := (fe143 5).trans rfl
theorem f143_6 : gm_fetch 143 6 = some (9, .ifCond .eq 23, 0, 29, 0, 0) := (fe143 6).trans rfl
theorem f143_9 : gm_fetch 143 9 = some (10, .aload_n 0, 0, 0, 0, 0) := (fe143 9).trans rfl
theorem f143_10 : gm_fetch 143 10 = some (13, .getfield 22, 94, 7, 10, 0) := (fe143 10).trans rfl
theorem f143_13 : gm_fetch 143 13 = some (14, .iload_n 1, 0, 0, 0, 0) := (fe143 13).trans rfl
theorem f143_14 : gm_fetch 143 14 = some (15, .iaload, 0, 0, 0, 0) := (fe143 14).trans rfl
theorem f143_15 : gm_fetch 143 15 = some (16, .aload_n 0, 0, 0, 0, 0) := (fe143 15).trans rfl
theorem f143_16 : gm_fetch 143 16 = some (19, .getfield 28, 98, 7, 14, 0) := (fe143 16).trans rfl
theorem f143_19 : gm_fetch 143 19 = some (20, .iload_n 2, 0, 0, 0, 0) := (fe143 19).trans rfl
theorem f143_20 : gm_fetch 143 20 = some (21, .iaload, 0, 0, 0, 0) := (fe143 20).trans rfl
theorem f143_21 : gm_fetch 143 21 = some (22, .iand, 0, 0, 0, 0) := (fe143 21).trans rfl
theorem f143_22 : gm_fetch 143 22 = some (25, .ifCond .ne 7, 0, 29, 0, 0) := (fe143 22).trans rfl
theorem f143_25 : gm_fetch 143 25 = some (26, .iconst 1, 0, 0, 0, 0) := (fe143 25).trans rfl
theorem f143_26 : gm_fetch 143 26 = some (29, .goto 4, 0, 30, 0, 0) := (fe143 26).trans rfl
theorem f143_29 : gm_fetch 143 29 = some (30, .iconst 0, 0, 0, 0, 0) := (fe143 29).trans rfl
theorem f143_30 : gm_fetch 143 30 = some (31, .ireturn, 0, 0, 0, 0) := (fe143 30).trans rfl
set_option maxRecDepth 10000 in
theorem rg143_0 {mi : Mi} {ml : Ml} {F : Int32 → Mi → Ml → Prop} {x1 : Int32} {x2 : Int32}  (h : (vp_in x2 40) ∧ ((((mi 56 (Int32.toNatClampNeg x2)) = 0) → F 0 mi ml) ∧ (¬ ((mi 56 (Int32.toNatClampNeg x2)) = 0) → (vp_in x1 7) ∧ (((¬ ((mi 52 (Int32.toNatClampNeg x1)) &&& (mi 54 (Int32.toNatClampNeg x2))) = 0) → F 0 mi ml) ∧ (¬ (¬ ((mi 52 (Int32.toNatClampNeg x1)) &&& (mi 54 (Int32.toNatClampNeg x2))) = 0) → F 1 mi ml))))) : Sg 143 0 [some (.ref 47), some (.int x1), some (.int x2)] [] mi ml (qi F) := by
  refine sg_ld f143_0 (v := .ref 47) rfl rfl ?_
  refine sg_getr f143_1 rfl rfl (w := 56) rfl ?_
  refine sg_ld f143_4 (v := .int x2) rfl rfl ?_
  obtain ⟨e1, h⟩ := h
  refine sg_zald f143_5 rfl e1 (x := (mi 56 (Int32.toNatClampNeg x2))) rfl ?_
  refine sg_if f143_6 (fun c => ?_) (fun c => ?_)
  · have h := h.1 c
    refine sg_psh f143_29 (v := .int 0) (by decide) ?_
    exact sg_iret f143_30 pq143 rfl (by decide) ⟨_, rfl, h⟩
  · have h := h.2 c
    refine sg_ld f143_9 (v := .ref 47) rfl rfl ?_
    refine sg_getr f143_10 rfl rfl (w := 52) rfl ?_
    refine sg_ld f143_13 (v := .int x1) rfl rfl ?_
    obtain ⟨e2, h⟩ := h
    refine sg_iald f143_14 rfl e2 (x := (mi 52 (Int32.toNatClampNeg x1))) rfl ?_
    refine sg_ld f143_15 (v := .ref 47) rfl rfl ?_
    refine sg_getr f143_16 rfl rfl (w := 54) rfl ?_
    refine sg_ld f143_19 (v := .int x2) rfl rfl ?_
    refine sg_iald f143_20 rfl e1 (x := (mi 54 (Int32.toNatClampNeg x2))) rfl ?_
    refine sg_bin f143_21 rfl ?_
    refine sg_if f143_22 (fun c => ?_) (fun c => ?_)
    · have h := h.1 c
      refine sg_psh f143_29 (v := .int 0) (by decide) ?_
      exact sg_iret f143_30 pq143 rfl (by decide) ⟨_, rfl, h⟩
    · have h := h.2 c
      refine sg_psh f143_25 (v := .int 1) (by decide) ?_
      refine sg_goto f143_26 ?_
      exact sg_iret f143_30 pq143 rfl (by decide) ⟨_, rfl, h⟩

/-! X7_isWhole (II)Z -/
theorem fe144 (pc : Nat) : gm_fetch 144 pc = gm_find pc cd_144 := rfl
set_option maxRecDepth 10000 in
theorem f144_0 : gm_fetch 144 0 = some (1, .iconst 0, 0, 0, 0, 0) := (fe144 0).trans rfl
set_option maxRecDepth 10000 in
theorem f144_1 : gm_fetch 144 1 = some (2, .istore_n 3, 0, 0, 0, 0) := (fe144 1).trans rfl
set_option maxRecDepth 10000 in
theorem f144_2 : gm_fetch 144 2 = some (3, .iload_n 1, 0, 0, 0, 0) := (fe144 2).trans rfl
set_option maxRecDepth 10000 in
theorem f144_3 : gm_fetch 144 3 = some (5, .istore 4, 0, 0, 0, 0) := (fe144 3).trans rfl
set_option maxRecDepth 10000 in
theorem f144_5 : gm_fetch 144 5 = some (7, .iload 4, 0, 0, 0, 0) := (fe144 5).trans rfl
set_option maxRecDepth 10000 in
theorem f144_7 : gm_fetch 144 7 = some (8, .iload_n 2, 0, 0, 0, 0) := (fe144 7).trans rfl
set_option maxRecDepth 10000 in
theorem f144_8 : gm_fetch 144 8 = some (11, .if_icmp .gt 178, 0, 186, 0, 0) := (fe144 8).trans rfl
set_option maxRecDepth 10000 in
theorem f144_11 : gm_fetch 144 11 = some (12, .iconst 0, 0, 0, 0, 0) := (fe144 11).trans rfl
set_option maxRecDepth 10000 in
theorem f144_12 : gm_fetch 144 12 = some (13, .istore_n 3, 0, 0, 0, 0) := (fe144 12).trans rfl
set_option maxRecDepth 10000 in
theorem f144_13 : gm_fetch 144 13 = some (14, .iconst 0, 0, 0, 0, 0) := (fe144 13).trans rfl
set_option maxRecDepth 10000 in
theorem f144_14 : gm_fetch 144 14 = some (16, .istore 5, 0, 0, 0, 0) := (fe144 14).trans rfl
set_option maxRecDepth 10000 in
theorem f144_16 : gm_fetch 144 16 = some (18, .iload 5, 0, 0, 0, 0) := (fe144 16).trans rfl
set_option maxRecDepth 10000 in
theorem f144_18 : gm_fetch 144 18 = some (19, .aload_n 0, 0, 0, 0, 0) := (fe144 18).trans rfl
set_option maxRecDepth 10000 in
theorem f144_19 : gm_fetch 144 19 = some (22, .getfield 158, 102, 7, 18, 0) := (fe144 19).trans rfl
set_option maxRecDepth 10000 in
theorem f144_22 : gm_fetch 144 22 = some (25, .if_icmp .ge 126, 0, 148, 0, 0) := (fe144 22).trans rfl
set_option maxRecDepth 10000 in
theorem f144_25 : gm_fetch 144 25 = some (27, .iload 4, 0, 0, 0, 0) := (fe144 25).trans rfl
set_option maxRecDepth 10000 in
theorem f144_27 : gm_fetch 144 27 = some (28, .iload_n 1, 0, 0, 0, 0) := (fe144 27).trans rfl
set_option maxRecDepth 10000 in
theorem f144_28 : gm_fetch 144 28 = some (31, .if_icmp .ne 7, 0, 35, 0, 0) := (fe144 28).trans rfl
set_option maxRecDepth 10000 in
theorem f144_31 : gm_fetch 144 31 = some (32, .iconst 1, 0, 0, 0, 0) := (fe144 31).trans rfl
set_option maxRecDepth 10000 in
theorem f144_32 : gm_fetch 144 32 = some (35, .goto 4, 0, 36, 0, 0) := (fe144 32).trans rfl
set_option maxRecDepth 10000 in
theorem f144_35 : gm_fetch 144 35 = some (36, .iconst 0, 0, 0, 0, 0) := (fe144 35).trans rfl
set_option maxRecDepth 10000 in
theorem f144_36 : gm_fetch 144 36 = some (38, .istore 6, 0, 0, 0, 0) := (fe144 36).trans rfl
set_option maxRecDepth 10000 in
theorem f144_38 : gm_fetch 144 38 = some (39, .iconst 0, 0, 0, 0, 0) := (fe144 38).trans rfl
set_option maxRecDepth 10000 in
theorem f144_39 : gm_fetch 144 39 = some (41, .istore 7, 0, 0, 0, 0) := (fe144 39).trans rfl
set_option maxRecDepth 10000 in
theorem f144_41 : gm_fetch 144 41 = some (43, .iload 7, 0, 0, 0, 0) := (fe144 41).trans rfl
set_option maxRecDepth 10000 in
theorem f144_43 : gm_fetch 144 43 = some (44, .aload_n 0, 0, 0, 0, 0) := (fe144 43).trans rfl
set_option maxRecDepth 10000 in
theorem f144_44 : gm_fetch 144 44 = some (47, .getfield 158, 102, 7, 18, 0) := (fe144 44).trans rfl
set_option maxRecDepth 10000 in
theorem f144_47 : gm_fetch 144 47 = some (50, .if_icmp .ge 47, 0, 94, 0, 0) := (fe144 47).trans rfl
set_option maxRecDepth 10000 in
theorem f144_50 : gm_fetch 144 50 = some (52, .iload 6, 0, 0, 0, 0) := (fe144 50).trans rfl
set_option maxRecDepth 10000 in
theorem f144_52 : gm_fetch 144 52 = some (55, .ifCond .ne 42, 0, 94, 0, 0) := (fe144 52).trans rfl
set_option maxRecDepth 10000 in
theorem f144_55 : gm_fetch 144 55 = some (56, .aload_n 0, 0, 0, 0, 0) := (fe144 55).trans rfl
set_option maxRecDepth 10000 in
theorem f144_56 : gm_fetch 144 56 = some (59, .getfield 41, 103, 7, 19, 0) := (fe144 56).trans rfl
set_option maxRecDepth 10000 in
theorem f144_59 : gm_fetch 144 59 = some (61, .iload 7, 0, 0, 0, 0) := (fe144 59).trans rfl
set_option maxRecDepth 10000 in
theorem f144_61 : gm_fetch 144 61 = some (62, .baload, 0, 0, 0, 0) := (fe144 61).trans rfl
set_option maxRecDepth 10000 in
theorem f144_62 : gm_fetch 144 62 = some (65, .ifCond .eq 23, 0, 85, 0, 0) := (fe144 62).trans rfl
set_option maxRecDepth 10000 in
theorem f144_65 : gm_fetch 144 65 = some (66, .aload_n 0, 0, 0, 0, 0) := (fe144 65).trans rfl
set_option maxRecDepth 10000 in
theorem f144_66 : gm_fetch 144 66 = some (69, .getfield 38, 101, 7, 17, 0) := (fe144 66).trans rfl
set_option maxRecDepth 10000 in
theorem f144_69 : gm_fetch 144 69 = some (71, .bipush 40, 0, 0, 0, 0) := (fe144 69).trans rfl
set_option maxRecDepth 10000 in
theorem f144_71 : gm_fetch 144 71 = some (73, .iload 7, 0, 0, 0, 0) := (fe144 71).trans rfl
set_option maxRecDepth 10000 in
theorem f144_73 : gm_fetch 144 73 = some (74, .imul, 0, 0, 0, 0) := (fe144 73).trans rfl
set_option maxRecDepth 10000 in
theorem f144_74 : gm_fetch 144 74 = some (76, .iload 5, 0, 0, 0, 0) := (fe144 74).trans rfl
set_option maxRecDepth 10000 in
theorem f144_76 : gm_fetch 144 76 = some (77, .iadd, 0, 0, 0, 0) := (fe144 76).trans rfl
set_option maxRecDepth 10000 in
theorem f144_77 : gm_fetch 144 77 = some (78, .baload, 0, 0, 0, 0) := (fe144 77).trans rfl
set_option maxRecDepth 10000 in
theorem f144_78 : gm_fetch 144 78 = some (81, .ifCond .eq 7, 0, 85, 0, 0) := (fe144 78).trans rfl
set_option maxRecDepth 10000 in
theorem f144_81 : gm_fetch 144 81 = some (82, .iconst 1, 0, 0, 0, 0) := (fe144 81).trans rfl
set_option maxRecDepth 10000 in
theorem f144_82 : gm_fetch 144 82 = some (85, .goto 4, 0, 86, 0, 0) := (fe144 82).trans rfl
set_option maxRecDepth 10000 in
theorem f144_85 : gm_fetch 144 85 = some (86, .iconst 0, 0, 0, 0, 0) := (fe144 85).trans rfl
set_option maxRecDepth 10000 in
theorem f144_86 : gm_fetch 144 86 = some (88, .istore 6, 0, 0, 0, 0) := (fe144 86).trans rfl
set_option maxRecDepth 10000 in
theorem f144_88 : gm_fetch 144 88 = some (91, .iinc 7 1, 0, 0, 0, 0) := (fe144 88).trans rfl
set_option maxRecDepth 10000 in
theorem f144_91 : gm_fetch 144 91 = some (94, .goto (-50), 0, 41, 0, 0) := (fe144 91).trans rfl
set_option maxRecDepth 10000 in
theorem f144_94 : gm_fetch 144 94 = some (95, .aload_n 0, 0, 0, 0, 0) := (fe144 94).trans rfl
set_option maxRecDepth 10000 in
theorem f144_95 : gm_fetch 144 95 = some (98, .getfield 44, 104, 7, 20, 0) := (fe144 95).trans rfl
set_option maxRecDepth 10000 in
theorem f144_98 : gm_fetch 144 98 = some (100, .iload 5, 0, 0, 0, 0) := (fe144 98).trans rfl
set_option maxRecDepth 10000 in
theorem f144_100 : gm_fetch 144 100 = some (102, .iload 6, 0, 0, 0, 0) := (fe144 100).trans rfl
set_option maxRecDepth 10000 in
theorem f144_102 : gm_fetch 144 102 = some (105, .ifCond .eq 18, 0, 120, 0, 0) := (fe144 102).trans rfl
set_option maxRecDepth 10000 in
theorem f144_105 : gm_fetch 144 105 = some (106, .aload_n 0, 0, 0, 0, 0) := (fe144 105).trans rfl
set_option maxRecDepth 10000 in
theorem f144_106 : gm_fetch 144 106 = some (108, .iload 4, 0, 0, 0, 0) := (fe144 106).trans rfl
set_option maxRecDepth 10000 in
theorem f144_108 : gm_fetch 144 108 = some (110, .iload 5, 0, 0, 0, 0) := (fe144 108).trans rfl
set_option maxRecDepth 10000 in
theorem f144_110 : gm_fetch 144 110 = some (113, .invokevirtual 171, 187, 143, 0, 0) := (fe144 110).trans rfl
set_option maxRecDepth 10000 in
theorem f144_113 : gm_fetch 144 113 = some (116, .ifCond .eq 7, 0, 120, 0, 0) := (fe144 113).trans rfl
set_option maxRecDepth 10000 in
theorem f144_116 : gm_fetch 144 116 = some (117, .iconst 1, 0, 0, 0, 0) := (fe144 116).trans rfl
set_option maxRecDepth 10000 in
theorem f144_117 : gm_fetch 144 117 = some (120, .goto 4, 0, 121, 0, 0) := (fe144 117).trans rfl
set_option maxRecDepth 10000 in
theorem f144_120 : gm_fetch 144 120 = some (121, .iconst 0, 0, 0, 0, 0) := (fe144 120).trans rfl
set_option maxRecDepth 10000 in
theorem f144_121 : gm_fetch 144 121 = some (122, .bastore, 0, 0, 0, 0) := (fe144 121).trans rfl
set_option maxRecDepth 10000 in
theorem f144_122 : gm_fetch 144 122 = some (123, .iload_n 3, 0, 0, 0, 0) := (fe144 122).trans rfl
set_option maxRecDepth 10000 in
theorem f144_123 : gm_fetch 144 123 = some (126, .ifCond .ne 13, 0, 136, 0, 0) := (fe144 123).trans rfl
set_option maxRecDepth 10000 in
theorem f144_126 : gm_fetch 144 126 = some (127, .aload_n 0, 0, 0, 0, 0) := (fe144 126).trans rfl
set_option maxRecDepth 10000 in
theorem f144_127 : gm_fetch 144 127 = some (130, .getfield 44, 104, 7, 20, 0) := (fe144 127).trans rfl
set_option maxRecDepth 10000 in
theorem f144_130 : gm_fetch 144 130 = some (132, .iload 5, 0, 0, 0, 0) := (fe144 130).trans rfl
set_option maxRecDepth 10000 in
theorem f144_132 : gm_fetch 144 132 = some (133, .baload, 0, 0, 0, 0) := (fe144 132).trans rfl
set_option maxRecDepth 10000 in
theorem f144_133 : gm_fetch 144 133 = some (136, .ifCond .eq 7, 0, 140, 0, 0) := (fe144 133).trans rfl
set_option maxRecDepth 10000 in
theorem f144_136 : gm_fetch 144 136 = some (137, .iconst 1, 0, 0, 0, 0) := (fe144 136).trans rfl
set_option maxRecDepth 10000 in
theorem f144_137 : gm_fetch 144 137 = some (140, .goto 4, 0, 141, 0, 0) := (fe144 137).trans rfl
set_option maxRecDepth 10000 in
theorem f144_140 : gm_fetch 144 140 = some (141, .iconst 0, 0, 0, 0, 0) := (fe144 140).trans rfl
set_option maxRecDepth 10000 in
theorem f144_141 : gm_fetch 144 141 = some (142, .istore_n 3, 0, 0, 0, 0) := (fe144 141).trans rfl
set_option maxRecDepth 10000 in
theorem f144_142 : gm_fetch 144 142 = some (145, .iinc 5 1, 0, 0, 0, 0) := (fe144 142).trans rfl
set_option maxRecDepth 10000 in
theorem f144_145 : gm_fetch 144 145 = some (148, .goto (-129), 0, 16, 0, 0) := (fe144 145).trans rfl
set_option maxRecDepth 10000 in
theorem f144_148 : gm_fetch 144 148 = some (149, .iconst 0, 0, 0, 0, 0) := (fe144 148).trans rfl
set_option maxRecDepth 10000 in
theorem f144_149 : gm_fetch 144 149 = some (151, .istore 5, 0, 0, 0, 0) := (fe144 149).trans rfl
set_option maxRecDepth 10000 in
theorem f144_151 : gm_fetch 144 151 = some (153, .iload 5, 0, 0, 0, 0) := (fe144 151).trans rfl
set_option maxRecDepth 10000 in
theorem f144_153 : gm_fetch 144 153 = some (154, .aload_n 0, 0, 0, 0, 0) := (fe144 153).trans rfl
set_option maxRecDepth 10000 in
theorem f144_154 : gm_fetch 144 154 = some (157, .getfield 158, 102, 7, 18, 0) := (fe144 154).trans rfl
set_option maxRecDepth 10000 in
theorem f144_157 : gm_fetch 144 157 = some (160, .if_icmp .ge 23, 0, 180, 0, 0) := (fe144 157).trans rfl
set_option maxRecDepth 10000 in
theorem f144_160 : gm_fetch 144 160 = some (161, .aload_n 0, 0, 0, 0, 0) := (fe144 160).trans rfl
set_option maxRecDepth 10000 in
theorem f144_161 : gm_fetch 144 161 = some (164, .getfield 41, 103, 7, 19, 0) := (fe144 161).trans rfl
set_option maxRecDepth 10000 in
theorem f144_164 : gm_fetch 144 164 = some (166, .iload 5, 0, 0, 0, 0) := (fe144 164).trans rfl
set_option maxRecDepth 10000 in
theorem f144_166 : gm_fetch 144 166 = some (167, .aload_n 0, 0, 0, 0, 0) := (fe144 166).trans rfl
set_option maxRecDepth 10000 in
theorem f144_167 : gm_fetch 144 167 = some (170, .getfield 44, 104, 7, 20, 0) := (fe144 167).trans rfl
set_option maxRecDepth 10000 in
theorem f144_170 : gm_fetch 144 170 = some (172, .iload 5, 0, 0, 0, 0) := (fe144 170).trans rfl
set_option maxRecDepth 10000 in
theorem f144_172 : gm_fetch 144 172 = some (173, .baload, 0, 0, 0, 0) := (fe144 172).trans rfl
set_option maxRecDepth 10000 in
theorem f144_173 : gm_fetch 144 173 = some (174, .bastore, 0, 0, 0, 0) := (fe144 173).trans rfl
set_option maxRecDepth 10000 in
theorem f144_174 : gm_fetch 144 174 = some (177, .iinc 5 1, 0, 0, 0, 0) := (fe144 174).trans rfl
set_option maxRecDepth 10000 in
theorem f144_177 : gm_fetch 144 177 = some (180, .goto (-26), 0, 151, 0, 0) := (fe144 177).trans rfl
set_option maxRecDepth 10000 in
theorem f144_180 : gm_fetch 144 180 = some (183, .iinc 4 1, 0, 0, 0, 0) := (fe144 180).trans rfl
set_option maxRecDepth 10000 in
theorem f144_183 : gm_fetch 144 183 = some (186, .goto (-178), 0, 5, 0, 0) := (fe144 183).trans rfl
set_option maxRecDepth 10000 in
theorem f144_186 : gm_fetch 144 186 = some (187, .iload_n 3, 0, 0, 0, 0) := (fe144 186).trans rfl
set_option maxRecDepth 10000 in
theorem f144_187 : gm_fetch 144 187 = some (188, .ireturn, 0, 0, 0, 0) := (fe144 187).trans rfl
set_option maxRecDepth 10000 in
theorem rg144_0 {mi : Mi} {ml : Ml} {F : Int32 → Mi → Ml → Prop} {x1 : Int32} {x2 : Int32}  (h : Sg 144 5 [some (.ref 47), some (.int x1), some (.int x2), some (.int 0), some (.int x1), none, none, none] [] mi ml (qi F)) : Sg 144 0 [some (.ref 47), some (.int x1), some (.int x2), none, none, none, none, none] [] mi ml (qi F) := by
  refine sg_psh f144_0 (v := .int 0) (by decide) ?_
  refine sg_st1 f144_1 (ls' := [some (.ref 47), some (.int x1), some (.int x2), some (.int 0), none, none, none, none]) rfl rfl rfl rfl ?_
  refine sg_ld f144_2 (v := .int x1) rfl rfl ?_
  refine sg_st1 f144_3 (ls' := [some (.ref 47), some (.int x1), some (.int x2), some (.int 0), some (.int x1), none, none, none]) rfl rfl rfl rfl ?_
  exact h

set_option maxRecDepth 10000 in
theorem rg144_5 {mi : Mi} {ml : Ml} {F : Int32 → Mi → Ml → Prop} {x1 : Int32} {x2 : Int32} {x3 : Int32} {x4 : Int32}  (h : ((x2 < x4) → (x3 = 0 ∨ x3 = 1) ∧ F x3 mi ml) ∧ (¬ (x2 < x4) → Sg 144 16 [some (.ref 47), some (.int x1), some (.int x2), some (.int 0), some (.int x4), some (.int 0), none, none] [] mi ml (qi F))) : Sg 144 5 [some (.ref 47), some (.int x1), some (.int x2), some (.int x3), some (.int x4), none, none, none] [] mi ml (qi F) := by
  refine sg_ld f144_5 (v := .int x4) rfl rfl ?_
  refine sg_ld f144_7 (v := .int x2) rfl rfl ?_
  refine sg_icmp f144_8 (fun c => ?_) (fun c => ?_)
  · have h := h.1 c
    refine sg_ld f144_186 (v := .int x3) rfl rfl ?_
    exact sg_iret f144_187 pq144 rfl (gm_nz h.1) ⟨_, rfl, h.2⟩
  · have h := h.2 c
    refine sg_psh f144_11 (v := .int 0) (by decide) ?_
    refine sg_st1 f144_12 (ls' := [some (.ref 47), some (.int x1), some (.int x2), some (.int 0), some (.int x4), none, none, none]) rfl rfl rfl rfl ?_
    refine sg_psh f144_13 (v := .int 0) (by decide) ?_
    refine sg_st1 f144_14 (ls' := [some (.ref 47), some (.int x1), some (.int x2), some (.int 0), some (.int x4), some (.int 0), none, none]) rfl rfl rfl rfl ?_
    exact h

set_option maxRecDepth 10000 in
theorem rg144_16 {mi : Mi} {ml : Ml} {F : Int32 → Mi → Ml → Prop} {x1 : Int32} {x2 : Int32} {x3 : Int32} {x4 : Int32} {x5 : Int32}  (h : (((mi 47 18) ≤ x5) → Sg 144 151 [some (.ref 47), some (.int x1), some (.int x2), some (.int x3), some (.int x4), some (.int 0), none, none] [] mi ml (qi F)) ∧ (¬ ((mi 47 18) ≤ x5) → ((¬ x4 = x1) → Sg 144 41 [some (.ref 47), some (.int x1), some (.int x2), some (.int x3), some (.int x4), some (.int x5), some (.int 0), some (.int 0)] [] mi ml (qi F)) ∧ (¬ (¬ x4 = x1) → Sg 144 41 [some (.ref 47), some (.int x1), some (.int x2), some (.int x3), some (.int x4), some (.int x5), some (.int 1), some (.int 0)] [] mi ml (qi F)))) : Sg 144 16 [some (.ref 47), some (.int x1), some (.int x2), some (.int x3), some (.int x4), some (.int x5), none, none] [] mi ml (qi F) := by
  refine sg_ld f144_16 (v := .int x5) rfl rfl ?_
  refine sg_ld f144_18 (v := .ref 47) rfl rfl ?_
  refine sg_geti f144_19 rfl rfl (x := (mi 47 18)) rfl ?_
  refine sg_icmp f144_22 (fun c => ?_) (fun c => ?_)
  · have h := h.1 c
    refine sg_psh f144_148 (v := .int 0) (by decide) ?_
    refine sg_st1 f144_149 (ls' := [some (.ref 47), some (.int x1), some (.int x2), some (.int x3), some (.int x4), some (.int 0), none, none]) rfl rfl rfl rfl ?_
    exact h
  · have h := h.2 c
    refine sg_ld f144_25 (v := .int x4) rfl rfl ?_
    refine sg_ld f144_27 (v := .int x1) rfl rfl ?_
    refine sg_icmp f144_28 (fun c => ?_) (fun c => ?_)
    · have h := h.1 c
      refine sg_psh f144_35 (v := .int 0) (by decide) ?_
      refine sg_st1 f144_36 (ls' := [some (.ref 47), some (.int x1), some (.int x2), some (.int x3), some (.int x4), some (.int x5), some (.int 0), none]) rfl rfl rfl rfl ?_
      refine sg_psh f144_38 (v := .int 0) (by decide) ?_
      refine sg_st1 f144_39 (ls' := [some (.ref 47), some (.int x1), some (.int x2), some (.int x3), some (.int x4), some (.int x5), some (.int 0), some (.int 0)]) rfl rfl rfl rfl ?_
      exact h
    · have h := h.2 c
      refine sg_psh f144_31 (v := .int 1) (by decide) ?_
      refine sg_goto f144_32 ?_
      refine sg_st1 f144_36 (ls' := [some (.ref 47), some (.int x1), some (.int x2), some (.int x3), some (.int x4), some (.int x5), some (.int 1), none]) rfl rfl rfl rfl ?_
      refine sg_psh f144_38 (v := .int 0) (by decide) ?_
      refine sg_st1 f144_39 (ls' := [some (.ref 47), some (.int x1), some (.int x2), some (.int x3), some (.int x4), some (.int x5), some (.int 1), some (.int 0)]) rfl rfl rfl rfl ?_
      exact h

set_option maxRecDepth 10000 in
theorem rg144_41 {mi : Mi} {ml : Ml} {F : Int32 → Mi → Ml → Prop} {x1 : Int32} {x2 : Int32} {x3 : Int32} {x4 : Int32} {x5 : Int32} {x6 : Int32} {x7 : Int32}  (h : (((mi 47 18) ≤ x7) → Sg 144 94 [some (.ref 47), some (.int x1), some (.int x2), some (.int x3), some (.int x4), some (.int x5), some (.int x6), some (.int x7)] [] mi ml (qi F)) ∧ (¬ ((mi 47 18) ≤ x7) → ((¬ x6 = 0) → Sg 144 94 [some (.ref 47), some (.int x1), some (.int x2), some (.int x3), some (.int x4), some (.int x5), some (.int x6), some (.int x7)] [] mi ml (qi F)) ∧ (¬ (¬ x6 = 0) → (vp_in x7 40) ∧ ((((mi 58 (Int32.toNatClampNeg x7)) = 0) → Sg 144 41 [some (.ref 47), some (.int x1), some (.int x2), some (.int x3), some (.int x4), some (.int x5), some (.int 0), some (.int (x7 + 1))] [] mi ml (qi F)) ∧ (¬ ((mi 58 (Int32.toNatClampNeg x7)) = 0) → (vp_in ((40 * x7) + x5) 1600) ∧ ((((mi 57 (Int32.toNatClampNeg ((40 * x7) + x5))) = 0) → Sg 144 41 [some (.ref 47), some (.int x1), some (.int x2), some (.int x3), some (.int x4), some (.int x5), some (.int 0), some (.int (x7 + 1))] [] mi ml (qi F)) ∧ (¬ ((mi 57 (Int32.toNatClampNeg ((40 * x7) + x5))) = 0) → Sg 144 41 [some (.ref 47), some (.int x1), some (.int x2), some (.int x3), some (.int x4), some (.int x5), some (.int 1), some (.int (x7 + 1))] [] mi ml (qi F)))))))) : Sg 144 41 [some (.ref 47), some (.int x1), some (.int x2), some (.int x3), some (.int x4), some (.int x5), some (.int x6), some (.int x7)] [] mi ml (qi F) := by
  refine sg_ld f144_41 (v := .int x7) rfl rfl ?_
  refine sg_ld f144_43 (v := .ref 47) rfl rfl ?_
  refine sg_geti f144_44 rfl rfl (x := (mi 47 18)) rfl ?_
  refine sg_icmp f144_47 (fun c => ?_) (fun c => ?_)
  · have h := h.1 c
    exact h
  · have h := h.2 c
    refine sg_ld f144_50 (v := .int x6) rfl rfl ?_
    refine sg_if f144_52 (fun c => ?_) (fun c => ?_)
    · have h := h.1 c
      exact h
    · have h := h.2 c
      refine sg_ld f144_55 (v := .ref 47) rfl rfl ?_
      refine sg_getr f144_56 rfl rfl (w := 58) rfl ?_
      refine sg_ld f144_59 (v := .int x7) rfl rfl ?_
      obtain ⟨e1, h⟩ := h
      refine sg_zald f144_61 rfl e1 (x := (mi 58 (Int32.toNatClampNeg x7))) rfl ?_
      refine sg_if f144_62 (fun c => ?_) (fun c => ?_)
      · have h := h.1 c
        refine sg_psh f144_85 (v := .int 0) (by decide) ?_
        refine sg_st1 f144_86 (ls' := [some (.ref 47), some (.int x1), some (.int x2), some (.int x3), some (.int x4), some (.int x5), some (.int 0), some (.int x7)]) rfl rfl rfl rfl ?_
        refine sg_inc f144_88 (d := 1) (ls' := [some (.ref 47), some (.int x1), some (.int x2), some (.int x3), some (.int x4), some (.int x5), some (.int 0), some (.int (x7 + 1))]) rfl (by decide) rfl ?_
        refine sg_goto f144_91 ?_
        exact h
      · have h := h.2 c
        refine sg_ld f144_65 (v := .ref 47) rfl rfl ?_
        refine sg_getr f144_66 rfl rfl (w := 57) rfl ?_
        refine sg_psh f144_69 (v := .int 40) (by decide) ?_
        refine sg_ld f144_71 (v := .int x7) rfl rfl ?_
        refine sg_bin f144_73 rfl ?_
        refine sg_ld f144_74 (v := .int x5) rfl rfl ?_
        refine sg_bin f144_76 rfl ?_
        obtain ⟨e2, h⟩ := h
        refine sg_zald f144_77 rfl e2 (x := (mi 57 (Int32.toNatClampNeg ((40 * x7) + x5)))) rfl ?_
        refine sg_if f144_78 (fun c => ?_) (fun c => ?_)
        · have h := h.1 c
          refine sg_psh f144_85 (v := .int 0) (by decide) ?_
          refine sg_st1 f144_86 (ls' := [some (.ref 47), some (.int x1), some (.int x2), some (.int x3), some (.int x4), some (.int x5), some (.int 0), some (.int x7)]) rfl rfl rfl rfl ?_
          refine sg_inc f144_88 (d := 1) (ls' := [some (.ref 47), some (.int x1), some (.int x2), some (.int x3), some (.int x4), some (.int x5), some (.int 0), some (.int (x7 + 1))]) rfl (by decide) rfl ?_
          refine sg_goto f144_91 ?_
          exact h
        · have h := h.2 c
          refine sg_psh f144_81 (v := .int 1) (by decide) ?_
          refine sg_goto f144_82 ?_
          refine sg_st1 f144_86 (ls' := [some (.ref 47), some (.int x1), some (.int x2), some (.int x3), some (.int x4), some (.int x5), some (.int 1), some (.int x7)]) rfl rfl rfl rfl ?_
          refine sg_inc f144_88 (d := 1) (ls' := [some (.ref 47), some (.int x1), some (.int x2), some (.int x3), some (.int x4), some (.int x5), some (.int 1), some (.int (x7 + 1))]) rfl (by decide) rfl ?_
          refine sg_goto f144_91 ?_
          exact h

set_option maxRecDepth 10000 in
theorem rg144_94 {mi : Mi} {ml : Ml} {F : Int32 → Mi → Ml → Prop} {x1 : Int32} {x2 : Int32} {x3 : Int32} {x4 : Int32} {x5 : Int32} {x6 : Int32} {x7 : Int32}  (h : ((x6 = 0) → Sg 144 121 [some (.ref 47), some (.int x1), some (.int x2), some (.int x3), some (.int x4), some (.int x5), some (.int x6), some (.int x7)] [.int 0, .int x5, .ref 59] mi ml (qi F)) ∧ (¬ (x6 = 0) → Sg 143 0 [some (.ref 47), some (.int x4), some (.int x5)] [] mi ml (qi fun y1 mi2 ml3 => ((y1 = 0) → Sg 144 121 [some (.ref 47), some (.int x1), some (.int x2), some (.int x3), some (.int x4), some (.int x5), some (.int x6), some (.int x7)] [.int 0, .int x5, .ref 59] mi2 ml3 (qi F)) ∧ (¬ (y1 = 0) → Sg 144 121 [some (.ref 47), some (.int x1), some (.int x2), some (.int x3), some (.int x4), some (.int x5), some (.int x6), some (.int x7)] [.int 1, .int x5, .ref 59] mi2 ml3 (qi F))))) : Sg 144 94 [some (.ref 47), some (.int x1), some (.int x2), some (.int x3), some (.int x4), some (.int x5), some (.int x6), some (.int x7)] [] mi ml (qi F) := by
  refine sg_ld f144_94 (v := .ref 47) rfl rfl ?_
  refine sg_getr f144_95 rfl rfl (w := 59) rfl ?_
  refine sg_ld f144_98 (v := .int x5) rfl rfl ?_
  refine sg_ld f144_100 (v := .int x6) rfl rfl ?_
  refine sg_if f144_102 (fun c => ?_) (fun c => ?_)
  · have h := h.1 c
    refine sg_psh f144_120 (v := .int 0) (by decide) ?_
    exact h
  · have h := h.2 c
    refine sg_ld f144_105 (v := .ref 47) rfl rfl ?_
    refine sg_ld f144_106 (v := .int x4) rfl rfl ?_
    refine sg_ld f144_108 (v := .int x5) rfl rfl ?_
    refine sg_cV f144_110 (vs := [.int x4, .int x5]) (r := 47) (rest := [.int x5, .ref 59]) (en := [some (.ref 47), some (.int x4), some (.int x5)]) pq143 ⟨rfl, rfl⟩ rfl rfl rfl rfl rfl rfl h ?_
    rintro _ mi2 ml3 ⟨y1, rfl, h⟩
    refine sg_if f144_113 (fun c => ?_) (fun c => ?_)
    · have h := h.1 c
      refine sg_psh f144_120 (v := .int 0) (by decide) ?_
      exact h
    · have h := h.2 c
      refine sg_psh f144_116 (v := .int 1) (by decide) ?_
      refine sg_goto f144_117 ?_
      exact h

set_option maxRecDepth 10000 in
theorem rg144_121 {mi : Mi} {ml : Ml} {F : Int32 → Mi → Ml → Prop} {x1 : Int32} {x2 : Int32} {x3 : Int32} {x4 : Int32} {x5 : Int32} {x6 : Int32} {x7 : Int32} {s0 : Int32} {s1 : Int32}  (h : (vp_in s1 40) ∧ ((s0 = 0 ∨ s0 = 1) ∧ (((¬ x3 = 0) → Sg 144 16 [some (.ref 47), some (.int x1), some (.int x2), some (.int 1), some (.int x4), some (.int (x5 + 1)), none, none] [] (va_up mi 59 (va_up (mi 59) (Int32.toNatClampNeg s1) s0)) ml (qi F)) ∧ (¬ (¬ x3 = 0) → (vp_in x5 40) ∧ (((((va_up (mi 59) (Int32.toNatClampNeg s1) s0) (Int32.toNatClampNeg x5)) = 0) → Sg 144 16 [some (.ref 47), some (.int x1), some (.int x2), some (.int 0), some (.int x4), some (.int (x5 + 1)), none, none] [] (va_up mi 59 (va_up (mi 59) (Int32.toNatClampNeg s1) s0)) ml (qi F)) ∧ (¬ (((va_up (mi 59) (Int32.toNatClampNeg s1) s0) (Int32.toNatClampNeg x5)) = 0) → Sg 144 16 [some (.ref 47), some (.int x1), some (.int x2), some (.int 1), some (.int x4), some (.int (x5 + 1)), none, none] [] (va_up mi 59 (va_up (mi 59) (Int32.toNatClampNeg s1) s0)) ml (qi F))))))) : Sg 144 121 [some (.ref 47), some (.int x1), some (.int x2), some (.int x3), some (.int x4), some (.int x5), some (.int x6), some (.int x7)] [.int s0, .int s1, .ref 59] mi ml (qi F) := by
  obtain ⟨e1, h⟩ := h
  obtain ⟨e2, h⟩ := h
  refine sg_zast f144_121 rfl e1 e2 ?_
  refine sg_ld f144_122 (v := .int x3) rfl rfl ?_
  refine sg_if f144_123 (fun c => ?_) (fun c => ?_)
  · have h := h.1 c
    refine sg_psh f144_136 (v := .int 1) (by decide) ?_
    refine sg_goto f144_137 ?_
    refine sg_st1 f144_141 (ls' := [some (.ref 47), some (.int x1), some (.int x2), some (.int 1), some (.int x4), some (.int x5), some (.int x6), some (.int x7)]) rfl rfl rfl rfl ?_
    refine sg_inc f144_142 (d := 1) (ls' := [some (.ref 47), some (.int x1), some (.int x2), some (.int 1), some (.int x4), some (.int (x5 + 1)), some (.int x6), some (.int x7)]) rfl (by decide) rfl ?_
    refine sg_goto f144_145 ?_
    exact sg_drop [6, 7] rfl h
  · have h := h.2 c
    refine sg_ld f144_126 (v := .ref 47) rfl rfl ?_
    refine sg_getr f144_127 rfl rfl (w := 59) rfl ?_
    refine sg_ld f144_130 (v := .int x5) rfl rfl ?_
    obtain ⟨e3, h⟩ := h
    refine sg_zald f144_132 rfl e3 (x := ((va_up (mi 59) (Int32.toNatClampNeg s1) s0) (Int32.toNatClampNeg x5))) rfl ?_
    refine sg_if f144_133 (fun c => ?_) (fun c => ?_)
    · have h := h.1 c
      refine sg_psh f144_140 (v := .int 0) (by decide) ?_
      refine sg_st1 f144_141 (ls' := [some (.ref 47), some (.int x1), some (.int x2), some (.int 0), some (.int x4), some (.int x5), some (.int x6), some (.int x7)]) rfl rfl rfl rfl ?_
      refine sg_inc f144_142 (d := 1) (ls' := [some (.ref 47), some (.int x1), some (.int x2), some (.int 0), some (.int x4), some (.int (x5 + 1)), some (.int x6), some (.int x7)]) rfl (by decide) rfl ?_
      refine sg_goto f144_145 ?_
      exact sg_drop [6, 7] rfl h
    · have h := h.2 c
      refine sg_psh f144_136 (v := .int 1) (by decide) ?_
      refine sg_goto f144_137 ?_
      refine sg_st1 f144_141 (ls' := [some (.ref 47), some (.int x1), some (.int x2), some (.int 1), some (.int x4), some (.int x5), some (.int x6), some (.int x7)]) rfl rfl rfl rfl ?_
      refine sg_inc f144_142 (d := 1) (ls' := [some (.ref 47), some (.int x1), some (.int x2), some (.int 1), some (.int x4), some (.int (x5 + 1)), some (.int x6), some (.int x7)]) rfl (by decide) rfl ?_
      refine sg_goto f144_145 ?_
      exact sg_drop [6, 7] rfl h

set_option maxRecDepth 10000 in
theorem rg144_151 {mi : Mi} {ml : Ml} {F : Int32 → Mi → Ml → Prop} {x1 : Int32} {x2 : Int32} {x3 : Int32} {x4 : Int32} {x5 : Int32}  (h : (((mi 47 18) ≤ x5) → Sg 144 5 [some (.ref 47), some (.int x1), some (.int x2), some (.int x3), some (.int (x4 + 1)), none, none, none] [] mi ml (qi F)) ∧ (¬ ((mi 47 18) ≤ x5) → (vp_in x5 40) ∧ (((mi 59 (Int32.toNatClampNeg x5)) = 0 ∨ (mi 59 (Int32.toNatClampNeg x5)) = 1) ∧ (Sg 144 151 [some (.ref 47), some (.int x1), some (.int x2), some (.int x3), some (.int x4), some (.int (x5 + 1)), none, none] [] (va_up mi 58 (va_up (mi 58) (Int32.toNatClampNeg x5) (mi 59 (Int32.toNatClampNeg x5)))) ml (qi F))))) : Sg 144 151 [some (.ref 47), some (.int x1), some (.int x2), some (.int x3), some (.int x4), some (.int x5), none, none] [] mi ml (qi F) := by
  refine sg_ld f144_151 (v := .int x5) rfl rfl ?_
  refine sg_ld f144_153 (v := .ref 47) rfl rfl ?_
  refine sg_geti f144_154 rfl rfl (x := (mi 47 18)) rfl ?_
  refine sg_icmp f144_157 (fun c => ?_) (fun c => ?_)
  · have h := h.1 c
    refine sg_inc f144_180 (d := 1) (ls' := [some (.ref 47), some (.int x1), some (.int x2), some (.int x3), some (.int (x4 + 1)), some (.int x5), none, none]) rfl (by decide) rfl ?_
    refine sg_goto f144_183 ?_
    exact sg_drop [5] rfl h
  · have h := h.2 c
    refine sg_ld f144_160 (v := .ref 47) rfl rfl ?_
    refine sg_getr f144_161 rfl rfl (w := 58) rfl ?_
    refine sg_ld f144_164 (v := .int x5) rfl rfl ?_
    refine sg_ld f144_166 (v := .ref 47) rfl rfl ?_
    refine sg_getr f144_167 rfl rfl (w := 59) rfl ?_
    refine sg_ld f144_170 (v := .int x5) rfl rfl ?_
    obtain ⟨e1, h⟩ := h
    refine sg_zald f144_172 rfl e1 (x := (mi 59 (Int32.toNatClampNeg x5))) rfl ?_
    obtain ⟨e2, h⟩ := h
    refine sg_zast f144_173 rfl e1 e2 ?_
    refine sg_inc f144_174 (d := 1) (ls' := [some (.ref 47), some (.int x1), some (.int x2), some (.int x3), some (.int x4), some (.int (x5 + 1)), none, none]) rfl (by decide) rfl ?_
    refine sg_goto f144_177 ?_
    exact h

/-! X7_isWholeNow ()Z -/
theorem fe145 (pc : Nat) : gm_fetch 145 pc = gm_find pc cd_145 := rfl
theorem f145_0 : gm_fetch 145 0 = some (1, .aload_n 0, 0, 0, 0, 0) := (fe145 0).trans rfl
theorem f145_1 : gm_fetch 145 1 = some (2, .iconst 0, 0, 0, 0, 0) := (fe145 1).trans rfl
theorem f145_2 : gm_fetch 145 2 = some (3, .aload_n 0, 0, 0, 0, 0) := (fe145 2).trans rfl
theorem f145_3 : gm_fetch 145 3 = some (6, .getfield 77, 89, 7, 5, 0) := (fe145 3).trans rfl
theorem f145_6 : gm_fetch 145 6 = some (7, .iconst 1, 0, 0, 0, 0) := (fe145 6).trans rfl
theorem f145_7 : gm_fetch 145 7 = some (8, .isub, 0, 0, 0, 0) := (fe145 7).trans rfl
theorem f145_8 : gm_fetch 145 8 = some (11, .invokevirtual 174, 186, 144, 0, 0) := (fe145 8).trans rfl
theorem f145_11 : gm_fetch 145 11 = some (12, .ireturn, 0, 0, 0, 0) := (fe145 11).trans rfl
set_option maxRecDepth 10000 in
theorem rg145_0 {mi : Mi} {ml : Ml} {F : Int32 → Mi → Ml → Prop}   (h : Sg 144 0 [some (.ref 47), some (.int 0), some (.int ((mi 47 5) - 1)), none, none, none, none, none] [] mi ml (qi fun y1 mi2 ml3 => (y1 = 0 ∨ y1 = 1) ∧ F y1 mi2 ml3)) : Sg 145 0 [some (.ref 47)] [] mi ml (qi F) := by
  refine sg_ld f145_0 (v := .ref 47) rfl rfl ?_
  refine sg_psh f145_1 (v := .int 0) (by decide) ?_
  refine sg_ld f145_2 (v := .ref 47) rfl rfl ?_
  refine sg_geti f145_3 rfl rfl (x := (mi 47 5)) rfl ?_
  refine sg_psh f145_6 (v := .int 1) (by decide) ?_
  refine sg_bin f145_7 rfl ?_
  refine sg_cV f145_8 (vs := [.int 0, .int ((mi 47 5) - 1)]) (r := 47) (rest := []) (en := [some (.ref 47), some (.int 0), some (.int ((mi 47 5) - 1)), none, none, none, none, none]) pq144 ⟨rfl, rfl⟩ rfl rfl rfl rfl rfl rfl h ?_
  rintro _ mi2 ml3 ⟨y1, rfl, h⟩
  exact sg_iret f145_11 pq145 rfl (gm_nz h.1) ⟨_, rfl, h.2⟩

/-! X7_whole ()I -/
theorem fe146 (pc : Nat) : gm_fetch 146 pc = gm_find pc cd_146 := rfl
theorem f146_0 : gm_fetch 146 0 = some (1, .aload_n 0, 0, 0, 0, 0) := (fe146 0).trans rfl
theorem f146_1 : gm_fetch 146 1 = some (4, .invokevirtual 177, 181, 142, 0, 0) := (fe146 1).trans rfl
theorem f146_4 : gm_fetch 146 4 = some (5, .aload_n 0, 0, 0, 0, 0) := (fe146 4).trans rfl
theorem f146_5 : gm_fetch 146 5 = some (8, .invokevirtual 180, 185, 145, 0, 0) := (fe146 5).trans rfl
theorem f146_8 : gm_fetch 146 8 = some (11, .ifCond .eq 7, 0, 15, 0, 0) := (fe146 8).trans rfl
theorem f146_11 : gm_fetch 146 11 = some (12, .iconst 1, 0, 0, 0, 0) := (fe146 11).trans rfl
theorem f146_12 : gm_fetch 146 12 = some (15, .goto 4, 0, 16, 0, 0) := (fe146 12).trans rfl
theorem f146_15 : gm_fetch 146 15 = some (16, .iconst 0, 0, 0, 0, 0) := (fe146 15).trans rfl
theorem f146_16 : gm_fetch 146 16 = some (17, .ireturn, 0, 0, 0, 0) := (fe146 16).trans rfl
set_option maxRecDepth 10000 in
theorem rg146_0 {mi : Mi} {ml : Ml} {F : Int32 → Mi → Ml → Prop}   (h : Sg 142 0 [some (.ref 47)] [] mi ml (qv fun mi2 ml3 => Sg 145 0 [some (.ref 47)] [] mi2 ml3 (qi fun y4 mi5 ml6 => ((y4 = 0) → F 0 mi5 ml6) ∧ (¬ (y4 = 0) → F 1 mi5 ml6)))) : Sg 146 0 [some (.ref 47)] [] mi ml (qi F) := by
  refine sg_ld f146_0 (v := .ref 47) rfl rfl ?_
  refine sg_cV f146_1 (vs := []) (r := 47) (rest := []) (en := [some (.ref 47)]) pq142 ⟨rfl, rfl⟩ rfl rfl rfl rfl rfl rfl h ?_
  intro _ mi2 ml3 h
  have h := gm_qv h
  refine sg_ld f146_4 (v := .ref 47) rfl rfl ?_
  refine sg_cV f146_5 (vs := []) (r := 47) (rest := []) (en := [some (.ref 47)]) pq145 ⟨rfl, rfl⟩ rfl rfl rfl rfl rfl rfl h ?_
  rintro _ mi5 ml6 ⟨y4, rfl, h⟩
  refine sg_if f146_8 (fun c => ?_) (fun c => ?_)
  · have h := h.1 c
    refine sg_psh f146_15 (v := .int 0) (by decide) ?_
    exact sg_iret f146_16 pq146 rfl rfl ⟨_, rfl, h⟩
  · have h := h.2 c
    refine sg_psh f146_11 (v := .int 1) (by decide) ?_
    refine sg_goto f146_12 ?_
    exact sg_iret f146_16 pq146 rfl rfl ⟨_, rfl, h⟩

/-! X7_columnNow (II)I -/
theorem fe147 (pc : Nat) : gm_fetch 147 pc = gm_find pc cd_147 := rfl
theorem f147_0 : gm_fetch 147 0 = some (1, .aload_n 0, 0, 0, 0, 0) := (fe147 0).trans rfl
theorem f147_1 : gm_fetch 147 1 = some (4, .getfield 137, 95, 7, 11, 0) := (fe147 1).trans rfl
theorem f147_4 : gm_fetch 147 4 = some (7, .ifCond .eq 16, 0, 20, 0, 0) := (fe147 4).trans rfl
theorem f147_7 : gm_fetch 147 7 = some (8, .aload_n 0, 0, 0, 0, 0) := (fe147 7).trans rfl
theorem f147_8 : gm_fetch 147 8 = some (11, .getfield 25, 96, 7, 12, 0) := (fe147 8).trans rfl
theorem f147_11 : gm_fetch 147 11 = some (12, .iload_n 1, 0, 0, 0, 0) := (fe147 11).trans rfl
theorem f147_12 : gm_fetch 147 12 = some (13, .iaload, 0, 0, 0, 0) := (fe147 12).trans rfl
theorem f147_13 : gm_fetch 147 13 = some (14, .iload_n 2, 0, 0, 0, 0) := (fe147 13).trans rfl
theorem f147_14 : gm_fetch 147 14 = some (17, .invokestatic 161, 183, 140, 0, 0) := (fe147 14).trans rfl
theorem f147_17 : gm_fetch 147 17 = some (20, .goto 4, 0, 21, 0, 0) := (fe147 17).trans rfl
theorem f147_20 : gm_fetch 147 20 = some (21, .iload_n 2, 0, 0, 0, 0) := (fe147 20).trans rfl
theorem f147_21 : gm_fetch 147 21 = some (22, .ireturn, 0, 0, 0, 0) := (fe147 21).trans rfl
set_option maxRecDepth 10000 in
theorem rg147_0 {mi : Mi} {ml : Ml} {F : Int32 → Mi → Ml → Prop} {x1 : Int32} {x2 : Int32}  (h : (((mi 47 11) = 0) → F x2 mi ml) ∧ (¬ ((mi 47 11) = 0) → (vp_in x1 7) ∧ (Sg 140 0 [some (.int (mi 53 (Int32.toNatClampNeg x1))), some (.int x2), none, none] [] mi ml (qi fun y2 mi3 ml4 => F y2 mi3 ml4)))) : Sg 147 0 [some (.ref 47), some (.int x1), some (.int x2)] [] mi ml (qi F) := by
  refine sg_ld f147_0 (v := .ref 47) rfl rfl ?_
  refine sg_geti f147_1 rfl rfl (x := (mi 47 11)) rfl ?_
  refine sg_if f147_4 (fun c => ?_) (fun c => ?_)
  · have h := h.1 c
    refine sg_ld f147_20 (v := .int x2) rfl rfl ?_
    exact sg_iret f147_21 pq147 rfl rfl ⟨_, rfl, h⟩
  · have h := h.2 c
    refine sg_ld f147_7 (v := .ref 47) rfl rfl ?_
    refine sg_getr f147_8 rfl rfl (w := 53) rfl ?_
    refine sg_ld f147_11 (v := .int x1) rfl rfl ?_
    obtain ⟨e1, h⟩ := h
    refine sg_iald f147_12 rfl e1 (x := (mi 53 (Int32.toNatClampNeg x1))) rfl ?_
    refine sg_ld f147_13 (v := .int x2) rfl rfl ?_
    refine sg_cS f147_14 (vs := [.int (mi 53 (Int32.toNatClampNeg x1)), .int x2]) (rest := []) (en := [some (.int (mi 53 (Int32.toNatClampNeg x1))), some (.int x2), none, none]) (by decide) pq140 ⟨rfl, rfl⟩ rfl rfl rfl rfl rfl h ?_
    rintro _ mi3 ml4 ⟨y2, rfl, h⟩
    refine sg_goto f147_17 ?_
    exact sg_iret f147_21 pq147 rfl rfl ⟨_, rfl, h⟩

/-! X7_movesTo (II)I -/
theorem fe148 (pc : Nat) : gm_fetch 148 pc = gm_find pc cd_148 := rfl
theorem f148_0 : gm_fetch 148 0 = some (1, .iconst 0, 0, 0, 0, 0) := (fe148 0).trans rfl
theorem f148_1 : gm_fetch 148 1 = some (2, .istore_n 3, 0, 0, 0, 0) := (fe148 1).trans rfl
theorem f148_2 : gm_fetch 148 2 = some (3, .iconst 0, 0, 0, 0, 0) := (fe148 2).trans rfl
theorem f148_3 : gm_fetch 148 3 = some (5, .istore 4, 0, 0, 0, 0) := (fe148 3).trans rfl
theorem f148_5 : gm_fetch 148 5 = some (7, .iload 4, 0, 0, 0, 0) := (fe148 5).trans rfl
theorem f148_7 : gm_fetch 148 7 = some (8, .aload_n 0, 0, 0, 0, 0) := (fe148 7).trans rfl
theorem f148_8 : gm_fetch 148 8 = some (11, .getfield 84, 91, 7, 7, 0) := (fe148 8).trans rfl
theorem f148_11 : gm_fetch 148 11 = some (14, .if_icmp .ge 33, 0, 44, 0, 0) := (fe148 11).trans rfl
theorem f148_14 : gm_fetch 148 14 = some (15, .iload_n 3, 0, 0, 0, 0) := (fe148 14).trans rfl
theorem f148_15 : gm_fetch 148 15 = some (16, .aload_n 0, 0, 0, 0, 0) := (fe148 15).trans rfl
theorem f148_16 : gm_fetch 148 16 = some (17, .iload_n 1, 0, 0, 0, 0) := (fe148 16).trans rfl
theorem f148_17 : gm_fetch 148 17 = some (19, .iload 4, 0, 0, 0, 0) := (fe148 17).trans rfl
theorem f148_19 : gm_fetch 148 19 = some (22, .invokevirtual 184, 191, 147, 0, 0) := (fe148 19).trans rfl
theorem f148_22 : gm_fetch 148 22 = some (23, .iload_n 2, 0, 0, 0, 0) := (fe148 22).trans rfl
theorem f148_23 : gm_fetch 148 23 = some (25, .iload 4, 0, 0, 0, 0) := (fe148 23).trans rfl
theorem f148_25 : gm_fetch 148 25 = some (28, .invokestatic 161, 183, 140, 0, 0) := (fe148 25).trans rfl
theorem f148_28 : gm_fetch 148 28 = some (31, .if_icmp .ne 7, 0, 35, 0, 0) := (fe148 28).trans rfl
theorem f148_31 : gm_fetch 148 31 = some (32, .iconst 0, 0, 0, 0, 0) := (fe148 31).trans rfl
theorem f148_32 : gm_fetch 148 32 = some (35, .goto 4, 0, 36, 0, 0) := (fe148 32).trans rfl
theorem f148_35 : gm_fetch 148 35 = some (36, .iconst 1, 0, 0, 0, 0) := (fe148 35).trans rfl
theorem f148_36 : gm_fetch 148 36 = some (37, .iadd, 0, 0, 0, 0) := (fe148 36).trans rfl
theorem f148_37 : gm_fetch 148 37 = some (38, .istore_n 3, 0, 0, 0, 0) := (fe148 37).trans rfl
theorem f148_38 : gm_fetch 148 38 = some (41, .iinc 4 1, 0, 0, 0, 0) := (fe148 38).trans rfl
theorem f148_41 : gm_fetch 148 41 = some (44, .goto (-36), 0, 5, 0, 0) := (fe148 41).trans rfl
theorem f148_44 : gm_fetch 148 44 = some (45, .iload_n 3, 0, 0, 0, 0) := (fe148 44).trans rfl
theorem f148_45 : gm_fetch 148 45 = some (46, .ireturn, 0, 0, 0, 0) := (fe148 45).trans rfl
set_option maxRecDepth 10000 in
theorem rg148_0 {mi : Mi} {ml : Ml} {F : Int32 → Mi → Ml → Prop} {x1 : Int32} {x2 : Int32}  (h : Sg 148 5 [some (.ref 47), some (.int x1), some (.int x2), some (.int 0), some (.int 0)] [] mi ml (qi F)) : Sg 148 0 [some (.ref 47), some (.int x1), some (.int x2), none, none] [] mi ml (qi F) := by
  refine sg_psh f148_0 (v := .int 0) (by decide) ?_
  refine sg_st1 f148_1 (ls' := [some (.ref 47), some (.int x1), some (.int x2), some (.int 0), none]) rfl rfl rfl rfl ?_
  refine sg_psh f148_2 (v := .int 0) (by decide) ?_
  refine sg_st1 f148_3 (ls' := [some (.ref 47), some (.int x1), some (.int x2), some (.int 0), some (.int 0)]) rfl rfl rfl rfl ?_
  exact h

set_option maxRecDepth 10000 in
theorem rg148_5 {mi : Mi} {ml : Ml} {F : Int32 → Mi → Ml → Prop} {x1 : Int32} {x2 : Int32} {x3 : Int32} {x4 : Int32}  (h : (((mi 47 7) ≤ x4) → F x3 mi ml) ∧ (¬ ((mi 47 7) ≤ x4) → Sg 147 0 [some (.ref 47), some (.int x1), some (.int x4)] [] mi ml (qi fun y1 mi2 ml3 => Sg 140 0 [some (.int x2), some (.int x4), none, none] [] mi2 ml3 (qi fun y4 mi5 ml6 => ((¬ y1 = y4) → Sg 148 5 [some (.ref 47), some (.int x1), some (.int x2), some (.int (x3 + 1)), some (.int (x4 + 1))] [] mi5 ml6 (qi F)) ∧ (¬ (¬ y1 = y4) → Sg 148 5 [some (.ref 47), some (.int x1), some (.int x2), some (.int (x3 + 0)), some (.int (x4 + 1))] [] mi5 ml6 (qi F)))))) : Sg 148 5 [some (.ref 47), some (.int x1), some (.int x2), some (.int x3), some (.int x4)] [] mi ml (qi F) := by
  refine sg_ld f148_5 (v := .int x4) rfl rfl ?_
  refine sg_ld f148_7 (v := .ref 47) rfl rfl ?_
  refine sg_geti f148_8 rfl rfl (x := (mi 47 7)) rfl ?_
  refine sg_icmp f148_11 (fun c => ?_) (fun c => ?_)
  · have h := h.1 c
    refine sg_ld f148_44 (v := .int x3) rfl rfl ?_
    exact sg_iret f148_45 pq148 rfl rfl ⟨_, rfl, h⟩
  · have h := h.2 c
    refine sg_ld f148_14 (v := .int x3) rfl rfl ?_
    refine sg_ld f148_15 (v := .ref 47) rfl rfl ?_
    refine sg_ld f148_16 (v := .int x1) rfl rfl ?_
    refine sg_ld f148_17 (v := .int x4) rfl rfl ?_
    refine sg_cV f148_19 (vs := [.int x1, .int x4]) (r := 47) (rest := [.int x3]) (en := [some (.ref 47), some (.int x1), some (.int x4)]) pq147 ⟨rfl, rfl⟩ rfl rfl rfl rfl rfl rfl h ?_
    rintro _ mi2 ml3 ⟨y1, rfl, h⟩
    refine sg_ld f148_22 (v := .int x2) rfl rfl ?_
    refine sg_ld f148_23 (v := .int x4) rfl rfl ?_
    refine sg_cS f148_25 (vs := [.int x2, .int x4]) (rest := [.int y1, .int x3]) (en := [some (.int x2), some (.int x4), none, none]) (by decide) pq140 ⟨rfl, rfl⟩ rfl rfl rfl rfl rfl h ?_
    rintro _ mi5 ml6 ⟨y4, rfl, h⟩
    refine sg_icmp f148_28 (fun c => ?_) (fun c => ?_)
    · have h := h.1 c
      refine sg_psh f148_35 (v := .int 1) (by decide) ?_
      refine sg_bin f148_36 rfl ?_
      refine sg_st1 f148_37 (ls' := [some (.ref 47), some (.int x1), some (.int x2), some (.int (x3 + 1)), some (.int x4)]) rfl rfl rfl rfl ?_
      refine sg_inc f148_38 (d := 1) (ls' := [some (.ref 47), some (.int x1), some (.int x2), some (.int (x3 + 1)), some (.int (x4 + 1))]) rfl (by decide) rfl ?_
      refine sg_goto f148_41 ?_
      exact h
    · have h := h.2 c
      refine sg_psh f148_31 (v := .int 0) (by decide) ?_
      refine sg_goto f148_32 ?_
      refine sg_bin f148_36 rfl ?_
      refine sg_st1 f148_37 (ls' := [some (.ref 47), some (.int x1), some (.int x2), some (.int (x3 + 0)), some (.int x4)]) rfl rfl rfl rfl ?_
      refine sg_inc f148_38 (d := 1) (ls' := [some (.ref 47), some (.int x1), some (.int x2), some (.int (x3 + 0)), some (.int (x4 + 1))]) rfl (by decide) rfl ?_
      refine sg_goto f148_41 ?_
      exact h

/-! X7_fewest ()I -/
theorem fe149 (pc : Nat) : gm_fetch 149 pc = gm_find pc cd_149 := rfl
set_option maxRecDepth 10000 in
theorem f149_0 : gm_fetch 149 0 = some (2, .ldc 187, 8, 0, 0, 1000000) := (fe149 0).trans rfl
set_option maxRecDepth 10000 in
theorem f149_2 : gm_fetch 149 2 = some (3, .istore_n 1, 0, 0, 0, 0) := (fe149 2).trans rfl
set_option maxRecDepth 10000 in
theorem f149_3 : gm_fetch 149 3 = some (4, .aload_n 0, 0, 0, 0, 0) := (fe149 3).trans rfl
set_option maxRecDepth 10000 in
theorem f149_4 : gm_fetch 149 4 = some (7, .getfield 77, 89, 7, 5, 0) := (fe149 4).trans rfl
set_option maxRecDepth 10000 in
theorem f149_7 : gm_fetch 149 7 = some (8, .iconst 1, 0, 0, 0, 0) := (fe149 7).trans rfl
set_option maxRecDepth 10000 in
theorem f149_8 : gm_fetch 149 8 = some (9, .isub, 0, 0, 0, 0) := (fe149 8).trans rfl
set_option maxRecDepth 10000 in
theorem f149_9 : gm_fetch 149 9 = some (10, .istore_n 2, 0, 0, 0, 0) := (fe149 9).trans rfl
set_option maxRecDepth 10000 in
theorem f149_10 : gm_fetch 149 10 = some (11, .iload_n 2, 0, 0, 0, 0) := (fe149 10).trans rfl
set_option maxRecDepth 10000 in
theorem f149_11 : gm_fetch 149 11 = some (14, .ifCond .lt 178, 0, 189, 0, 0) := (fe149 11).trans rfl
set_option maxRecDepth 10000 in
theorem f149_14 : gm_fetch 149 14 = some (16, .ldc 187, 8, 0, 0, 1000000) := (fe149 14).trans rfl
set_option maxRecDepth 10000 in
theorem f149_16 : gm_fetch 149 16 = some (17, .istore_n 1, 0, 0, 0, 0) := (fe149 16).trans rfl
set_option maxRecDepth 10000 in
theorem f149_17 : gm_fetch 149 17 = some (18, .iconst 0, 0, 0, 0, 0) := (fe149 17).trans rfl
set_option maxRecDepth 10000 in
theorem f149_18 : gm_fetch 149 18 = some (19, .istore_n 3, 0, 0, 0, 0) := (fe149 18).trans rfl
set_option maxRecDepth 10000 in
theorem f149_19 : gm_fetch 149 19 = some (20, .iload_n 3, 0, 0, 0, 0) := (fe149 19).trans rfl
set_option maxRecDepth 10000 in
theorem f149_20 : gm_fetch 149 20 = some (21, .aload_n 0, 0, 0, 0, 0) := (fe149 20).trans rfl
set_option maxRecDepth 10000 in
theorem f149_21 : gm_fetch 149 21 = some (24, .getfield 158, 102, 7, 18, 0) := (fe149 21).trans rfl
set_option maxRecDepth 10000 in
theorem f149_24 : gm_fetch 149 24 = some (27, .if_icmp .ge 159, 0, 183, 0, 0) := (fe149 24).trans rfl
set_option maxRecDepth 10000 in
theorem f149_27 : gm_fetch 149 27 = some (28, .iload_n 2, 0, 0, 0, 0) := (fe149 27).trans rfl
set_option maxRecDepth 10000 in
theorem f149_28 : gm_fetch 149 28 = some (29, .aload_n 0, 0, 0, 0, 0) := (fe149 28).trans rfl
set_option maxRecDepth 10000 in
theorem f149_29 : gm_fetch 149 29 = some (32, .getfield 77, 89, 7, 5, 0) := (fe149 29).trans rfl
set_option maxRecDepth 10000 in
theorem f149_32 : gm_fetch 149 32 = some (33, .iconst 1, 0, 0, 0, 0) := (fe149 32).trans rfl
set_option maxRecDepth 10000 in
theorem f149_33 : gm_fetch 149 33 = some (34, .isub, 0, 0, 0, 0) := (fe149 33).trans rfl
set_option maxRecDepth 10000 in
theorem f149_34 : gm_fetch 149 34 = some (37, .if_icmp .ne 7, 0, 41, 0, 0) := (fe149 34).trans rfl
set_option maxRecDepth 10000 in
theorem f149_37 : gm_fetch 149 37 = some (38, .iconst 0, 0, 0, 0, 0) := (fe149 37).trans rfl
set_option maxRecDepth 10000 in
theorem f149_38 : gm_fetch 149 38 = some (41, .goto 5, 0, 43, 0, 0) := (fe149 38).trans rfl
set_option maxRecDepth 10000 in
theorem f149_41 : gm_fetch 149 41 = some (43, .ldc 187, 8, 0, 0, 1000000) := (fe149 41).trans rfl
set_option maxRecDepth 10000 in
theorem f149_43 : gm_fetch 149 43 = some (45, .istore 4, 0, 0, 0, 0) := (fe149 43).trans rfl
set_option maxRecDepth 10000 in
theorem f149_45 : gm_fetch 149 45 = some (46, .iconst 0, 0, 0, 0, 0) := (fe149 45).trans rfl
set_option maxRecDepth 10000 in
theorem f149_46 : gm_fetch 149 46 = some (48, .istore 5, 0, 0, 0, 0) := (fe149 46).trans rfl
set_option maxRecDepth 10000 in
theorem f149_48 : gm_fetch 149 48 = some (50, .iload 5, 0, 0, 0, 0) := (fe149 48).trans rfl
set_option maxRecDepth 10000 in
theorem f149_50 : gm_fetch 149 50 = some (51, .aload_n 0, 0, 0, 0, 0) := (fe149 50).trans rfl
set_option maxRecDepth 10000 in
theorem f149_51 : gm_fetch 149 51 = some (54, .getfield 158, 102, 7, 18, 0) := (fe149 51).trans rfl
set_option maxRecDepth 10000 in
theorem f149_54 : gm_fetch 149 54 = some (57, .if_icmp .ge 61, 0, 115, 0, 0) := (fe149 54).trans rfl
set_option maxRecDepth 10000 in
theorem f149_57 : gm_fetch 149 57 = some (58, .iload_n 2, 0, 0, 0, 0) := (fe149 57).trans rfl
set_option maxRecDepth 10000 in
theorem f149_58 : gm_fetch 149 58 = some (59, .aload_n 0, 0, 0, 0, 0) := (fe149 58).trans rfl
set_option maxRecDepth 10000 in
theorem f149_59 : gm_fetch 149 59 = some (62, .getfield 77, 89, 7, 5, 0) := (fe149 59).trans rfl
set_option maxRecDepth 10000 in
theorem f149_62 : gm_fetch 149 62 = some (63, .iconst 1, 0, 0, 0, 0) := (fe149 62).trans rfl
set_option maxRecDepth 10000 in
theorem f149_63 : gm_fetch 149 63 = some (64, .isub, 0, 0, 0, 0) := (fe149 63).trans rfl
set_option maxRecDepth 10000 in
theorem f149_64 : gm_fetch 149 64 = some (67, .if_icmp .ge 51, 0, 115, 0, 0) := (fe149 64).trans rfl
set_option maxRecDepth 10000 in
theorem f149_67 : gm_fetch 149 67 = some (68, .aload_n 0, 0, 0, 0, 0) := (fe149 67).trans rfl
set_option maxRecDepth 10000 in
theorem f149_68 : gm_fetch 149 68 = some (71, .getfield 38, 101, 7, 17, 0) := (fe149 68).trans rfl
set_option maxRecDepth 10000 in
theorem f149_71 : gm_fetch 149 71 = some (73, .bipush 40, 0, 0, 0, 0) := (fe149 71).trans rfl
set_option maxRecDepth 10000 in
theorem f149_73 : gm_fetch 149 73 = some (74, .iload_n 3, 0, 0, 0, 0) := (fe149 73).trans rfl
set_option maxRecDepth 10000 in
theorem f149_74 : gm_fetch 149 74 = some (75, .imul, 0, 0, 0, 0) := (fe149 74).trans rfl
set_option maxRecDepth 10000 in
theorem f149_75 : gm_fetch 149 75 = some (77, .iload 5, 0, 0, 0, 0) := (fe149 75).trans rfl
set_option maxRecDepth 10000 in
theorem f149_77 : gm_fetch 149 77 = some (78, .iadd, 0, 0, 0, 0) := (fe149 77).trans rfl
set_option maxRecDepth 10000 in
theorem f149_78 : gm_fetch 149 78 = some (79, .baload, 0, 0, 0, 0) := (fe149 78).trans rfl
set_option maxRecDepth 10000 in
theorem f149_79 : gm_fetch 149 79 = some (82, .ifCond .eq 26, 0, 105, 0, 0) := (fe149 79).trans rfl
set_option maxRecDepth 10000 in
theorem f149_82 : gm_fetch 149 82 = some (84, .iload 4, 0, 0, 0, 0) := (fe149 82).trans rfl
set_option maxRecDepth 10000 in
theorem f149_84 : gm_fetch 149 84 = some (85, .aload_n 0, 0, 0, 0, 0) := (fe149 84).trans rfl
set_option maxRecDepth 10000 in
theorem f149_85 : gm_fetch 149 85 = some (88, .getfield 47, 105, 7, 21, 0) := (fe149 85).trans rfl
set_option maxRecDepth 10000 in
theorem f149_88 : gm_fetch 149 88 = some (90, .bipush 40, 0, 0, 0, 0) := (fe149 88).trans rfl
set_option maxRecDepth 10000 in
theorem f149_90 : gm_fetch 149 90 = some (91, .iload_n 2, 0, 0, 0, 0) := (fe149 90).trans rfl
set_option maxRecDepth 10000 in
theorem f149_91 : gm_fetch 149 91 = some (92, .imul, 0, 0, 0, 0) := (fe149 91).trans rfl
set_option maxRecDepth 10000 in
theorem f149_92 : gm_fetch 149 92 = some (94, .bipush 40, 0, 0, 0, 0) := (fe149 92).trans rfl
set_option maxRecDepth 10000 in
theorem f149_94 : gm_fetch 149 94 = some (95, .iadd, 0, 0, 0, 0) := (fe149 94).trans rfl
set_option maxRecDepth 10000 in
theorem f149_95 : gm_fetch 149 95 = some (97, .iload 5, 0, 0, 0, 0) := (fe149 95).trans rfl
set_option maxRecDepth 10000 in
theorem f149_97 : gm_fetch 149 97 = some (98, .iadd, 0, 0, 0, 0) := (fe149 97).trans rfl
set_option maxRecDepth 10000 in
theorem f149_98 : gm_fetch 149 98 = some (99, .iaload, 0, 0, 0, 0) := (fe149 98).trans rfl
set_option maxRecDepth 10000 in
theorem f149_99 : gm_fetch 149 99 = some (102, .invokestatic 134, 167, 117, 0, 0) := (fe149 99).trans rfl
set_option maxRecDepth 10000 in
theorem f149_102 : gm_fetch 149 102 = some (105, .goto 5, 0, 107, 0, 0) := (fe149 102).trans rfl
set_option maxRecDepth 10000 in
theorem f149_105 : gm_fetch 149 105 = some (107, .iload 4, 0, 0, 0, 0) := (fe149 105).trans rfl
set_option maxRecDepth 10000 in
theorem f149_107 : gm_fetch 149 107 = some (109, .istore 4, 0, 0, 0, 0) := (fe149 107).trans rfl
set_option maxRecDepth 10000 in
theorem f149_109 : gm_fetch 149 109 = some (112, .iinc 5 1, 0, 0, 0, 0) := (fe149 109).trans rfl
set_option maxRecDepth 10000 in
theorem f149_112 : gm_fetch 149 112 = some (115, .goto (-64), 0, 48, 0, 0) := (fe149 112).trans rfl
set_option maxRecDepth 10000 in
theorem f149_115 : gm_fetch 149 115 = some (116, .aload_n 0, 0, 0, 0, 0) := (fe149 115).trans rfl
set_option maxRecDepth 10000 in
theorem f149_116 : gm_fetch 149 116 = some (119, .getfield 47, 105, 7, 21, 0) := (fe149 116).trans rfl
set_option maxRecDepth 10000 in
theorem f149_119 : gm_fetch 149 119 = some (121, .bipush 40, 0, 0, 0, 0) := (fe149 119).trans rfl
set_option maxRecDepth 10000 in
theorem f149_121 : gm_fetch 149 121 = some (122, .iload_n 2, 0, 0, 0, 0) := (fe149 121).trans rfl
set_option maxRecDepth 10000 in
theorem f149_122 : gm_fetch 149 122 = some (123, .imul, 0, 0, 0, 0) := (fe149 122).trans rfl
set_option maxRecDepth 10000 in
theorem f149_123 : gm_fetch 149 123 = some (124, .iload_n 3, 0, 0, 0, 0) := (fe149 123).trans rfl
set_option maxRecDepth 10000 in
theorem f149_124 : gm_fetch 149 124 = some (125, .iadd, 0, 0, 0, 0) := (fe149 124).trans rfl
set_option maxRecDepth 10000 in
theorem f149_125 : gm_fetch 149 125 = some (126, .aload_n 0, 0, 0, 0, 0) := (fe149 125).trans rfl
set_option maxRecDepth 10000 in
theorem f149_126 : gm_fetch 149 126 = some (127, .iload_n 2, 0, 0, 0, 0) := (fe149 126).trans rfl
set_option maxRecDepth 10000 in
theorem f149_127 : gm_fetch 149 127 = some (128, .iload_n 3, 0, 0, 0, 0) := (fe149 127).trans rfl
set_option maxRecDepth 10000 in
theorem f149_128 : gm_fetch 149 128 = some (131, .invokevirtual 171, 187, 143, 0, 0) := (fe149 128).trans rfl
set_option maxRecDepth 10000 in
theorem f149_131 : gm_fetch 149 131 = some (134, .ifCond .eq 27, 0, 158, 0, 0) := (fe149 131).trans rfl
set_option maxRecDepth 10000 in
theorem f149_134 : gm_fetch 149 134 = some (136, .iload 4, 0, 0, 0, 0) := (fe149 134).trans rfl
set_option maxRecDepth 10000 in
theorem f149_136 : gm_fetch 149 136 = some (138, .ldc 187, 8, 0, 0, 1000000) := (fe149 136).trans rfl
set_option maxRecDepth 10000 in
theorem f149_138 : gm_fetch 149 138 = some (141, .if_icmp .ge 20, 0, 158, 0, 0) := (fe149 138).trans rfl
set_option maxRecDepth 10000 in
theorem f149_141 : gm_fetch 149 141 = some (143, .iload 4, 0, 0, 0, 0) := (fe149 141).trans rfl
set_option maxRecDepth 10000 in
theorem f149_143 : gm_fetch 149 143 = some (144, .aload_n 0, 0, 0, 0, 0) := (fe149 143).trans rfl
set_option maxRecDepth 10000 in
theorem f149_144 : gm_fetch 149 144 = some (145, .iload_n 2, 0, 0, 0, 0) := (fe149 144).trans rfl
set_option maxRecDepth 10000 in
theorem f149_145 : gm_fetch 149 145 = some (146, .aload_n 0, 0, 0, 0, 0) := (fe149 145).trans rfl
set_option maxRecDepth 10000 in
theorem f149_146 : gm_fetch 149 146 = some (149, .getfield 28, 98, 7, 14, 0) := (fe149 146).trans rfl
set_option maxRecDepth 10000 in
theorem f149_149 : gm_fetch 149 149 = some (150, .iload_n 3, 0, 0, 0, 0) := (fe149 149).trans rfl
set_option maxRecDepth 10000 in
theorem f149_150 : gm_fetch 149 150 = some (151, .iaload, 0, 0, 0, 0) := (fe149 150).trans rfl
set_option maxRecDepth 10000 in
theorem f149_151 : gm_fetch 149 151 = some (154, .invokevirtual 188, 190, 148, 0, 0) := (fe149 151).trans rfl
set_option maxRecDepth 10000 in
theorem f149_154 : gm_fetch 149 154 = some (155, .iadd, 0, 0, 0, 0) := (fe149 154).trans rfl
set_option maxRecDepth 10000 in
theorem f149_155 : gm_fetch 149 155 = some (158, .goto 5, 0, 160, 0, 0) := (fe149 155).trans rfl
set_option maxRecDepth 10000 in
theorem f149_158 : gm_fetch 149 158 = some (160, .ldc 187, 8, 0, 0, 1000000) := (fe149 158).trans rfl
set_option maxRecDepth 10000 in
theorem f149_160 : gm_fetch 149 160 = some (161, .iastore, 0, 0, 0, 0) := (fe149 160).trans rfl
set_option maxRecDepth 10000 in
theorem f149_161 : gm_fetch 149 161 = some (162, .iload_n 1, 0, 0, 0, 0) := (fe149 161).trans rfl
set_option maxRecDepth 10000 in
theorem f149_162 : gm_fetch 149 162 = some (163, .aload_n 0, 0, 0, 0, 0) := (fe149 162).trans rfl
set_option maxRecDepth 10000 in
theorem f149_163 : gm_fetch 149 163 = some (166, .getfield 47, 105, 7, 21, 0) := (fe149 163).trans rfl
set_option maxRecDepth 10000 in
theorem f149_166 : gm_fetch 149 166 = some (168, .bipush 40, 0, 0, 0, 0) := (fe149 166).trans rfl
set_option maxRecDepth 10000 in
theorem f149_168 : gm_fetch 149 168 = some (169, .iload_n 2, 0, 0, 0, 0) := (fe149 168).trans rfl
set_option maxRecDepth 10000 in
theorem f149_169 : gm_fetch 149 169 = some (170, .imul, 0, 0, 0, 0) := (fe149 169).trans rfl
set_option maxRecDepth 10000 in
theorem f149_170 : gm_fetch 149 170 = some (171, .iload_n 3, 0, 0, 0, 0) := (fe149 170).trans rfl
set_option maxRecDepth 10000 in
theorem f149_171 : gm_fetch 149 171 = some (172, .iadd, 0, 0, 0, 0) := (fe149 171).trans rfl
set_option maxRecDepth 10000 in
theorem f149_172 : gm_fetch 149 172 = some (173, .iaload, 0, 0, 0, 0) := (fe149 172).trans rfl
set_option maxRecDepth 10000 in
theorem f149_173 : gm_fetch 149 173 = some (176, .invokestatic 134, 167, 117, 0, 0) := (fe149 173).trans rfl
set_option maxRecDepth 10000 in
theorem f149_176 : gm_fetch 149 176 = some (177, .istore_n 1, 0, 0, 0, 0) := (fe149 176).trans rfl
set_option maxRecDepth 10000 in
theorem f149_177 : gm_fetch 149 177 = some (180, .iinc 3 1, 0, 0, 0, 0) := (fe149 177).trans rfl
set_option maxRecDepth 10000 in
theorem f149_180 : gm_fetch 149 180 = some (183, .goto (-161), 0, 19, 0, 0) := (fe149 180).trans rfl
set_option maxRecDepth 10000 in
theorem f149_183 : gm_fetch 149 183 = some (186, .iinc 2 (-1), 0, 0, 0, 0) := (fe149 183).trans rfl
set_option maxRecDepth 10000 in
theorem f149_186 : gm_fetch 149 186 = some (189, .goto (-176), 0, 10, 0, 0) := (fe149 186).trans rfl
set_option maxRecDepth 10000 in
theorem f149_189 : gm_fetch 149 189 = some (190, .iload_n 1, 0, 0, 0, 0) := (fe149 189).trans rfl
set_option maxRecDepth 10000 in
theorem f149_190 : gm_fetch 149 190 = some (191, .ireturn, 0, 0, 0, 0) := (fe149 190).trans rfl
set_option maxRecDepth 10000 in
theorem rg149_0 {mi : Mi} {ml : Ml} {F : Int32 → Mi → Ml → Prop}   (h : Sg 149 10 [some (.ref 47), some (.int 1000000), some (.int ((mi 47 5) - 1)), none, none, none] [] mi ml (qi F)) : Sg 149 0 [some (.ref 47), none, none, none, none, none] [] mi ml (qi F) := by
  refine sg_psh f149_0 (v := .int 1000000) (by decide) ?_
  refine sg_st1 f149_2 (ls' := [some (.ref 47), some (.int 1000000), none, none, none, none]) rfl rfl rfl rfl ?_
  refine sg_ld f149_3 (v := .ref 47) rfl rfl ?_
  refine sg_geti f149_4 rfl rfl (x := (mi 47 5)) rfl ?_
  refine sg_psh f149_7 (v := .int 1) (by decide) ?_
  refine sg_bin f149_8 rfl ?_
  refine sg_st1 f149_9 (ls' := [some (.ref 47), some (.int 1000000), some (.int ((mi 47 5) - 1)), none, none, none]) rfl rfl rfl rfl ?_
  exact h

set_option maxRecDepth 10000 in
theorem rg149_10 {mi : Mi} {ml : Ml} {F : Int32 → Mi → Ml → Prop} {x1 : Int32} {x2 : Int32}  (h : ((x2 < 0) → F x1 mi ml) ∧ (¬ (x2 < 0) → Sg 149 19 [some (.ref 47), some (.int 1000000), some (.int x2), some (.int 0), none, none] [] mi ml (qi F))) : Sg 149 10 [some (.ref 47), some (.int x1), some (.int x2), none, none, none] [] mi ml (qi F) := by
  refine sg_ld f149_10 (v := .int x2) rfl rfl ?_
  refine sg_if f149_11 (fun c => ?_) (fun c => ?_)
  · have h := h.1 c
    refine sg_ld f149_189 (v := .int x1) rfl rfl ?_
    exact sg_iret f149_190 pq149 rfl rfl ⟨_, rfl, h⟩
  · have h := h.2 c
    refine sg_psh f149_14 (v := .int 1000000) (by decide) ?_
    refine sg_st1 f149_16 (ls' := [some (.ref 47), some (.int 1000000), some (.int x2), none, none, none]) rfl rfl rfl rfl ?_
    refine sg_psh f149_17 (v := .int 0) (by decide) ?_
    refine sg_st1 f149_18 (ls' := [some (.ref 47), some (.int 1000000), some (.int x2), some (.int 0), none, none]) rfl rfl rfl rfl ?_
    exact h

set_option maxRecDepth 10000 in
theorem rg149_19 {mi : Mi} {ml : Ml} {F : Int32 → Mi → Ml → Prop} {x1 : Int32} {x2 : Int32} {x3 : Int32}  (h : (((mi 47 18) ≤ x3) → Sg 149 10 [some (.ref 47), some (.int x1), some (.int (x2 + (-1))), none, none, none] [] mi ml (qi F)) ∧ (¬ ((mi 47 18) ≤ x3) → ((¬ x2 = ((mi 47 5) - 1)) → Sg 149 48 [some (.ref 47), some (.int x1), some (.int x2), some (.int x3), some (.int 1000000), some (.int 0)] [] mi ml (qi F)) ∧ (¬ (¬ x2 = ((mi 47 5) - 1)) → Sg 149 48 [some (.ref 47), some (.int x1), some (.int x2), some (.int x3), some (.int 0), some (.int 0)] [] mi ml (qi F)))) : Sg 149 19 [some (.ref 47), some (.int x1), some (.int x2), some (.int x3), none, none] [] mi ml (qi F) := by
  refine sg_ld f149_19 (v := .int x3) rfl rfl ?_
  refine sg_ld f149_20 (v := .ref 47) rfl rfl ?_
  refine sg_geti f149_21 rfl rfl (x := (mi 47 18)) rfl ?_
  refine sg_icmp f149_24 (fun c => ?_) (fun c => ?_)
  · have h := h.1 c
    refine sg_inc f149_183 (d := (-1)) (ls' := [some (.ref 47), some (.int x1), some (.int (x2 + (-1))), some (.int x3), none, none]) rfl (by decide) rfl ?_
    refine sg_goto f149_186 ?_
    exact sg_drop [3] rfl h
  · have h := h.2 c
    refine sg_ld f149_27 (v := .int x2) rfl rfl ?_
    refine sg_ld f149_28 (v := .ref 47) rfl rfl ?_
    refine sg_geti f149_29 rfl rfl (x := (mi 47 5)) rfl ?_
    refine sg_psh f149_32 (v := .int 1) (by decide) ?_
    refine sg_bin f149_33 rfl ?_
    refine sg_icmp f149_34 (fun c => ?_) (fun c => ?_)
    · have h := h.1 c
      refine sg_psh f149_41 (v := .int 1000000) (by decide) ?_
      refine sg_st1 f149_43 (ls' := [some (.ref 47), some (.int x1), some (.int x2), some (.int x3), some (.int 1000000), none]) rfl rfl rfl rfl ?_
      refine sg_psh f149_45 (v := .int 0) (by decide) ?_
      refine sg_st1 f149_46 (ls' := [some (.ref 47), some (.int x1), some (.int x2), some (.int x3), some (.int 1000000), some (.int 0)]) rfl rfl rfl rfl ?_
      exact h
    · have h := h.2 c
      refine sg_psh f149_37 (v := .int 0) (by decide) ?_
      refine sg_goto f149_38 ?_
      refine sg_st1 f149_43 (ls' := [some (.ref 47), some (.int x1), some (.int x2), some (.int x3), some (.int 0), none]) rfl rfl rfl rfl ?_
      refine sg_psh f149_45 (v := .int 0) (by decide) ?_
      refine sg_st1 f149_46 (ls' := [some (.ref 47), some (.int x1), some (.int x2), some (.int x3), some (.int 0), some (.int 0)]) rfl rfl rfl rfl ?_
      exact h

set_option maxRecDepth 10000 in
theorem rg149_48 {mi : Mi} {ml : Ml} {F : Int32 → Mi → Ml → Prop} {x1 : Int32} {x2 : Int32} {x3 : Int32} {x4 : Int32} {x5 : Int32}  (h : (((mi 47 18) ≤ x5) → Sg 149 115 [some (.ref 47), some (.int x1), some (.int x2), some (.int x3), some (.int x4), some (.int x5)] [] mi ml (qi F)) ∧ (¬ ((mi 47 18) ≤ x5) → ((((mi 47 5) - 1) ≤ x2) → Sg 149 115 [some (.ref 47), some (.int x1), some (.int x2), some (.int x3), some (.int x4), some (.int x5)] [] mi ml (qi F)) ∧ (¬ (((mi 47 5) - 1) ≤ x2) → (vp_in ((40 * x3) + x5) 1600) ∧ ((((mi 57 (Int32.toNatClampNeg ((40 * x3) + x5))) = 0) → Sg 149 48 [some (.ref 47), some (.int x1), some (.int x2), some (.int x3), some (.int x4), some (.int (x5 + 1))] [] mi ml (qi F)) ∧ (¬ ((mi 57 (Int32.toNatClampNeg ((40 * x3) + x5))) = 0) → (vp_in (((40 * x2) + 40) + x5) 280) ∧ (Sg 117 0 [some (.int x4), some (.int (mi 60 (Int32.toNatClampNeg (((40 * x2) + 40) + x5))))] [] mi ml (qi fun y3 mi4 ml5 => Sg 149 48 [some (.ref 47), some (.int x1), some (.int x2), some (.int x3), some (.int y3), some (.int (x5 + 1))] [] mi4 ml5 (qi F)))))))) : Sg 149 48 [some (.ref 47), some (.int x1), some (.int x2), some (.int x3), some (.int x4), some (.int x5)] [] mi ml (qi F) := by
  refine sg_ld f149_48 (v := .int x5) rfl rfl ?_
  refine sg_ld f149_50 (v := .ref 47) rfl rfl ?_
  refine sg_geti f149_51 rfl rfl (x := (mi 47 18)) rfl ?_
  refine sg_icmp f149_54 (fun c => ?_) (fun c => ?_)
  · have h := h.1 c
    exact h
  · have h := h.2 c
    refine sg_ld f149_57 (v := .int x2) rfl rfl ?_
    refine sg_ld f149_58 (v := .ref 47) rfl rfl ?_
    refine sg_geti f149_59 rfl rfl (x := (mi 47 5)) rfl ?_
    refine sg_psh f149_62 (v := .int 1) (by decide) ?_
    refine sg_bin f149_63 rfl ?_
    refine sg_icmp f149_64 (fun c => ?_) (fun c => ?_)
    · have h := h.1 c
      exact h
    · have h := h.2 c
      refine sg_ld f149_67 (v := .ref 47) rfl rfl ?_
      refine sg_getr f149_68 rfl rfl (w := 57) rfl ?_
      refine sg_psh f149_71 (v := .int 40) (by decide) ?_
      refine sg_ld f149_73 (v := .int x3) rfl rfl ?_
      refine sg_bin f149_74 rfl ?_
      refine sg_ld f149_75 (v := .int x5) rfl rfl ?_
      refine sg_bin f149_77 rfl ?_
      obtain ⟨e1, h⟩ := h
      refine sg_zald f149_78 rfl e1 (x := (mi 57 (Int32.toNatClampNeg ((40 * x3) + x5)))) rfl ?_
      refine sg_if f149_79 (fun c => ?_) (fun c => ?_)
      · have h := h.1 c
        refine sg_ld f149_105 (v := .int x4) rfl rfl ?_
        refine sg_st1 f149_107 (ls' := [some (.ref 47), some (.int x1), some (.int x2), some (.int x3), some (.int x4), some (.int x5)]) rfl rfl rfl rfl ?_
        refine sg_inc f149_109 (d := 1) (ls' := [some (.ref 47), some (.int x1), some (.int x2), some (.int x3), some (.int x4), some (.int (x5 + 1))]) rfl (by decide) rfl ?_
        refine sg_goto f149_112 ?_
        exact h
      · have h := h.2 c
        refine sg_ld f149_82 (v := .int x4) rfl rfl ?_
        refine sg_ld f149_84 (v := .ref 47) rfl rfl ?_
        refine sg_getr f149_85 rfl rfl (w := 60) rfl ?_
        refine sg_psh f149_88 (v := .int 40) (by decide) ?_
        refine sg_ld f149_90 (v := .int x2) rfl rfl ?_
        refine sg_bin f149_91 rfl ?_
        refine sg_psh f149_92 (v := .int 40) (by decide) ?_
        refine sg_bin f149_94 rfl ?_
        refine sg_ld f149_95 (v := .int x5) rfl rfl ?_
        refine sg_bin f149_97 rfl ?_
        obtain ⟨e2, h⟩ := h
        refine sg_iald f149_98 rfl e2 (x := (mi 60 (Int32.toNatClampNeg (((40 * x2) + 40) + x5)))) rfl ?_
        refine sg_cS f149_99 (vs := [.int x4, .int (mi 60 (Int32.toNatClampNeg (((40 * x2) + 40) + x5)))]) (rest := []) (en := [some (.int x4), some (.int (mi 60 (Int32.toNatClampNeg (((40 * x2) + 40) + x5))))]) (by decide) pq117 ⟨rfl, rfl⟩ rfl rfl rfl rfl rfl h ?_
        rintro _ mi4 ml5 ⟨y3, rfl, h⟩
        refine sg_goto f149_102 ?_
        refine sg_st1 f149_107 (ls' := [some (.ref 47), some (.int x1), some (.int x2), some (.int x3), some (.int y3), some (.int x5)]) rfl rfl rfl rfl ?_
        refine sg_inc f149_109 (d := 1) (ls' := [some (.ref 47), some (.int x1), some (.int x2), some (.int x3), some (.int y3), some (.int (x5 + 1))]) rfl (by decide) rfl ?_
        refine sg_goto f149_112 ?_
        exact h

set_option maxRecDepth 10000 in
theorem rg149_115 {mi : Mi} {ml : Ml} {F : Int32 → Mi → Ml → Prop} {x1 : Int32} {x2 : Int32} {x3 : Int32} {x4 : Int32} {x5 : Int32}  (h : Sg 143 0 [some (.ref 47), some (.int x2), some (.int x3)] [] mi ml (qi fun y1 mi2 ml3 => ((y1 = 0) → Sg 149 160 [some (.ref 47), some (.int x1), some (.int x2), some (.int x3), some (.int x4), some (.int x5)] [.int 1000000, .int ((40 * x2) + x3), .ref 60] mi2 ml3 (qi F)) ∧ (¬ (y1 = 0) → ((1000000 ≤ x4) → Sg 149 160 [some (.ref 47), some (.int x1), some (.int x2), some (.int x3), some (.int x4), some (.int x5)] [.int 1000000, .int ((40 * x2) + x3), .ref 60] mi2 ml3 (qi F)) ∧ (¬ (1000000 ≤ x4) → (vp_in x3 40) ∧ (Sg 148 0 [some (.ref 47), some (.int x2), some (.int (mi2 54 (Int32.toNatClampNeg x3))), none, none] [] mi2 ml3 (qi fun y5 mi6 ml7 => Sg 149 160 [some (.ref 47), some (.int x1), some (.int x2), some (.int x3), some (.int x4), some (.int x5)] [.int (x4 + y5), .int ((40 * x2) + x3), .ref 60] mi6 ml7 (qi F))))))) : Sg 149 115 [some (.ref 47), some (.int x1), some (.int x2), some (.int x3), some (.int x4), some (.int x5)] [] mi ml (qi F) := by
  refine sg_ld f149_115 (v := .ref 47) rfl rfl ?_
  refine sg_getr f149_116 rfl rfl (w := 60) rfl ?_
  refine sg_psh f149_119 (v := .int 40) (by decide) ?_
  refine sg_ld f149_121 (v := .int x2) rfl rfl ?_
  refine sg_bin f149_122 rfl ?_
  refine sg_ld f149_123 (v := .int x3) rfl rfl ?_
  refine sg_bin f149_124 rfl ?_
  refine sg_ld f149_125 (v := .ref 47) rfl rfl ?_
  refine sg_ld f149_126 (v := .int x2) rfl rfl ?_
  refine sg_ld f149_127 (v := .int x3) rfl rfl ?_
  refine sg_cV f149_128 (vs := [.int x2, .int x3]) (r := 47) (rest := [.int ((40 * x2) + x3), .ref 60]) (en := [some (.ref 47), some (.int x2), some (.int x3)]) pq143 ⟨rfl, rfl⟩ rfl rfl rfl rfl rfl rfl h ?_
  rintro _ mi2 ml3 ⟨y1, rfl, h⟩
  refine sg_if f149_131 (fun c => ?_) (fun c => ?_)
  · have h := h.1 c
    refine sg_psh f149_158 (v := .int 1000000) (by decide) ?_
    exact h
  · have h := h.2 c
    refine sg_ld f149_134 (v := .int x4) rfl rfl ?_
    refine sg_psh f149_136 (v := .int 1000000) (by decide) ?_
    refine sg_icmp f149_138 (fun c => ?_) (fun c => ?_)
    · have h := h.1 c
      refine sg_psh f149_158 (v := .int 1000000) (by decide) ?_
      exact h
    · have h := h.2 c
      refine sg_ld f149_141 (v := .int x4) rfl rfl ?_
      refine sg_ld f149_143 (v := .ref 47) rfl rfl ?_
      refine sg_ld f149_144 (v := .int x2) rfl rfl ?_
      refine sg_ld f149_145 (v := .ref 47) rfl rfl ?_
      refine sg_getr f149_146 rfl rfl (w := 54) rfl ?_
      refine sg_ld f149_149 (v := .int x3) rfl rfl ?_
      obtain ⟨e4, h⟩ := h
      refine sg_iald f149_150 rfl e4 (x := (mi2 54 (Int32.toNatClampNeg x3))) rfl ?_
      refine sg_cV f149_151 (vs := [.int x2, .int (mi2 54 (Int32.toNatClampNeg x3))]) (r := 47) (rest := [.int x4, .int ((40 * x2) + x3), .ref 60]) (en := [some (.ref 47), some (.int x2), some (.int (mi2 54 (Int32.toNatClampNeg x3))), none, none]) pq148 ⟨rfl, rfl⟩ rfl rfl rfl rfl rfl rfl h ?_
      rintro _ mi6 ml7 ⟨y5, rfl, h⟩
      refine sg_bin f149_154 rfl ?_
      refine sg_goto f149_155 ?_
      exact h

set_option maxRecDepth 10000 in
theorem rg149_160 {mi : Mi} {ml : Ml} {F : Int32 → Mi → Ml → Prop} {x1 : Int32} {x2 : Int32} {x3 : Int32} {x4 : Int32} {x5 : Int32} {s0 : Int32} {s1 : Int32}  (h : (vp_in s1 280) ∧ ((vp_in ((40 * x2) + x3) 280) ∧ (Sg 117 0 [some (.int x1), some (.int ((va_up (mi 60) (Int32.toNatClampNeg s1) s0) (Int32.toNatClampNeg ((40 * x2) + x3))))] [] (va_up mi 60 (va_up (mi 60) (Int32.toNatClampNeg s1) s0)) ml (qi fun y3 mi4 ml5 => Sg 149 19 [some (.ref 47), some (.int y3), some (.int x2), some (.int (x3 + 1)), none, none] [] mi4 ml5 (qi F))))) : Sg 149 160 [some (.ref 47), some (.int x1), some (.int x2), some (.int x3), some (.int x4), some (.int x5)] [.int s0, .int s1, .ref 60] mi ml (qi F) := by
  obtain ⟨e1, h⟩ := h
  refine sg_iast f149_160 rfl e1 ?_
  refine sg_ld f149_161 (v := .int x1) rfl rfl ?_
  refine sg_ld f149_162 (v := .ref 47) rfl rfl ?_
  refine sg_getr f149_163 rfl rfl (w := 60) rfl ?_
  refine sg_psh f149_166 (v := .int 40) (by decide) ?_
  refine sg_ld f149_168 (v := .int x2) rfl rfl ?_
  refine sg_bin f149_169 rfl ?_
  refine sg_ld f149_170 (v := .int x3) rfl rfl ?_
  refine sg_bin f149_171 rfl ?_
  obtain ⟨e2, h⟩ := h
  refine sg_iald f149_172 rfl e2 (x := ((va_up (mi 60) (Int32.toNatClampNeg s1) s0) (Int32.toNatClampNeg ((40 * x2) + x3)))) rfl ?_
  refine sg_cS f149_173 (vs := [.int x1, .int ((va_up (mi 60) (Int32.toNatClampNeg s1) s0) (Int32.toNatClampNeg ((40 * x2) + x3)))]) (rest := []) (en := [some (.int x1), some (.int ((va_up (mi 60) (Int32.toNatClampNeg s1) s0) (Int32.toNatClampNeg ((40 * x2) + x3))))]) (by decide) pq117 ⟨rfl, rfl⟩ rfl rfl rfl rfl rfl h ?_
  rintro _ mi4 ml5 ⟨y3, rfl, h⟩
  refine sg_st1 f149_176 (ls' := [some (.ref 47), some (.int y3), some (.int x2), some (.int x3), some (.int x4), some (.int x5)]) rfl rfl rfl rfl ?_
  refine sg_inc f149_177 (d := 1) (ls' := [some (.ref 47), some (.int y3), some (.int x2), some (.int (x3 + 1)), some (.int x4), some (.int x5)]) rfl (by decide) rfl ?_
  refine sg_goto f149_180 ?_
  exact sg_drop [4, 5] rfl h

/-! X7_chooses (I)V -/
theorem fe150 (pc : Nat) : gm_fetch 150 pc = gm_find pc cd_150 := rfl
theorem f150_0 : gm_fetch 150 0 = some (1, .iload_n 1, 0, 0, 0, 0) := (fe150 0).trans rfl
theorem f150_1 : gm_fetch 150 1 = some (2, .istore_n 2, 0, 0, 0, 0) := (fe150 1).trans rfl
theorem f150_2 : gm_fetch 150 2 = some (3, .iconst (-1), 0, 0, 0, 0) := (fe150 2).trans rfl
theorem f150_3 : gm_fetch 150 3 = some (4, .istore_n 3, 0, 0, 0, 0) := (fe150 3).trans rfl
theorem f150_4 : gm_fetch 150 4 = some (5, .iconst 0, 0, 0, 0, 0) := (fe150 4).trans rfl
theorem f150_5 : gm_fetch 150 5 = some (7, .istore 4, 0, 0, 0, 0) := (fe150 5).trans rfl
theorem f150_7 : gm_fetch 150 7 = some (9, .iload 4, 0, 0, 0, 0) := (fe150 7).trans rfl
theorem f150_9 : gm_fetch 150 9 = some (10, .aload_n 0, 0, 0, 0, 0) := (fe150 9).trans rfl
theorem f150_10 : gm_fetch 150 10 = some (13, .getfield 77, 89, 7, 5, 0) := (fe150 10).trans rfl
theorem f150_13 : gm_fetch 150 13 = some (16, .if_icmp .ge 114, 0, 127, 0, 0) := (fe150 13).trans rfl
theorem f150_16 : gm_fetch 150 16 = some (17, .iconst (-1), 0, 0, 0, 0) := (fe150 16).trans rfl
theorem f150_17 : gm_fetch 150 17 = some (19, .istore 5, 0, 0, 0, 0) := (fe150 17).trans rfl
theorem f150_19 : gm_fetch 150 19 = some (20, .iconst 0, 0, 0, 0, 0) := (fe150 19).trans rfl
theorem f150_20 : gm_fetch 150 20 = some (22, .istore 6, 0, 0, 0, 0) := (fe150 20).trans rfl
theorem f150_22 : gm_fetch 150 22 = some (24, .iload 6, 0, 0, 0, 0) := (fe150 22).trans rfl
theorem f150_24 : gm_fetch 150 24 = some (25, .aload_n 0, 0, 0, 0, 0) := (fe150 24).trans rfl
theorem f150_25 : gm_fetch 150 25 = some (28, .getfield 158, 102, 7, 18, 0) := (fe150 25).trans rfl
theorem f150_28 : gm_fetch 150 28 = some (31, .if_icmp .ge 60, 0, 88, 0, 0) := (fe150 28).trans rfl
theorem f150_31 : gm_fetch 150 31 = some (33, .iload 5, 0, 0, 0, 0) := (fe150 31).trans rfl
theorem f150_33 : gm_fetch 150 33 = some (34, .iconst (-1), 0, 0, 0, 0) := (fe150 33).trans rfl
theorem f150_34 : gm_fetch 150 34 = some (37, .if_icmp .ne 54, 0, 88, 0, 0) := (fe150 34).trans rfl
theorem f150_37 : gm_fetch 150 37 = some (38, .aload_n 0, 0, 0, 0, 0) := (fe150 37).trans rfl
theorem f150_38 : gm_fetch 150 38 = some (41, .getfield 47, 105, 7, 21, 0) := (fe150 38).trans rfl
theorem f150_41 : gm_fetch 150 41 = some (43, .bipush 40, 0, 0, 0, 0) := (fe150 41).trans rfl
theorem f150_43 : gm_fetch 150 43 = some (45, .iload 4, 0, 0, 0, 0) := (fe150 43).trans rfl
theorem f150_45 : gm_fetch 150 45 = some (46, .imul, 0, 0, 0, 0) := (fe150 45).trans rfl
theorem f150_46 : gm_fetch 150 46 = some (48, .iload 6, 0, 0, 0, 0) := (fe150 46).trans rfl
theorem f150_48 : gm_fetch 150 48 = some (49, .iadd, 0, 0, 0, 0) := (fe150 48).trans rfl
theorem f150_49 : gm_fetch 150 49 = some (50, .iaload, 0, 0, 0, 0) := (fe150 49).trans rfl
theorem f150_50 : gm_fetch 150 50 = some (51, .iload_n 2, 0, 0, 0, 0) := (fe150 50).trans rfl
theorem f150_51 : gm_fetch 150 51 = some (54, .if_icmp .ne 28, 0, 79, 0, 0) := (fe150 51).trans rfl
theorem f150_54 : gm_fetch 150 54 = some (55, .iload_n 3, 0, 0, 0, 0) := (fe150 54).trans rfl
theorem f150_55 : gm_fetch 150 55 = some (56, .iconst (-1), 0, 0, 0, 0) := (fe150 55).trans rfl
theorem f150_56 : gm_fetch 150 56 = some (59, .if_icmp .eq 18, 0, 74, 0, 0) := (fe150 56).trans rfl
theorem f150_59 : gm_fetch 150 59 = some (60, .aload_n 0, 0, 0, 0, 0) := (fe150 59).trans rfl
theorem f150_60 : gm_fetch 150 60 = some (63, .getfield 38, 101, 7, 17, 0) := (fe150 60).trans rfl
theorem f150_63 : gm_fetch 150 63 = some (65, .bipush 40, 0, 0, 0, 0) := (fe150 63).trans rfl
theorem f150_65 : gm_fetch 150 65 = some (66, .iload_n 3, 0, 0, 0, 0) := (fe150 65).trans rfl
theorem f150_66 : gm_fetch 150 66 = some (67, .imul, 0, 0, 0, 0) := (fe150 66).trans rfl
theorem f150_67 : gm_fetch 150 67 = some (69, .iload 6, 0, 0, 0, 0) := (fe150 67).trans rfl
theorem f150_69 : gm_fetch 150 69 = some (70, .iadd, 0, 0, 0, 0) := (fe150 69).trans rfl
theorem f150_70 : gm_fetch 150 70 = some (71, .baload, 0, 0, 0, 0) := (fe150 70).trans rfl
theorem f150_71 : gm_fetch 150 71 = some (74, .ifCond .eq 8, 0, 79, 0, 0) := (fe150 71).trans rfl
theorem f150_74 : gm_fetch 150 74 = some (76, .iload 6, 0, 0, 0, 0) := (fe150 74).trans rfl
theorem f150_76 : gm_fetch 150 76 = some (79, .goto 4, 0, 80, 0, 0) := (fe150 76).trans rfl
theorem f150_79 : gm_fetch 150 79 = some (80, .iconst (-1), 0, 0, 0, 0) := (fe150 79).trans rfl
theorem f150_80 : gm_fetch 150 80 = some (82, .istore 5, 0, 0, 0, 0) := (fe150 80).trans rfl
theorem f150_82 : gm_fetch 150 82 = some (85, .iinc 6 1, 0, 0, 0, 0) := (fe150 82).trans rfl
theorem f150_85 : gm_fetch 150 85 = some (88, .goto (-63), 0, 22, 0, 0) := (fe150 85).trans rfl
theorem f150_88 : gm_fetch 150 88 = some (89, .aload_n 0, 0, 0, 0, 0) := (fe150 88).trans rfl
theorem f150_89 : gm_fetch 150 89 = some (92, .getfield 50, 106, 7, 22, 0) := (fe150 89).trans rfl
theorem f150_92 : gm_fetch 150 92 = some (94, .iload 4, 0, 0, 0, 0) := (fe150 92).trans rfl
theorem f150_94 : gm_fetch 150 94 = some (95, .aload_n 0, 0, 0, 0, 0) := (fe150 94).trans rfl
theorem f150_95 : gm_fetch 150 95 = some (98, .getfield 28, 98, 7, 14, 0) := (fe150 95).trans rfl
theorem f150_98 : gm_fetch 150 98 = some (100, .iload 5, 0, 0, 0, 0) := (fe150 98).trans rfl
theorem f150_100 : gm_fetch 150 100 = some (101, .iaload, 0, 0, 0, 0) := (fe150 100).trans rfl
theorem f150_101 : gm_fetch 150 101 = some (102, .iastore, 0, 0, 0, 0) := (fe150 101).trans rfl
theorem f150_102 : gm_fetch 150 102 = some (103, .iload_n 2, 0, 0, 0, 0) := (fe150 102).trans rfl
theorem f150_103 : gm_fetch 150 103 = some (104, .aload_n 0, 0, 0, 0, 0) := (fe150 103).trans rfl
theorem f150_104 : gm_fetch 150 104 = some (106, .iload 4, 0, 0, 0, 0) := (fe150 104).trans rfl
theorem f150_106 : gm_fetch 150 106 = some (107, .aload_n 0, 0, 0, 0, 0) := (fe150 106).trans rfl
theorem f150_107 : gm_fetch 150 107 = some (110, .getfield 28, 98, 7, 14, 0) := (fe150 107).trans rfl
theorem f150_110 : gm_fetch 150 110 = some (112, .iload 5, 0, 0, 0, 0) := (fe150 110).trans rfl
theorem f150_112 : gm_fetch 150 112 = some (113, .iaload, 0, 0, 0, 0) := (fe150 112).trans rfl
theorem f150_113 : gm_fetch 150 113 = some (116, .invokevirtual 188, 190, 148, 0, 0) := (fe150 113).trans rfl
theorem f150_116 : gm_fetch 150 116 = some (117, .isub, 0, 0, 0, 0) := (fe150 116).trans rfl
theorem f150_117 : gm_fetch 150 117 = some (118, .istore_n 2, 0, 0, 0, 0) := (fe150 117).trans rfl
theorem f150_118 : gm_fetch 150 118 = some (120, .iload 5, 0, 0, 0, 0) := (fe150 118).trans rfl
theorem f150_120 : gm_fetch 150 120 = some (121, .istore_n 3, 0, 0, 0, 0) := (fe150 120).trans rfl
theorem f150_121 : gm_fetch 150 121 = some (124, .iinc 4 1, 0, 0, 0, 0) := (fe150 121).trans rfl
theorem f150_124 : gm_fetch 150 124 = some (127, .goto (-117), 0, 7, 0, 0) := (fe150 124).trans rfl
theorem f150_127 : gm_fetch 150 127 = some (128, .return_, 0, 0, 0, 0) := (fe150 127).trans rfl
set_option maxRecDepth 10000 in
theorem rg150_0 {mi : Mi} {ml : Ml} {F : Mi → Ml → Prop} {x1 : Int32}  (h : Sg 150 7 [some (.ref 47), some (.int x1), some (.int x1), some (.int (-1)), some (.int 0), none, none] [] mi ml (qv F)) : Sg 150 0 [some (.ref 47), some (.int x1), none, none, none, none, none] [] mi ml (qv F) := by
  refine sg_ld f150_0 (v := .int x1) rfl rfl ?_
  refine sg_st1 f150_1 (ls' := [some (.ref 47), some (.int x1), some (.int x1), none, none, none, none]) rfl rfl rfl rfl ?_
  refine sg_psh f150_2 (v := .int (-1)) (by decide) ?_
  refine sg_st1 f150_3 (ls' := [some (.ref 47), some (.int x1), some (.int x1), some (.int (-1)), none, none, none]) rfl rfl rfl rfl ?_
  refine sg_psh f150_4 (v := .int 0) (by decide) ?_
  refine sg_st1 f150_5 (ls' := [some (.ref 47), some (.int x1), some (.int x1), some (.int (-1)), some (.int 0), none, none]) rfl rfl rfl rfl ?_
  exact h

set_option maxRecDepth 10000 in
theorem rg150_7 {mi : Mi} {ml : Ml} {F : Mi → Ml → Prop} {x1 : Int32} {x2 : Int32} {x3 : Int32} {x4 : Int32}  (h : (((mi 47 5) ≤ x4) → F mi ml) ∧ (¬ ((mi 47 5) ≤ x4) → Sg 150 22 [some (.ref 47), some (.int x1), some (.int x2), some (.int x3), some (.int x4), some (.int (-1)), some (.int 0)] [] mi ml (qv F))) : Sg 150 7 [some (.ref 47), some (.int x1), some (.int x2), some (.int x3), some (.int x4), none, none] [] mi ml (qv F) := by
  refine sg_ld f150_7 (v := .int x4) rfl rfl ?_
  refine sg_ld f150_9 (v := .ref 47) rfl rfl ?_
  refine sg_geti f150_10 rfl rfl (x := (mi 47 5)) rfl ?_
  refine sg_icmp f150_13 (fun c => ?_) (fun c => ?_)
  · have h := h.1 c
    exact sg_ret f150_127 pq150 rfl h
  · have h := h.2 c
    refine sg_psh f150_16 (v := .int (-1)) (by decide) ?_
    refine sg_st1 f150_17 (ls' := [some (.ref 47), some (.int x1), some (.int x2), some (.int x3), some (.int x4), some (.int (-1)), none]) rfl rfl rfl rfl ?_
    refine sg_psh f150_19 (v := .int 0) (by decide) ?_
    refine sg_st1 f150_20 (ls' := [some (.ref 47), some (.int x1), some (.int x2), some (.int x3), some (.int x4), some (.int (-1)), some (.int 0)]) rfl rfl rfl rfl ?_
    exact h

set_option maxRecDepth 10000 in
theorem rg150_22 {mi : Mi} {ml : Ml} {F : Mi → Ml → Prop} {x1 : Int32} {x2 : Int32} {x3 : Int32} {x4 : Int32} {x5 : Int32} {x6 : Int32}  (h : (((mi 47 18) ≤ x6) → Sg 150 88 [some (.ref 47), some (.int x1), some (.int x2), some (.int x3), some (.int x4), some (.int x5), some (.int x6)] [] mi ml (qv F)) ∧ (¬ ((mi 47 18) ≤ x6) → ((¬ x5 = (-1)) → Sg 150 88 [some (.ref 47), some (.int x1), some (.int x2), some (.int x3), some (.int x4), some (.int x5), some (.int x6)] [] mi ml (qv F)) ∧ (¬ (¬ x5 = (-1)) → (vp_in ((40 * x4) + x6) 280) ∧ (((¬ (mi 60 (Int32.toNatClampNeg ((40 * x4) + x6))) = x2) → Sg 150 22 [some (.ref 47), some (.int x1), some (.int x2), some (.int x3), some (.int x4), some (.int (-1)), some (.int (x6 + 1))] [] mi ml (qv F)) ∧ (¬ (¬ (mi 60 (Int32.toNatClampNeg ((40 * x4) + x6))) = x2) → ((x3 = (-1)) → Sg 150 22 [some (.ref 47), some (.int x1), some (.int x2), some (.int x3), some (.int x4), some (.int x6), some (.int (x6 + 1))] [] mi ml (qv F)) ∧ (¬ (x3 = (-1)) → (vp_in ((40 * x3) + x6) 1600) ∧ ((((mi 57 (Int32.toNatClampNeg ((40 * x3) + x6))) = 0) → Sg 150 22 [some (.ref 47), some (.int x1), some (.int x2), some (.int x3), some (.int x4), some (.int (-1)), some (.int (x6 + 1))] [] mi ml (qv F)) ∧ (¬ ((mi 57 (Int32.toNatClampNeg ((40 * x3) + x6))) = 0) → Sg 150 22 [some (.ref 47), some (.int x1), some (.int x2), some (.int x3), some (.int x4), some (.int x6), some (.int (x6 + 1))] [] mi ml (qv F))))))))) : Sg 150 22 [some (.ref 47), some (.int x1), some (.int x2), some (.int x3), some (.int x4), some (.int x5), some (.int x6)] [] mi ml (qv F) := by
  refine sg_ld f150_22 (v := .int x6) rfl rfl ?_
  refine sg_ld f150_24 (v := .ref 47) rfl rfl ?_
  refine sg_geti f150_25 rfl rfl (x := (mi 47 18)) rfl ?_
  refine sg_icmp f150_28 (fun c => ?_) (fun c => ?_)
  · have h := h.1 c
    exact h
  · have h := h.2 c
    refine sg_ld f150_31 (v := .int x5) rfl rfl ?_
    refine sg_psh f150_33 (v := .int (-1)) (by decide) ?_
    refine sg_icmp f150_34 (fun c => ?_) (fun c => ?_)
    · have h := h.1 c
      exact h
    · have h := h.2 c
      refine sg_ld f150_37 (v := .ref 47) rfl rfl ?_
      refine sg_getr f150_38 rfl rfl (w := 60) rfl ?_
      refine sg_psh f150_41 (v := .int 40) (by decide) ?_
      refine sg_ld f150_43 (v := .int x4) rfl rfl ?_
      refine sg_bin f150_45 rfl ?_
      refine sg_ld f150_46 (v := .int x6) rfl rfl ?_
      refine sg_bin f150_48 rfl ?_
      obtain ⟨e1, h⟩ := h
      refine sg_iald f150_49 rfl e1 (x := (mi 60 (Int32.toNatClampNeg ((40 * x4) + x6)))) rfl ?_
      refine sg_ld f150_50 (v := .int x2) rfl rfl ?_
      refine sg_icmp f150_51 (fun c => ?_) (fun c => ?_)
      · have h := h.1 c
        refine sg_psh f150_79 (v := .int (-1)) (by decide) ?_
        refine sg_st1 f150_80 (ls' := [some (.ref 47), some (.int x1), some (.int x2), some (.int x3), some (.int x4), some (.int (-1)), some (.int x6)]) rfl rfl rfl rfl ?_
        refine sg_inc f150_82 (d := 1) (ls' := [some (.ref 47), some (.int x1), some (.int x2), some (.int x3), some (.int x4), some (.int (-1)), some (.int (x6 + 1))]) rfl (by decide) rfl ?_
        refine sg_goto f150_85 ?_
        exact h
      · have h := h.2 c
        refine sg_ld f150_54 (v := .int x3) rfl rfl ?_
        refine sg_psh f150_55 (v := .int (-1)) (by decide) ?_
        refine sg_icmp f150_56 (fun c => ?_) (fun c => ?_)
        · have h := h.1 c
          refine sg_ld f150_74 (v := .int x6) rfl rfl ?_
          refine sg_goto f150_76 ?_
          refine sg_st1 f150_80 (ls' := [some (.ref 47), some (.int x1), some (.int x2), some (.int x3), some (.int x4), some (.int x6), some (.int x6)]) rfl rfl rfl rfl ?_
          refine sg_inc f150_82 (d := 1) (ls' := [some (.ref 47), some (.int x1), some (.int x2), some (.int x3), some (.int x4), some (.int x6), some (.int (x6 + 1))]) rfl (by decide) rfl ?_
          refine sg_goto f150_85 ?_
          exact h
        · have h := h.2 c
          refine sg_ld f150_59 (v := .ref 47) rfl rfl ?_
          refine sg_getr f150_60 rfl rfl (w := 57) rfl ?_
          refine sg_psh f150_63 (v := .int 40) (by decide) ?_
          refine sg_ld f150_65 (v := .int x3) rfl rfl ?_
          refine sg_bin f150_66 rfl ?_
          refine sg_ld f150_67 (v := .int x6) rfl rfl ?_
          refine sg_bin f150_69 rfl ?_
          obtain ⟨e2, h⟩ := h
          refine sg_zald f150_70 rfl e2 (x := (mi 57 (Int32.toNatClampNeg ((40 * x3) + x6)))) rfl ?_
          refine sg_if f150_71 (fun c => ?_) (fun c => ?_)
          · have h := h.1 c
            refine sg_psh f150_79 (v := .int (-1)) (by decide) ?_
            refine sg_st1 f150_80 (ls' := [some (.ref 47), some (.int x1), some (.int x2), some (.int x3), some (.int x4), some (.int (-1)), some (.int x6)]) rfl rfl rfl rfl ?_
            refine sg_inc f150_82 (d := 1) (ls' := [some (.ref 47), some (.int x1), some (.int x2), some (.int x3), some (.int x4), some (.int (-1)), some (.int (x6 + 1))]) rfl (by decide) rfl ?_
            refine sg_goto f150_85 ?_
            exact h
          · have h := h.2 c
            refine sg_ld f150_74 (v := .int x6) rfl rfl ?_
            refine sg_goto f150_76 ?_
            refine sg_st1 f150_80 (ls' := [some (.ref 47), some (.int x1), some (.int x2), some (.int x3), some (.int x4), some (.int x6), some (.int x6)]) rfl rfl rfl rfl ?_
            refine sg_inc f150_82 (d := 1) (ls' := [some (.ref 47), some (.int x1), some (.int x2), some (.int x3), some (.int x4), some (.int x6), some (.int (x6 + 1))]) rfl (by decide) rfl ?_
            refine sg_goto f150_85 ?_
            exact h

set_option maxRecDepth 10000 in
theorem rg150_88 {mi : Mi} {ml : Ml} {F : Mi → Ml → Prop} {x1 : Int32} {x2 : Int32} {x3 : Int32} {x4 : Int32} {x5 : Int32} {x6 : Int32}  (h : (vp_in x5 40) ∧ ((vp_in x4 7) ∧ (Sg 148 0 [some (.ref 47), some (.int x4), some (.int (mi 54 (Int32.toNatClampNeg x5))), none, none] [] (va_up mi 61 (va_up (mi 61) (Int32.toNatClampNeg x4) (mi 54 (Int32.toNatClampNeg x5)))) ml (qi fun y3 mi4 ml5 => Sg 150 7 [some (.ref 47), some (.int x1), some (.int (x2 - y3)), some (.int x5), some (.int (x4 + 1)), none, none] [] mi4 ml5 (qv F))))) : Sg 150 88 [some (.ref 47), some (.int x1), some (.int x2), some (.int x3), some (.int x4), some (.int x5), some (.int x6)] [] mi ml (qv F) := by
  refine sg_ld f150_88 (v := .ref 47) rfl rfl ?_
  refine sg_getr f150_89 rfl rfl (w := 61) rfl ?_
  refine sg_ld f150_92 (v := .int x4) rfl rfl ?_
  refine sg_ld f150_94 (v := .ref 47) rfl rfl ?_
  refine sg_getr f150_95 rfl rfl (w := 54) rfl ?_
  refine sg_ld f150_98 (v := .int x5) rfl rfl ?_
  obtain ⟨e1, h⟩ := h
  refine sg_iald f150_100 rfl e1 (x := (mi 54 (Int32.toNatClampNeg x5))) rfl ?_
  obtain ⟨e2, h⟩ := h
  refine sg_iast f150_101 rfl e2 ?_
  refine sg_ld f150_102 (v := .int x2) rfl rfl ?_
  refine sg_ld f150_103 (v := .ref 47) rfl rfl ?_
  refine sg_ld f150_104 (v := .int x4) rfl rfl ?_
  refine sg_ld f150_106 (v := .ref 47) rfl rfl ?_
  refine sg_getr f150_107 rfl rfl (w := 54) rfl ?_
  refine sg_ld f150_110 (v := .int x5) rfl rfl ?_
  refine sg_iald f150_112 rfl e1 (x := (mi 54 (Int32.toNatClampNeg x5))) rfl ?_
  refine sg_cV f150_113 (vs := [.int x4, .int (mi 54 (Int32.toNatClampNeg x5))]) (r := 47) (rest := [.int x2]) (en := [some (.ref 47), some (.int x4), some (.int (mi 54 (Int32.toNatClampNeg x5))), none, none]) pq148 ⟨rfl, rfl⟩ rfl rfl rfl rfl rfl rfl h ?_
  rintro _ mi4 ml5 ⟨y3, rfl, h⟩
  refine sg_bin f150_116 rfl ?_
  refine sg_st1 f150_117 (ls' := [some (.ref 47), some (.int x1), some (.int (x2 - y3)), some (.int x3), some (.int x4), some (.int x5), some (.int x6)]) rfl rfl rfl rfl ?_
  refine sg_ld f150_118 (v := .int x5) rfl rfl ?_
  refine sg_st1 f150_120 (ls' := [some (.ref 47), some (.int x1), some (.int (x2 - y3)), some (.int x5), some (.int x4), some (.int x5), some (.int x6)]) rfl rfl rfl rfl ?_
  refine sg_inc f150_121 (d := 1) (ls' := [some (.ref 47), some (.int x1), some (.int (x2 - y3)), some (.int x5), some (.int (x4 + 1)), some (.int x5), some (.int x6)]) rfl (by decide) rfl ?_
  refine sg_goto f150_124 ?_
  exact sg_drop [5, 6] rfl h

/-! X7_mend ()I -/
theorem fe151 (pc : Nat) : gm_fetch 151 pc = gm_find pc cd_151 := rfl
theorem f151_0 : gm_fetch 151 0 = some (1, .aload_n 0, 0, 0, 0, 0) := (fe151 0).trans rfl
theorem f151_1 : gm_fetch 151 1 = some (4, .invokevirtual 177, 181, 142, 0, 0) := (fe151 1).trans rfl
theorem f151_4 : gm_fetch 151 4 = some (5, .aload_n 0, 0, 0, 0, 0) := (fe151 4).trans rfl
theorem f151_5 : gm_fetch 151 5 = some (8, .invokevirtual 191, 189, 149, 0, 0) := (fe151 5).trans rfl
theorem f151_8 : gm_fetch 151 8 = some (9, .istore_n 1, 0, 0, 0, 0) := (fe151 8).trans rfl
theorem f151_9 : gm_fetch 151 9 = some (10, .iload_n 1, 0, 0, 0, 0) := (fe151 9).trans rfl
theorem f151_10 : gm_fetch 151 10 = some (12, .ldc 187, 8, 0, 0, 1000000) := (fe151 10).trans rfl
theorem f151_12 : gm_fetch 151 12 = some (15, .if_icmp .lt 6, 0, 18, 0, 0) := (fe151 12).trans rfl
theorem f151_15 : gm_fetch 151 15 = some (17, .bipush (-3), 0, 0, 0, 0) := (fe151 15).trans rfl
theorem f151_17 : gm_fetch 151 17 = some (18, .ireturn, 0, 0, 0, 0) := (fe151 17).trans rfl
theorem f151_18 : gm_fetch 151 18 = some (19, .aload_n 0, 0, 0, 0, 0) := (fe151 18).trans rfl
theorem f151_19 : gm_fetch 151 19 = some (20, .iload_n 1, 0, 0, 0, 0) := (fe151 19).trans rfl
theorem f151_20 : gm_fetch 151 20 = some (23, .invokevirtual 194, 192, 150, 0, 0) := (fe151 20).trans rfl
theorem f151_23 : gm_fetch 151 23 = some (24, .iconst 0, 0, 0, 0, 0) := (fe151 23).trans rfl
theorem f151_24 : gm_fetch 151 24 = some (25, .istore_n 2, 0, 0, 0, 0) := (fe151 24).trans rfl
theorem f151_25 : gm_fetch 151 25 = some (26, .iload_n 2, 0, 0, 0, 0) := (fe151 25).trans rfl
theorem f151_26 : gm_fetch 151 26 = some (27, .aload_n 0, 0, 0, 0, 0) := (fe151 26).trans rfl
theorem f151_27 : gm_fetch 151 27 = some (30, .getfield 77, 89, 7, 5, 0) := (fe151 27).trans rfl
theorem f151_30 : gm_fetch 151 30 = some (33, .if_icmp .ge 21, 0, 51, 0, 0) := (fe151 30).trans rfl
theorem f151_33 : gm_fetch 151 33 = some (34, .aload_n 0, 0, 0, 0, 0) := (fe151 33).trans rfl
theorem f151_34 : gm_fetch 151 34 = some (37, .getfield 25, 96, 7, 12, 0) := (fe151 34).trans rfl
theorem f151_37 : gm_fetch 151 37 = some (38, .iload_n 2, 0, 0, 0, 0) := (fe151 37).trans rfl
theorem f151_38 : gm_fetch 151 38 = some (39, .aload_n 0, 0, 0, 0, 0) := (fe151 38).trans rfl
theorem f151_39 : gm_fetch 151 39 = some (42, .getfield 50, 106, 7, 22, 0) := (fe151 39).trans rfl
theorem f151_42 : gm_fetch 151 42 = some (43, .iload_n 2, 0, 0, 0, 0) := (fe151 42).trans rfl
theorem f151_43 : gm_fetch 151 43 = some (44, .iaload, 0, 0, 0, 0) := (fe151 43).trans rfl
theorem f151_44 : gm_fetch 151 44 = some (45, .iastore, 0, 0, 0, 0) := (fe151 44).trans rfl
theorem f151_45 : gm_fetch 151 45 = some (48, .iinc 2 1, 0, 0, 0, 0) := (fe151 45).trans rfl
theorem f151_48 : gm_fetch 151 48 = some (51, .goto (-23), 0, 25, 0, 0) := (fe151 48).trans rfl
theorem f151_51 : gm_fetch 151 51 = some (52, .aload_n 0, 0, 0, 0, 0) := (fe151 51).trans rfl
theorem f151_52 : gm_fetch 151 52 = some (53, .iconst 1, 0, 0, 0, 0) := (fe151 52).trans rfl
theorem f151_53 : gm_fetch 151 53 = some (56, .putfield 137, 95, 7, 11, 0) := (fe151 53).trans rfl
theorem f151_56 : gm_fetch 151 56 = some (57, .aload_n 0, 0, 0, 0, 0) := (fe151 56).trans rfl
theorem f151_57 : gm_fetch 151 57 = some (58, .dup, 0, 0, 0, 0) := (fe151 57).trans rfl
theorem f151_58 : gm_fetch 151 58 = some (61, .getfield 198, 97, 7, 13, 0) := (fe151 58).trans rfl
theorem f151_61 : gm_fetch 151 61 = some (62, .iload_n 1, 0, 0, 0, 0) := (fe151 61).trans rfl
theorem f151_62 : gm_fetch 151 62 = some (63, .iadd, 0, 0, 0, 0) := (fe151 62).trans rfl
theorem f151_63 : gm_fetch 151 63 = some (66, .putfield 198, 97, 7, 13, 0) := (fe151 63).trans rfl
theorem f151_66 : gm_fetch 151 66 = some (67, .iload_n 1, 0, 0, 0, 0) := (fe151 66).trans rfl
theorem f151_67 : gm_fetch 151 67 = some (68, .ireturn, 0, 0, 0, 0) := (fe151 67).trans rfl
set_option maxRecDepth 10000 in
theorem rg151_0 {mi : Mi} {ml : Ml} {F : Int32 → Mi → Ml → Prop}   (h : Sg 142 0 [some (.ref 47)] [] mi ml (qv fun mi2 ml3 => Sg 149 0 [some (.ref 47), none, none, none, none, none] [] mi2 ml3 (qi fun y4 mi5 ml6 => ((y4 < 1000000) → Sg 150 0 [some (.ref 47), some (.int y4), none, none, none, none, none] [] mi5 ml6 (qv fun mi8 ml9 => Sg 151 25 [some (.ref 47), some (.int y4), some (.int 0)] [] mi8 ml9 (qi F))) ∧ (¬ (y4 < 1000000) → F (-3) mi5 ml6)))) : Sg 151 0 [some (.ref 47), none, none] [] mi ml (qi F) := by
  refine sg_ld f151_0 (v := .ref 47) rfl rfl ?_
  refine sg_cV f151_1 (vs := []) (r := 47) (rest := []) (en := [some (.ref 47)]) pq142 ⟨rfl, rfl⟩ rfl rfl rfl rfl rfl rfl h ?_
  intro _ mi2 ml3 h
  have h := gm_qv h
  refine sg_ld f151_4 (v := .ref 47) rfl rfl ?_
  refine sg_cV f151_5 (vs := []) (r := 47) (rest := []) (en := [some (.ref 47), none, none, none, none, none]) pq149 ⟨rfl, rfl⟩ rfl rfl rfl rfl rfl rfl h ?_
  rintro _ mi5 ml6 ⟨y4, rfl, h⟩
  refine sg_st1 f151_8 (ls' := [some (.ref 47), some (.int y4), none]) rfl rfl rfl rfl ?_
  refine sg_ld f151_9 (v := .int y4) rfl rfl ?_
  refine sg_psh f151_10 (v := .int 1000000) (by decide) ?_
  refine sg_icmp f151_12 (fun c => ?_) (fun c => ?_)
  · have h := h.1 c
    refine sg_ld f151_18 (v := .ref 47) rfl rfl ?_
    refine sg_ld f151_19 (v := .int y4) rfl rfl ?_
    refine sg_cV f151_20 (vs := [.int y4]) (r := 47) (rest := []) (en := [some (.ref 47), some (.int y4), none, none, none, none, none]) pq150 ⟨rfl, rfl⟩ rfl rfl rfl rfl rfl rfl h ?_
    intro _ mi8 ml9 h
    have h := gm_qv h
    refine sg_psh f151_23 (v := .int 0) (by decide) ?_
    refine sg_st1 f151_24 (ls' := [some (.ref 47), some (.int y4), some (.int 0)]) rfl rfl rfl rfl ?_
    exact h
  · have h := h.2 c
    refine sg_psh f151_15 (v := .int (-3)) (by decide) ?_
    exact sg_iret f151_17 pq151 rfl rfl ⟨_, rfl, h⟩

set_option maxRecDepth 10000 in
theorem rg151_25 {mi : Mi} {ml : Ml} {F : Int32 → Mi → Ml → Prop} {x1 : Int32} {x2 : Int32}  (h : (((mi 47 5) ≤ x2) → F x1 (va_up mi 47 (va_up (va_up (mi 47) 11 1) 13 ((mi 47 13) + x1))) ml) ∧ (¬ ((mi 47 5) ≤ x2) → (vp_in x2 7) ∧ (Sg 151 25 [some (.ref 47), some (.int x1), some (.int (x2 + 1))] [] (va_up mi 53 (va_up (mi 53) (Int32.toNatClampNeg x2) (mi 61 (Int32.toNatClampNeg x2)))) ml (qi F)))) : Sg 151 25 [some (.ref 47), some (.int x1), some (.int x2)] [] mi ml (qi F) := by
  refine sg_ld f151_25 (v := .int x2) rfl rfl ?_
  refine sg_ld f151_26 (v := .ref 47) rfl rfl ?_
  refine sg_geti f151_27 rfl rfl (x := (mi 47 5)) rfl ?_
  refine sg_icmp f151_30 (fun c => ?_) (fun c => ?_)
  · have h := h.1 c
    refine sg_ld f151_51 (v := .ref 47) rfl rfl ?_
    refine sg_psh f151_52 (v := .int 1) (by decide) ?_
    refine sg_puti f151_53 rfl rfl rfl (fun _ => by decide) ?_
    refine sg_ld f151_56 (v := .ref 47) rfl rfl ?_
    refine sg_dup f151_57 rfl ?_
    refine sg_geti f151_58 rfl rfl (x := (mi 47 13)) rfl ?_
    refine sg_ld f151_61 (v := .int x1) rfl rfl ?_
    refine sg_bin f151_62 rfl ?_
    refine sg_puti2 f151_63 rfl rfl rfl (fun hz => by cases hz) ?_
    refine sg_ld f151_66 (v := .int x1) rfl rfl ?_
    exact sg_iret f151_67 pq151 rfl rfl ⟨_, rfl, h⟩
  · have h := h.2 c
    refine sg_ld f151_33 (v := .ref 47) rfl rfl ?_
    refine sg_getr f151_34 rfl rfl (w := 53) rfl ?_
    refine sg_ld f151_37 (v := .int x2) rfl rfl ?_
    refine sg_ld f151_38 (v := .ref 47) rfl rfl ?_
    refine sg_getr f151_39 rfl rfl (w := 61) rfl ?_
    refine sg_ld f151_42 (v := .int x2) rfl rfl ?_
    obtain ⟨e1, h⟩ := h
    refine sg_iald f151_43 rfl e1 (x := (mi 61 (Int32.toNatClampNeg x2))) rfl ?_
    refine sg_iast f151_44 rfl e1 ?_
    refine sg_inc f151_45 (d := 1) (ls' := [some (.ref 47), some (.int x1), some (.int (x2 + 1))]) rfl (by decide) rfl ?_
    refine sg_goto f151_48 ?_
    exact h

/-! X7_movesNow ()I -/
theorem fe152 (pc : Nat) : gm_fetch 152 pc = gm_find pc cd_152 := rfl
theorem f152_0 : gm_fetch 152 0 = some (1, .aload_n 0, 0, 0, 0, 0) := (fe152 0).trans rfl
theorem f152_1 : gm_fetch 152 1 = some (4, .invokevirtual 191, 189, 149, 0, 0) := (fe152 1).trans rfl
theorem f152_4 : gm_fetch 152 4 = some (5, .istore_n 1, 0, 0, 0, 0) := (fe152 4).trans rfl
theorem f152_5 : gm_fetch 152 5 = some (6, .iload_n 1, 0, 0, 0, 0) := (fe152 5).trans rfl
theorem f152_6 : gm_fetch 152 6 = some (8, .ldc 187, 8, 0, 0, 1000000) := (fe152 6).trans rfl
theorem f152_8 : gm_fetch 152 8 = some (11, .if_icmp .lt 7, 0, 15, 0, 0) := (fe152 8).trans rfl
theorem f152_11 : gm_fetch 152 11 = some (12, .iconst (-1), 0, 0, 0, 0) := (fe152 11).trans rfl
theorem f152_12 : gm_fetch 152 12 = some (15, .goto 4, 0, 16, 0, 0) := (fe152 12).trans rfl
theorem f152_15 : gm_fetch 152 15 = some (16, .iload_n 1, 0, 0, 0, 0) := (fe152 15).trans rfl
theorem f152_16 : gm_fetch 152 16 = some (17, .ireturn, 0, 0, 0, 0) := (fe152 16).trans rfl
set_option maxRecDepth 10000 in
theorem rg152_0 {mi : Mi} {ml : Ml} {F : Int32 → Mi → Ml → Prop}   (h : Sg 149 0 [some (.ref 47), none, none, none, none, none] [] mi ml (qi fun y1 mi2 ml3 => ((y1 < 1000000) → F y1 mi2 ml3) ∧ (¬ (y1 < 1000000) → F (-1) mi2 ml3))) : Sg 152 0 [some (.ref 47), none] [] mi ml (qi F) := by
  refine sg_ld f152_0 (v := .ref 47) rfl rfl ?_
  refine sg_cV f152_1 (vs := []) (r := 47) (rest := []) (en := [some (.ref 47), none, none, none, none, none]) pq149 ⟨rfl, rfl⟩ rfl rfl rfl rfl rfl rfl h ?_
  rintro _ mi2 ml3 ⟨y1, rfl, h⟩
  refine sg_st1 f152_4 (ls' := [some (.ref 47), some (.int y1)]) rfl rfl rfl rfl ?_
  refine sg_ld f152_5 (v := .int y1) rfl rfl ?_
  refine sg_psh f152_6 (v := .int 1000000) (by decide) ?_
  refine sg_icmp f152_8 (fun c => ?_) (fun c => ?_)
  · have h := h.1 c
    refine sg_ld f152_15 (v := .int y1) rfl rfl ?_
    exact sg_iret f152_16 pq152 rfl rfl ⟨_, rfl, h⟩
  · have h := h.2 c
    refine sg_psh f152_11 (v := .int (-1)) (by decide) ?_
    refine sg_goto f152_12 ?_
    exact sg_iret f152_16 pq152 rfl rfl ⟨_, rfl, h⟩

/-! X7_moves ()I -/
theorem fe153 (pc : Nat) : gm_fetch 153 pc = gm_find pc cd_153 := rfl
theorem f153_0 : gm_fetch 153 0 = some (1, .aload_n 0, 0, 0, 0, 0) := (fe153 0).trans rfl
theorem f153_1 : gm_fetch 153 1 = some (4, .invokevirtual 177, 181, 142, 0, 0) := (fe153 1).trans rfl
theorem f153_4 : gm_fetch 153 4 = some (5, .aload_n 0, 0, 0, 0, 0) := (fe153 4).trans rfl
theorem f153_5 : gm_fetch 153 5 = some (8, .invokevirtual 201, 194, 152, 0, 0) := (fe153 5).trans rfl
theorem f153_8 : gm_fetch 153 8 = some (9, .ireturn, 0, 0, 0, 0) := (fe153 8).trans rfl
set_option maxRecDepth 10000 in
theorem rg153_0 {mi : Mi} {ml : Ml} {F : Int32 → Mi → Ml → Prop}   (h : Sg 142 0 [some (.ref 47)] [] mi ml (qv fun mi2 ml3 => Sg 152 0 [some (.ref 47), none] [] mi2 ml3 (qi fun y4 mi5 ml6 => F y4 mi5 ml6))) : Sg 153 0 [some (.ref 47)] [] mi ml (qi F) := by
  refine sg_ld f153_0 (v := .ref 47) rfl rfl ?_
  refine sg_cV f153_1 (vs := []) (r := 47) (rest := []) (en := [some (.ref 47)]) pq142 ⟨rfl, rfl⟩ rfl rfl rfl rfl rfl rfl h ?_
  intro _ mi2 ml3 h
  have h := gm_qv h
  refine sg_ld f153_4 (v := .ref 47) rfl rfl ?_
  refine sg_cV f153_5 (vs := []) (r := 47) (rest := []) (en := [some (.ref 47), none]) pq152 ⟨rfl, rfl⟩ rfl rfl rfl rfl rfl rfl h ?_
  rintro _ mi5 ml6 ⟨y4, rfl, h⟩
  exact sg_iret f153_8 pq153 rfl rfl ⟨_, rfl, h⟩

/-! X7_seat (II)I -/
theorem fe154 (pc : Nat) : gm_fetch 154 pc = gm_find pc cd_154 := rfl
theorem f154_0 : gm_fetch 154 0 = some (1, .aload_n 0, 0, 0, 0, 0) := (fe154 0).trans rfl
theorem f154_1 : gm_fetch 154 1 = some (2, .iload_n 1, 0, 0, 0, 0) := (fe154 1).trans rfl
theorem f154_2 : gm_fetch 154 2 = some (5, .invokevirtual 125, 173, 129, 0, 0) := (fe154 2).trans rfl
theorem f154_5 : gm_fetch 154 5 = some (8, .ifCond .eq 33, 0, 38, 0, 0) := (fe154 5).trans rfl
theorem f154_8 : gm_fetch 154 8 = some (9, .iload_n 2, 0, 0, 0, 0) := (fe154 8).trans rfl
theorem f154_9 : gm_fetch 154 9 = some (10, .i2l, 0, 0, 0, 0) := (fe154 9).trans rfl
theorem f154_10 : gm_fetch 154 10 = some (11, .lconst 0, 0, 0, 0, 0) := (fe154 10).trans rfl
theorem f154_11 : gm_fetch 154 11 = some (12, .iconst 1, 0, 0, 0, 0) := (fe154 11).trans rfl
theorem f154_12 : gm_fetch 154 12 = some (13, .aload_n 0, 0, 0, 0, 0) := (fe154 12).trans rfl
theorem f154_13 : gm_fetch 154 13 = some (16, .getfield 81, 90, 7, 6, 0) := (fe154 13).trans rfl
theorem f154_16 : gm_fetch 154 16 = some (17, .ishl, 0, 0, 0, 0) := (fe154 16).trans rfl
theorem f154_17 : gm_fetch 154 17 = some (18, .iconst 1, 0, 0, 0, 0) := (fe154 17).trans rfl
theorem f154_18 : gm_fetch 154 18 = some (19, .isub, 0, 0, 0, 0) := (fe154 18).trans rfl
theorem f154_19 : gm_fetch 154 19 = some (20, .i2l, 0, 0, 0, 0) := (fe154 19).trans rfl
theorem f154_20 : gm_fetch 154 20 = some (23, .invokestatic 93, 158, 114, 0, 0) := (fe154 20).trans rfl
theorem f154_23 : gm_fetch 154 23 = some (26, .ifCond .eq 15, 0, 38, 0, 0) := (fe154 23).trans rfl
theorem f154_26 : gm_fetch 154 26 = some (27, .iload_n 2, 0, 0, 0, 0) := (fe154 26).trans rfl
theorem f154_27 : gm_fetch 154 27 = some (28, .i2l, 0, 0, 0, 0) := (fe154 27).trans rfl
theorem f154_28 : gm_fetch 154 28 = some (31, .invokestatic 128, 175, 119, 0, 0) := (fe154 28).trans rfl
theorem f154_31 : gm_fetch 154 31 = some (32, .aload_n 0, 0, 0, 0, 0) := (fe154 31).trans rfl
theorem f154_32 : gm_fetch 154 32 = some (35, .getfield 84, 91, 7, 7, 0) := (fe154 32).trans rfl
theorem f154_35 : gm_fetch 154 35 = some (38, .if_icmp .eq 6, 0, 41, 0, 0) := (fe154 35).trans rfl
theorem f154_38 : gm_fetch 154 38 = some (40, .bipush (-2), 0, 0, 0, 0) := (fe154 38).trans rfl
theorem f154_40 : gm_fetch 154 40 = some (41, .ireturn, 0, 0, 0, 0) := (fe154 40).trans rfl
theorem f154_41 : gm_fetch 154 41 = some (42, .aload_n 0, 0, 0, 0, 0) := (fe154 41).trans rfl
theorem f154_42 : gm_fetch 154 42 = some (45, .getfield 137, 95, 7, 11, 0) := (fe154 42).trans rfl
theorem f154_45 : gm_fetch 154 45 = some (48, .ifCond .ne 6, 0, 51, 0, 0) := (fe154 45).trans rfl
theorem f154_48 : gm_fetch 154 48 = some (50, .bipush (-3), 0, 0, 0, 0) := (fe154 48).trans rfl
theorem f154_50 : gm_fetch 154 50 = some (51, .ireturn, 0, 0, 0, 0) := (fe154 50).trans rfl
theorem f154_51 : gm_fetch 154 51 = some (52, .aload_n 0, 0, 0, 0, 0) := (fe154 51).trans rfl
theorem f154_52 : gm_fetch 154 52 = some (53, .iload_n 1, 0, 0, 0, 0) := (fe154 52).trans rfl
theorem f154_53 : gm_fetch 154 53 = some (54, .iload_n 2, 0, 0, 0, 0) := (fe154 53).trans rfl
theorem f154_54 : gm_fetch 154 54 = some (57, .invokevirtual 188, 190, 148, 0, 0) := (fe154 54).trans rfl
theorem f154_57 : gm_fetch 154 57 = some (58, .istore_n 3, 0, 0, 0, 0) := (fe154 57).trans rfl
theorem f154_58 : gm_fetch 154 58 = some (59, .aload_n 0, 0, 0, 0, 0) := (fe154 58).trans rfl
theorem f154_59 : gm_fetch 154 59 = some (62, .getfield 25, 96, 7, 12, 0) := (fe154 59).trans rfl
theorem f154_62 : gm_fetch 154 62 = some (63, .iload_n 1, 0, 0, 0, 0) := (fe154 62).trans rfl
theorem f154_63 : gm_fetch 154 63 = some (64, .iload_n 2, 0, 0, 0, 0) := (fe154 63).trans rfl
theorem f154_64 : gm_fetch 154 64 = some (65, .iastore, 0, 0, 0, 0) := (fe154 64).trans rfl
theorem f154_65 : gm_fetch 154 65 = some (66, .iload_n 3, 0, 0, 0, 0) := (fe154 65).trans rfl
theorem f154_66 : gm_fetch 154 66 = some (67, .ireturn, 0, 0, 0, 0) := (fe154 66).trans rfl
set_option maxRecDepth 10000 in
theorem rg154_0 {mi : Mi} {ml : Ml} {F : Int32 → Mi → Ml → Prop} {x1 : Int32} {x2 : Int32}  (h : Sg 129 0 [some (.ref 47), some (.int x1)] [] mi ml (qi fun y1 mi2 ml3 => ((y1 = 0) → F (-2) mi2 ml3) ∧ (¬ (y1 = 0) → Sg 114 0 [some (.long (Int32.toInt64 x2)), none, some (.long 0), none, some (.long (Int32.toInt64 ((1 <<< ((mi2 47 6) &&& 31)) - 1))), none] [] mi2 ml3 (qi fun y4 mi5 ml6 => ((y4 = 0) → F (-2) mi5 ml6) ∧ (¬ (y4 = 0) → Sg 119 0 [some (.long (Int32.toInt64 x2)), none, none, none] [] mi5 ml6 (qi fun y7 mi8 ml9 => ((y7 = (mi8 47 7)) → ((¬ (mi8 47 11) = 0) → Sg 148 0 [some (.ref 47), some (.int x1), some (.int x2), none, none] [] mi8 ml9 (qi fun y10 mi11 ml12 => (vp_in x1 7) ∧ (F y10 (va_up mi11 53 (va_up (mi11 53) (Int32.toNatClampNeg x1) x2)) ml12))) ∧ (¬ (¬ (mi8 47 11) = 0) → F (-3) mi8 ml9)) ∧ (¬ (y7 = (mi8 47 7)) → F (-2) mi8 ml9))))))) : Sg 154 0 [some (.ref 47), some (.int x1), some (.int x2), none] [] mi ml (qi F) := by
  refine sg_ld f154_0 (v := .ref 47) rfl rfl ?_
  refine sg_ld f154_1 (v := .int x1) rfl rfl ?_
  refine sg_cV f154_2 (vs := [.int x1]) (r := 47) (rest := []) (en := [some (.ref 47), some (.int x1)]) pq129 ⟨rfl, rfl⟩ rfl rfl rfl rfl rfl rfl h ?_
  rintro _ mi2 ml3 ⟨y1, rfl, h⟩
  refine sg_if f154_5 (fun c => ?_) (fun c => ?_)
  · have h := h.1 c
    refine sg_psh f154_38 (v := .int (-2)) (by decide) ?_
    exact sg_iret f154_40 pq154 rfl rfl ⟨_, rfl, h⟩
  · have h := h.2 c
    refine sg_ld f154_8 (v := .int x2) rfl rfl ?_
    refine sg_i2l f154_9 ?_
    refine sg_psh f154_10 (v := .long 0) (by decide) ?_
    refine sg_psh f154_11 (v := .int 1) (by decide) ?_
    refine sg_ld f154_12 (v := .ref 47) rfl rfl ?_
    refine sg_geti f154_13 rfl rfl (x := (mi2 47 6)) rfl ?_
    refine sg_bin f154_16 rfl ?_
    refine sg_psh f154_17 (v := .int 1) (by decide) ?_
    refine sg_bin f154_18 rfl ?_
    refine sg_i2l f154_19 ?_
    refine sg_cS f154_20 (vs := [.long (Int32.toInt64 x2), .long 0, .long (Int32.toInt64 ((1 <<< ((mi2 47 6) &&& 31)) - 1))]) (rest := []) (en := [some (.long (Int32.toInt64 x2)), none, some (.long 0), none, some (.long (Int32.toInt64 ((1 <<< ((mi2 47 6) &&& 31)) - 1))), none]) (by decide) pq114 ⟨rfl, rfl⟩ rfl rfl rfl rfl rfl h ?_
    rintro _ mi5 ml6 ⟨y4, rfl, h⟩
    refine sg_if f154_23 (fun c => ?_) (fun c => ?_)
    · have h := h.1 c
      refine sg_psh f154_38 (v := .int (-2)) (by decide) ?_
      exact sg_iret f154_40 pq154 rfl rfl ⟨_, rfl, h⟩
    · have h := h.2 c
      refine sg_ld f154_26 (v := .int x2) rfl rfl ?_
      refine sg_i2l f154_27 ?_
      refine sg_cS f154_28 (vs := [.long (Int32.toInt64 x2)]) (rest := []) (en := [some (.long (Int32.toInt64 x2)), none, none, none]) (by decide) pq119 ⟨rfl, rfl⟩ rfl rfl rfl rfl rfl h ?_
      rintro _ mi8 ml9 ⟨y7, rfl, h⟩
      refine sg_ld f154_31 (v := .ref 47) rfl rfl ?_
      refine sg_geti f154_32 rfl rfl (x := (mi8 47 7)) rfl ?_
      refine sg_icmp f154_35 (fun c => ?_) (fun c => ?_)
      · have h := h.1 c
        refine sg_ld f154_41 (v := .ref 47) rfl rfl ?_
        refine sg_geti f154_42 rfl rfl (x := (mi8 47 11)) rfl ?_
        refine sg_if f154_45 (fun c => ?_) (fun c => ?_)
        · have h := h.1 c
          refine sg_ld f154_51 (v := .ref 47) rfl rfl ?_
          refine sg_ld f154_52 (v := .int x1) rfl rfl ?_
          refine sg_ld f154_53 (v := .int x2) rfl rfl ?_
          refine sg_cV f154_54 (vs := [.int x1, .int x2]) (r := 47) (rest := []) (en := [some (.ref 47), some (.int x1), some (.int x2), none, none]) pq148 ⟨rfl, rfl⟩ rfl rfl rfl rfl rfl rfl h ?_
          rintro _ mi11 ml12 ⟨y10, rfl, h⟩
          refine sg_st1 f154_57 (ls' := [some (.ref 47), some (.int x1), some (.int x2), some (.int y10)]) rfl rfl rfl rfl ?_
          refine sg_ld f154_58 (v := .ref 47) rfl rfl ?_
          refine sg_getr f154_59 rfl rfl (w := 53) rfl ?_
          refine sg_ld f154_62 (v := .int x1) rfl rfl ?_
          refine sg_ld f154_63 (v := .int x2) rfl rfl ?_
          obtain ⟨e13, h⟩ := h
          refine sg_iast f154_64 rfl e13 ?_
          refine sg_ld f154_65 (v := .int y10) rfl rfl ?_
          exact sg_iret f154_66 pq154 rfl rfl ⟨_, rfl, h⟩
        · have h := h.2 c
          refine sg_psh f154_48 (v := .int (-3)) (by decide) ?_
          exact sg_iret f154_50 pq154 rfl rfl ⟨_, rfl, h⟩
      · have h := h.2 c
        refine sg_psh f154_38 (v := .int (-2)) (by decide) ?_
        exact sg_iret f154_40 pq154 rfl rfl ⟨_, rfl, h⟩

/-! X7_columnBy (II)I -/
theorem fe155 (pc : Nat) : gm_fetch 155 pc = gm_find pc cd_155 := rfl
theorem f155_0 : gm_fetch 155 0 = some (1, .aload_n 0, 0, 0, 0, 0) := (fe155 0).trans rfl
theorem f155_1 : gm_fetch 155 1 = some (4, .getfield 137, 95, 7, 11, 0) := (fe155 1).trans rfl
theorem f155_4 : gm_fetch 155 4 = some (7, .ifCond .eq 16, 0, 20, 0, 0) := (fe155 4).trans rfl
theorem f155_7 : gm_fetch 155 7 = some (8, .aload_n 0, 0, 0, 0, 0) := (fe155 7).trans rfl
theorem f155_8 : gm_fetch 155 8 = some (11, .getfield 25, 96, 7, 12, 0) := (fe155 8).trans rfl
theorem f155_11 : gm_fetch 155 11 = some (12, .iload_n 1, 0, 0, 0, 0) := (fe155 11).trans rfl
theorem f155_12 : gm_fetch 155 12 = some (13, .iaload, 0, 0, 0, 0) := (fe155 12).trans rfl
theorem f155_13 : gm_fetch 155 13 = some (14, .iload_n 2, 0, 0, 0, 0) := (fe155 13).trans rfl
theorem f155_14 : gm_fetch 155 14 = some (17, .invokestatic 161, 183, 140, 0, 0) := (fe155 14).trans rfl
theorem f155_17 : gm_fetch 155 17 = some (20, .goto 4, 0, 21, 0, 0) := (fe155 17).trans rfl
theorem f155_20 : gm_fetch 155 20 = some (21, .iconst (-1), 0, 0, 0, 0) := (fe155 20).trans rfl
theorem f155_21 : gm_fetch 155 21 = some (22, .ireturn, 0, 0, 0, 0) := (fe155 21).trans rfl
set_option maxRecDepth 10000 in
theorem rg155_0 {mi : Mi} {ml : Ml} {F : Int32 → Mi → Ml → Prop} {x1 : Int32} {x2 : Int32}  (h : (((mi 47 11) = 0) → F (-1) mi ml) ∧ (¬ ((mi 47 11) = 0) → (vp_in x1 7) ∧ (Sg 140 0 [some (.int (mi 53 (Int32.toNatClampNeg x1))), some (.int x2), none, none] [] mi ml (qi fun y2 mi3 ml4 => F y2 mi3 ml4)))) : Sg 155 0 [some (.ref 47), some (.int x1), some (.int x2)] [] mi ml (qi F) := by
  refine sg_ld f155_0 (v := .ref 47) rfl rfl ?_
  refine sg_geti f155_1 rfl rfl (x := (mi 47 11)) rfl ?_
  refine sg_if f155_4 (fun c => ?_) (fun c => ?_)
  · have h := h.1 c
    refine sg_psh f155_20 (v := .int (-1)) (by decide) ?_
    exact sg_iret f155_21 pq155 rfl rfl ⟨_, rfl, h⟩
  · have h := h.2 c
    refine sg_ld f155_7 (v := .ref 47) rfl rfl ?_
    refine sg_getr f155_8 rfl rfl (w := 53) rfl ?_
    refine sg_ld f155_11 (v := .int x1) rfl rfl ?_
    obtain ⟨e1, h⟩ := h
    refine sg_iald f155_12 rfl e1 (x := (mi 53 (Int32.toNatClampNeg x1))) rfl ?_
    refine sg_ld f155_13 (v := .int x2) rfl rfl ?_
    refine sg_cS f155_14 (vs := [.int (mi 53 (Int32.toNatClampNeg x1)), .int x2]) (rest := []) (en := [some (.int (mi 53 (Int32.toNatClampNeg x1))), some (.int x2), none, none]) (by decide) pq140 ⟨rfl, rfl⟩ rfl rfl rfl rfl rfl h ?_
    rintro _ mi3 ml4 ⟨y2, rfl, h⟩
    refine sg_goto f155_17 ?_
    exact sg_iret f155_21 pq155 rfl rfl ⟨_, rfl, h⟩

/-! X7_column (II)I -/
theorem fe156 (pc : Nat) : gm_fetch 156 pc = gm_find pc cd_156 := rfl
theorem f156_0 : gm_fetch 156 0 = some (1, .aload_n 0, 0, 0, 0, 0) := (fe156 0).trans rfl
theorem f156_1 : gm_fetch 156 1 = some (2, .iload_n 1, 0, 0, 0, 0) := (fe156 1).trans rfl
theorem f156_2 : gm_fetch 156 2 = some (5, .invokevirtual 125, 173, 129, 0, 0) := (fe156 2).trans rfl
theorem f156_5 : gm_fetch 156 5 = some (8, .ifCond .eq 28, 0, 33, 0, 0) := (fe156 5).trans rfl
theorem f156_8 : gm_fetch 156 8 = some (9, .iload_n 2, 0, 0, 0, 0) := (fe156 8).trans rfl
theorem f156_9 : gm_fetch 156 9 = some (10, .i2l, 0, 0, 0, 0) := (fe156 9).trans rfl
theorem f156_10 : gm_fetch 156 10 = some (11, .lconst 0, 0, 0, 0, 0) := (fe156 10).trans rfl
theorem f156_11 : gm_fetch 156 11 = some (12, .aload_n 0, 0, 0, 0, 0) := (fe156 11).trans rfl
theorem f156_12 : gm_fetch 156 12 = some (15, .getfield 84, 91, 7, 7, 0) := (fe156 12).trans rfl
theorem f156_15 : gm_fetch 156 15 = some (16, .iconst 1, 0, 0, 0, 0) := (fe156 15).trans rfl
theorem f156_16 : gm_fetch 156 16 = some (17, .isub, 0, 0, 0, 0) := (fe156 16).trans rfl
theorem f156_17 : gm_fetch 156 17 = some (18, .i2l, 0, 0, 0, 0) := (fe156 17).trans rfl
theorem f156_18 : gm_fetch 156 18 = some (21, .invokestatic 93, 158, 114, 0, 0) := (fe156 18).trans rfl
theorem f156_21 : gm_fetch 156 21 = some (24, .ifCond .eq 12, 0, 33, 0, 0) := (fe156 21).trans rfl
theorem f156_24 : gm_fetch 156 24 = some (25, .aload_n 0, 0, 0, 0, 0) := (fe156 24).trans rfl
theorem f156_25 : gm_fetch 156 25 = some (26, .iload_n 1, 0, 0, 0, 0) := (fe156 25).trans rfl
theorem f156_26 : gm_fetch 156 26 = some (27, .iload_n 2, 0, 0, 0, 0) := (fe156 26).trans rfl
theorem f156_27 : gm_fetch 156 27 = some (30, .invokevirtual 204, 197, 155, 0, 0) := (fe156 27).trans rfl
theorem f156_30 : gm_fetch 156 30 = some (33, .goto 5, 0, 35, 0, 0) := (fe156 30).trans rfl
theorem f156_33 : gm_fetch 156 33 = some (35, .bipush (-2), 0, 0, 0, 0) := (fe156 33).trans rfl
theorem f156_35 : gm_fetch 156 35 = some (36, .ireturn, 0, 0, 0, 0) := (fe156 35).trans rfl
set_option maxRecDepth 10000 in
theorem rg156_0 {mi : Mi} {ml : Ml} {F : Int32 → Mi → Ml → Prop} {x1 : Int32} {x2 : Int32}  (h : Sg 129 0 [some (.ref 47), some (.int x1)] [] mi ml (qi fun y1 mi2 ml3 => ((y1 = 0) → F (-2) mi2 ml3) ∧ (¬ (y1 = 0) → Sg 114 0 [some (.long (Int32.toInt64 x2)), none, some (.long 0), none, some (.long (Int32.toInt64 ((mi2 47 7) - 1))), none] [] mi2 ml3 (qi fun y4 mi5 ml6 => ((y4 = 0) → F (-2) mi5 ml6) ∧ (¬ (y4 = 0) → Sg 155 0 [some (.ref 47), some (.int x1), some (.int x2)] [] mi5 ml6 (qi fun y7 mi8 ml9 => F y7 mi8 ml9)))))) : Sg 156 0 [some (.ref 47), some (.int x1), some (.int x2)] [] mi ml (qi F) := by
  refine sg_ld f156_0 (v := .ref 47) rfl rfl ?_
  refine sg_ld f156_1 (v := .int x1) rfl rfl ?_
  refine sg_cV f156_2 (vs := [.int x1]) (r := 47) (rest := []) (en := [some (.ref 47), some (.int x1)]) pq129 ⟨rfl, rfl⟩ rfl rfl rfl rfl rfl rfl h ?_
  rintro _ mi2 ml3 ⟨y1, rfl, h⟩
  refine sg_if f156_5 (fun c => ?_) (fun c => ?_)
  · have h := h.1 c
    refine sg_psh f156_33 (v := .int (-2)) (by decide) ?_
    exact sg_iret f156_35 pq156 rfl rfl ⟨_, rfl, h⟩
  · have h := h.2 c
    refine sg_ld f156_8 (v := .int x2) rfl rfl ?_
    refine sg_i2l f156_9 ?_
    refine sg_psh f156_10 (v := .long 0) (by decide) ?_
    refine sg_ld f156_11 (v := .ref 47) rfl rfl ?_
    refine sg_geti f156_12 rfl rfl (x := (mi2 47 7)) rfl ?_
    refine sg_psh f156_15 (v := .int 1) (by decide) ?_
    refine sg_bin f156_16 rfl ?_
    refine sg_i2l f156_17 ?_
    refine sg_cS f156_18 (vs := [.long (Int32.toInt64 x2), .long 0, .long (Int32.toInt64 ((mi2 47 7) - 1))]) (rest := []) (en := [some (.long (Int32.toInt64 x2)), none, some (.long 0), none, some (.long (Int32.toInt64 ((mi2 47 7) - 1))), none]) (by decide) pq114 ⟨rfl, rfl⟩ rfl rfl rfl rfl rfl h ?_
    rintro _ mi5 ml6 ⟨y4, rfl, h⟩
    refine sg_if f156_21 (fun c => ?_) (fun c => ?_)
    · have h := h.1 c
      refine sg_psh f156_33 (v := .int (-2)) (by decide) ?_
      exact sg_iret f156_35 pq156 rfl rfl ⟨_, rfl, h⟩
    · have h := h.2 c
      refine sg_ld f156_24 (v := .ref 47) rfl rfl ?_
      refine sg_ld f156_25 (v := .int x1) rfl rfl ?_
      refine sg_ld f156_26 (v := .int x2) rfl rfl ?_
      refine sg_cV f156_27 (vs := [.int x1, .int x2]) (r := 47) (rest := []) (en := [some (.ref 47), some (.int x1), some (.int x2)]) pq155 ⟨rfl, rfl⟩ rfl rfl rfl rfl rfl rfl h ?_
      rintro _ mi8 ml9 ⟨y7, rfl, h⟩
      refine sg_goto f156_30 ?_
      exact sg_iret f156_35 pq156 rfl rfl ⟨_, rfl, h⟩

/-! X7_seatsBy (I)I -/
theorem fe157 (pc : Nat) : gm_fetch 157 pc = gm_find pc cd_157 := rfl
theorem f157_0 : gm_fetch 157 0 = some (1, .iconst 0, 0, 0, 0, 0) := (fe157 0).trans rfl
theorem f157_1 : gm_fetch 157 1 = some (2, .istore_n 2, 0, 0, 0, 0) := (fe157 1).trans rfl
theorem f157_2 : gm_fetch 157 2 = some (3, .iconst 0, 0, 0, 0, 0) := (fe157 2).trans rfl
theorem f157_3 : gm_fetch 157 3 = some (4, .istore_n 3, 0, 0, 0, 0) := (fe157 3).trans rfl
theorem f157_4 : gm_fetch 157 4 = some (5, .iload_n 3, 0, 0, 0, 0) := (fe157 4).trans rfl
theorem f157_5 : gm_fetch 157 5 = some (6, .aload_n 0, 0, 0, 0, 0) := (fe157 5).trans rfl
theorem f157_6 : gm_fetch 157 6 = some (9, .getfield 158, 102, 7, 18, 0) := (fe157 6).trans rfl
theorem f157_9 : gm_fetch 157 9 = some (12, .if_icmp .ge 26, 0, 35, 0, 0) := (fe157 9).trans rfl
theorem f157_12 : gm_fetch 157 12 = some (13, .iload_n 2, 0, 0, 0, 0) := (fe157 12).trans rfl
theorem f157_13 : gm_fetch 157 13 = some (14, .aload_n 0, 0, 0, 0, 0) := (fe157 13).trans rfl
theorem f157_14 : gm_fetch 157 14 = some (15, .iload_n 1, 0, 0, 0, 0) := (fe157 14).trans rfl
theorem f157_15 : gm_fetch 157 15 = some (16, .iload_n 3, 0, 0, 0, 0) := (fe157 15).trans rfl
theorem f157_16 : gm_fetch 157 16 = some (19, .invokevirtual 171, 187, 143, 0, 0) := (fe157 16).trans rfl
theorem f157_19 : gm_fetch 157 19 = some (22, .ifCond .eq 7, 0, 26, 0, 0) := (fe157 19).trans rfl
theorem f157_22 : gm_fetch 157 22 = some (23, .iconst 1, 0, 0, 0, 0) := (fe157 22).trans rfl
theorem f157_23 : gm_fetch 157 23 = some (26, .goto 4, 0, 27, 0, 0) := (fe157 23).trans rfl
theorem f157_26 : gm_fetch 157 26 = some (27, .iconst 0, 0, 0, 0, 0) := (fe157 26).trans rfl
theorem f157_27 : gm_fetch 157 27 = some (28, .iadd, 0, 0, 0, 0) := (fe157 27).trans rfl
theorem f157_28 : gm_fetch 157 28 = some (29, .istore_n 2, 0, 0, 0, 0) := (fe157 28).trans rfl
theorem f157_29 : gm_fetch 157 29 = some (32, .iinc 3 1, 0, 0, 0, 0) := (fe157 29).trans rfl
theorem f157_32 : gm_fetch 157 32 = some (35, .goto (-28), 0, 4, 0, 0) := (fe157 32).trans rfl
theorem f157_35 : gm_fetch 157 35 = some (36, .iload_n 2, 0, 0, 0, 0) := (fe157 35).trans rfl
theorem f157_36 : gm_fetch 157 36 = some (37, .ireturn, 0, 0, 0, 0) := (fe157 36).trans rfl
set_option maxRecDepth 10000 in
theorem rg157_0 {mi : Mi} {ml : Ml} {F : Int32 → Mi → Ml → Prop} {x1 : Int32}  (h : Sg 157 4 [some (.ref 47), some (.int x1), some (.int 0), some (.int 0)] [] mi ml (qi F)) : Sg 157 0 [some (.ref 47), some (.int x1), none, none] [] mi ml (qi F) := by
  refine sg_psh f157_0 (v := .int 0) (by decide) ?_
  refine sg_st1 f157_1 (ls' := [some (.ref 47), some (.int x1), some (.int 0), none]) rfl rfl rfl rfl ?_
  refine sg_psh f157_2 (v := .int 0) (by decide) ?_
  refine sg_st1 f157_3 (ls' := [some (.ref 47), some (.int x1), some (.int 0), some (.int 0)]) rfl rfl rfl rfl ?_
  exact h

set_option maxRecDepth 10000 in
theorem rg157_4 {mi : Mi} {ml : Ml} {F : Int32 → Mi → Ml → Prop} {x1 : Int32} {x2 : Int32} {x3 : Int32}  (h : (((mi 47 18) ≤ x3) → F x2 mi ml) ∧ (¬ ((mi 47 18) ≤ x3) → Sg 143 0 [some (.ref 47), some (.int x1), some (.int x3)] [] mi ml (qi fun y1 mi2 ml3 => ((y1 = 0) → Sg 157 4 [some (.ref 47), some (.int x1), some (.int (x2 + 0)), some (.int (x3 + 1))] [] mi2 ml3 (qi F)) ∧ (¬ (y1 = 0) → Sg 157 4 [some (.ref 47), some (.int x1), some (.int (x2 + 1)), some (.int (x3 + 1))] [] mi2 ml3 (qi F))))) : Sg 157 4 [some (.ref 47), some (.int x1), some (.int x2), some (.int x3)] [] mi ml (qi F) := by
  refine sg_ld f157_4 (v := .int x3) rfl rfl ?_
  refine sg_ld f157_5 (v := .ref 47) rfl rfl ?_
  refine sg_geti f157_6 rfl rfl (x := (mi 47 18)) rfl ?_
  refine sg_icmp f157_9 (fun c => ?_) (fun c => ?_)
  · have h := h.1 c
    refine sg_ld f157_35 (v := .int x2) rfl rfl ?_
    exact sg_iret f157_36 pq157 rfl rfl ⟨_, rfl, h⟩
  · have h := h.2 c
    refine sg_ld f157_12 (v := .int x2) rfl rfl ?_
    refine sg_ld f157_13 (v := .ref 47) rfl rfl ?_
    refine sg_ld f157_14 (v := .int x1) rfl rfl ?_
    refine sg_ld f157_15 (v := .int x3) rfl rfl ?_
    refine sg_cV f157_16 (vs := [.int x1, .int x3]) (r := 47) (rest := [.int x2]) (en := [some (.ref 47), some (.int x1), some (.int x3)]) pq143 ⟨rfl, rfl⟩ rfl rfl rfl rfl rfl rfl h ?_
    rintro _ mi2 ml3 ⟨y1, rfl, h⟩
    refine sg_if f157_19 (fun c => ?_) (fun c => ?_)
    · have h := h.1 c
      refine sg_psh f157_26 (v := .int 0) (by decide) ?_
      refine sg_bin f157_27 rfl ?_
      refine sg_st1 f157_28 (ls' := [some (.ref 47), some (.int x1), some (.int (x2 + 0)), some (.int x3)]) rfl rfl rfl rfl ?_
      refine sg_inc f157_29 (d := 1) (ls' := [some (.ref 47), some (.int x1), some (.int (x2 + 0)), some (.int (x3 + 1))]) rfl (by decide) rfl ?_
      refine sg_goto f157_32 ?_
      exact h
    · have h := h.2 c
      refine sg_psh f157_22 (v := .int 1) (by decide) ?_
      refine sg_goto f157_23 ?_
      refine sg_bin f157_27 rfl ?_
      refine sg_st1 f157_28 (ls' := [some (.ref 47), some (.int x1), some (.int (x2 + 1)), some (.int x3)]) rfl rfl rfl rfl ?_
      refine sg_inc f157_29 (d := 1) (ls' := [some (.ref 47), some (.int x1), some (.int (x2 + 1)), some (.int (x3 + 1))]) rfl (by decide) rfl ?_
      refine sg_goto f157_32 ?_
      exact h

/-! X7_seats (I)I -/
theorem fe158 (pc : Nat) : gm_fetch 158 pc = gm_find pc cd_158 := rfl
theorem f158_0 : gm_fetch 158 0 = some (1, .aload_n 0, 0, 0, 0, 0) := (fe158 0).trans rfl
theorem f158_1 : gm_fetch 158 1 = some (4, .invokevirtual 177, 181, 142, 0, 0) := (fe158 1).trans rfl
theorem f158_4 : gm_fetch 158 4 = some (5, .aload_n 0, 0, 0, 0, 0) := (fe158 4).trans rfl
theorem f158_5 : gm_fetch 158 5 = some (6, .iload_n 1, 0, 0, 0, 0) := (fe158 5).trans rfl
theorem f158_6 : gm_fetch 158 6 = some (9, .invokevirtual 125, 173, 129, 0, 0) := (fe158 6).trans rfl
theorem f158_9 : gm_fetch 158 9 = some (12, .ifCond .eq 11, 0, 20, 0, 0) := (fe158 9).trans rfl
theorem f158_12 : gm_fetch 158 12 = some (13, .aload_n 0, 0, 0, 0, 0) := (fe158 12).trans rfl
theorem f158_13 : gm_fetch 158 13 = some (14, .iload_n 1, 0, 0, 0, 0) := (fe158 13).trans rfl
theorem f158_14 : gm_fetch 158 14 = some (17, .invokevirtual 207, 199, 157, 0, 0) := (fe158 14).trans rfl
theorem f158_17 : gm_fetch 158 17 = some (20, .goto 5, 0, 22, 0, 0) := (fe158 17).trans rfl
theorem f158_20 : gm_fetch 158 20 = some (22, .bipush (-2), 0, 0, 0, 0) := (fe158 20).trans rfl
theorem f158_22 : gm_fetch 158 22 = some (23, .ireturn, 0, 0, 0, 0) := (fe158 22).trans rfl
set_option maxRecDepth 10000 in
theorem rg158_0 {mi : Mi} {ml : Ml} {F : Int32 → Mi → Ml → Prop} {x1 : Int32}  (h : Sg 142 0 [some (.ref 47)] [] mi ml (qv fun mi2 ml3 => Sg 129 0 [some (.ref 47), some (.int x1)] [] mi2 ml3 (qi fun y4 mi5 ml6 => ((y4 = 0) → F (-2) mi5 ml6) ∧ (¬ (y4 = 0) → Sg 157 0 [some (.ref 47), some (.int x1), none, none] [] mi5 ml6 (qi fun y7 mi8 ml9 => F y7 mi8 ml9))))) : Sg 158 0 [some (.ref 47), some (.int x1)] [] mi ml (qi F) := by
  refine sg_ld f158_0 (v := .ref 47) rfl rfl ?_
  refine sg_cV f158_1 (vs := []) (r := 47) (rest := []) (en := [some (.ref 47)]) pq142 ⟨rfl, rfl⟩ rfl rfl rfl rfl rfl rfl h ?_
  intro _ mi2 ml3 h
  have h := gm_qv h
  refine sg_ld f158_4 (v := .ref 47) rfl rfl ?_
  refine sg_ld f158_5 (v := .int x1) rfl rfl ?_
  refine sg_cV f158_6 (vs := [.int x1]) (r := 47) (rest := []) (en := [some (.ref 47), some (.int x1)]) pq129 ⟨rfl, rfl⟩ rfl rfl rfl rfl rfl rfl h ?_
  rintro _ mi5 ml6 ⟨y4, rfl, h⟩
  refine sg_if f158_9 (fun c => ?_) (fun c => ?_)
  · have h := h.1 c
    refine sg_psh f158_20 (v := .int (-2)) (by decide) ?_
    exact sg_iret f158_22 pq158 rfl rfl ⟨_, rfl, h⟩
  · have h := h.2 c
    refine sg_ld f158_12 (v := .ref 47) rfl rfl ?_
    refine sg_ld f158_13 (v := .int x1) rfl rfl ?_
    refine sg_cV f158_14 (vs := [.int x1]) (r := 47) (rest := []) (en := [some (.ref 47), some (.int x1), none, none]) pq157 ⟨rfl, rfl⟩ rfl rfl rfl rfl rfl rfl h ?_
    rintro _ mi8 ml9 ⟨y7, rfl, h⟩
    refine sg_goto f158_17 ?_
    exact sg_iret f158_22 pq158 rfl rfl ⟨_, rfl, h⟩

/-! X7_brokenNow ()I -/
theorem fe159 (pc : Nat) : gm_fetch 159 pc = gm_find pc cd_159 := rfl
set_option maxRecDepth 10000 in
theorem f159_0 : gm_fetch 159 0 = some (1, .aload_n 0, 0, 0, 0, 0) := (fe159 0).trans rfl
set_option maxRecDepth 10000 in
theorem f159_1 : gm_fetch 159 1 = some (4, .getfield 137, 95, 7, 11, 0) := (fe159 1).trans rfl
set_option maxRecDepth 10000 in
theorem f159_4 : gm_fetch 159 4 = some (7, .ifCond .ne 5, 0, 9, 0, 0) := (fe159 4).trans rfl
set_option maxRecDepth 10000 in
theorem f159_7 : gm_fetch 159 7 = some (8, .iconst (-1), 0, 0, 0, 0) := (fe159 7).trans rfl
set_option maxRecDepth 10000 in
theorem f159_8 : gm_fetch 159 8 = some (9, .ireturn, 0, 0, 0, 0) := (fe159 8).trans rfl
set_option maxRecDepth 10000 in
theorem f159_9 : gm_fetch 159 9 = some (10, .iconst 0, 0, 0, 0, 0) := (fe159 9).trans rfl
set_option maxRecDepth 10000 in
theorem f159_10 : gm_fetch 159 10 = some (11, .istore_n 1, 0, 0, 0, 0) := (fe159 10).trans rfl
set_option maxRecDepth 10000 in
theorem f159_11 : gm_fetch 159 11 = some (12, .iconst 0, 0, 0, 0, 0) := (fe159 11).trans rfl
set_option maxRecDepth 10000 in
theorem f159_12 : gm_fetch 159 12 = some (13, .istore_n 2, 0, 0, 0, 0) := (fe159 12).trans rfl
set_option maxRecDepth 10000 in
theorem f159_13 : gm_fetch 159 13 = some (14, .iload_n 2, 0, 0, 0, 0) := (fe159 13).trans rfl
set_option maxRecDepth 10000 in
theorem f159_14 : gm_fetch 159 14 = some (15, .aload_n 0, 0, 0, 0, 0) := (fe159 14).trans rfl
set_option maxRecDepth 10000 in
theorem f159_15 : gm_fetch 159 15 = some (18, .getfield 77, 89, 7, 5, 0) := (fe159 15).trans rfl
set_option maxRecDepth 10000 in
theorem f159_18 : gm_fetch 159 18 = some (21, .if_icmp .ge 133, 0, 151, 0, 0) := (fe159 18).trans rfl
set_option maxRecDepth 10000 in
theorem f159_21 : gm_fetch 159 21 = some (22, .iconst 0, 0, 0, 0, 0) := (fe159 21).trans rfl
set_option maxRecDepth 10000 in
theorem f159_22 : gm_fetch 159 22 = some (23, .istore_n 3, 0, 0, 0, 0) := (fe159 22).trans rfl
set_option maxRecDepth 10000 in
theorem f159_23 : gm_fetch 159 23 = some (24, .iload_n 3, 0, 0, 0, 0) := (fe159 23).trans rfl
set_option maxRecDepth 10000 in
theorem f159_24 : gm_fetch 159 24 = some (25, .aload_n 0, 0, 0, 0, 0) := (fe159 24).trans rfl
set_option maxRecDepth 10000 in
theorem f159_25 : gm_fetch 159 25 = some (28, .getfield 84, 91, 7, 7, 0) := (fe159 25).trans rfl
set_option maxRecDepth 10000 in
theorem f159_28 : gm_fetch 159 28 = some (31, .if_icmp .ge 117, 0, 145, 0, 0) := (fe159 28).trans rfl
set_option maxRecDepth 10000 in
theorem f159_31 : gm_fetch 159 31 = some (32, .aload_n 0, 0, 0, 0, 0) := (fe159 31).trans rfl
set_option maxRecDepth 10000 in
theorem f159_32 : gm_fetch 159 32 = some (35, .getfield 25, 96, 7, 12, 0) := (fe159 32).trans rfl
set_option maxRecDepth 10000 in
theorem f159_35 : gm_fetch 159 35 = some (36, .iload_n 2, 0, 0, 0, 0) := (fe159 35).trans rfl
set_option maxRecDepth 10000 in
theorem f159_36 : gm_fetch 159 36 = some (37, .iaload, 0, 0, 0, 0) := (fe159 36).trans rfl
set_option maxRecDepth 10000 in
theorem f159_37 : gm_fetch 159 37 = some (38, .iload_n 3, 0, 0, 0, 0) := (fe159 37).trans rfl
set_option maxRecDepth 10000 in
theorem f159_38 : gm_fetch 159 38 = some (41, .invokestatic 161, 183, 140, 0, 0) := (fe159 38).trans rfl
set_option maxRecDepth 10000 in
theorem f159_41 : gm_fetch 159 41 = some (43, .istore 4, 0, 0, 0, 0) := (fe159 41).trans rfl
set_option maxRecDepth 10000 in
theorem f159_43 : gm_fetch 159 43 = some (44, .iload_n 1, 0, 0, 0, 0) := (fe159 43).trans rfl
set_option maxRecDepth 10000 in
theorem f159_44 : gm_fetch 159 44 = some (45, .aload_n 0, 0, 0, 0, 0) := (fe159 44).trans rfl
set_option maxRecDepth 10000 in
theorem f159_45 : gm_fetch 159 45 = some (48, .getfield 22, 94, 7, 10, 0) := (fe159 45).trans rfl
set_option maxRecDepth 10000 in
theorem f159_48 : gm_fetch 159 48 = some (49, .iload_n 2, 0, 0, 0, 0) := (fe159 48).trans rfl
set_option maxRecDepth 10000 in
theorem f159_49 : gm_fetch 159 49 = some (50, .iaload, 0, 0, 0, 0) := (fe159 49).trans rfl
set_option maxRecDepth 10000 in
theorem f159_50 : gm_fetch 159 50 = some (51, .i2l, 0, 0, 0, 0) := (fe159 50).trans rfl
set_option maxRecDepth 10000 in
theorem f159_51 : gm_fetch 159 51 = some (53, .iload 4, 0, 0, 0, 0) := (fe159 51).trans rfl
set_option maxRecDepth 10000 in
theorem f159_53 : gm_fetch 159 53 = some (56, .invokestatic 97, 176, 116, 0, 0) := (fe159 53).trans rfl
set_option maxRecDepth 10000 in
theorem f159_56 : gm_fetch 159 56 = some (59, .ifCond .eq 7, 0, 63, 0, 0) := (fe159 56).trans rfl
set_option maxRecDepth 10000 in
theorem f159_59 : gm_fetch 159 59 = some (60, .iconst 1, 0, 0, 0, 0) := (fe159 59).trans rfl
set_option maxRecDepth 10000 in
theorem f159_60 : gm_fetch 159 60 = some (63, .goto 4, 0, 64, 0, 0) := (fe159 60).trans rfl
set_option maxRecDepth 10000 in
theorem f159_63 : gm_fetch 159 63 = some (64, .iconst 0, 0, 0, 0, 0) := (fe159 63).trans rfl
set_option maxRecDepth 10000 in
theorem f159_64 : gm_fetch 159 64 = some (65, .iadd, 0, 0, 0, 0) := (fe159 64).trans rfl
set_option maxRecDepth 10000 in
theorem f159_65 : gm_fetch 159 65 = some (66, .istore_n 1, 0, 0, 0, 0) := (fe159 65).trans rfl
set_option maxRecDepth 10000 in
theorem f159_66 : gm_fetch 159 66 = some (67, .iload_n 1, 0, 0, 0, 0) := (fe159 66).trans rfl
set_option maxRecDepth 10000 in
theorem f159_67 : gm_fetch 159 67 = some (68, .iload_n 3, 0, 0, 0, 0) := (fe159 67).trans rfl
set_option maxRecDepth 10000 in
theorem f159_68 : gm_fetch 159 68 = some (71, .ifCond .le 31, 0, 99, 0, 0) := (fe159 68).trans rfl
set_option maxRecDepth 10000 in
theorem f159_71 : gm_fetch 159 71 = some (73, .iload 4, 0, 0, 0, 0) := (fe159 71).trans rfl
set_option maxRecDepth 10000 in
theorem f159_73 : gm_fetch 159 73 = some (74, .aload_n 0, 0, 0, 0, 0) := (fe159 73).trans rfl
set_option maxRecDepth 10000 in
theorem f159_74 : gm_fetch 159 74 = some (77, .getfield 25, 96, 7, 12, 0) := (fe159 74).trans rfl
set_option maxRecDepth 10000 in
theorem f159_77 : gm_fetch 159 77 = some (78, .iload_n 2, 0, 0, 0, 0) := (fe159 77).trans rfl
set_option maxRecDepth 10000 in
theorem f159_78 : gm_fetch 159 78 = some (79, .iaload, 0, 0, 0, 0) := (fe159 78).trans rfl
set_option maxRecDepth 10000 in
theorem f159_79 : gm_fetch 159 79 = some (80, .iload_n 3, 0, 0, 0, 0) := (fe159 79).trans rfl
set_option maxRecDepth 10000 in
theorem f159_80 : gm_fetch 159 80 = some (81, .iconst 1, 0, 0, 0, 0) := (fe159 80).trans rfl
set_option maxRecDepth 10000 in
theorem f159_81 : gm_fetch 159 81 = some (82, .isub, 0, 0, 0, 0) := (fe159 81).trans rfl
set_option maxRecDepth 10000 in
theorem f159_82 : gm_fetch 159 82 = some (85, .invokestatic 161, 183, 140, 0, 0) := (fe159 82).trans rfl
set_option maxRecDepth 10000 in
theorem f159_85 : gm_fetch 159 85 = some (86, .isub, 0, 0, 0, 0) := (fe159 85).trans rfl
set_option maxRecDepth 10000 in
theorem f159_86 : gm_fetch 159 86 = some (87, .iconst 1, 0, 0, 0, 0) := (fe159 86).trans rfl
set_option maxRecDepth 10000 in
theorem f159_87 : gm_fetch 159 87 = some (88, .isub, 0, 0, 0, 0) := (fe159 87).trans rfl
set_option maxRecDepth 10000 in
theorem f159_88 : gm_fetch 159 88 = some (89, .aload_n 0, 0, 0, 0, 0) := (fe159 88).trans rfl
set_option maxRecDepth 10000 in
theorem f159_89 : gm_fetch 159 89 = some (92, .getfield 87, 92, 7, 8, 0) := (fe159 89).trans rfl
set_option maxRecDepth 10000 in
theorem f159_92 : gm_fetch 159 92 = some (95, .if_icmp .le 7, 0, 99, 0, 0) := (fe159 92).trans rfl
set_option maxRecDepth 10000 in
theorem f159_95 : gm_fetch 159 95 = some (96, .iconst 1, 0, 0, 0, 0) := (fe159 95).trans rfl
set_option maxRecDepth 10000 in
theorem f159_96 : gm_fetch 159 96 = some (99, .goto 4, 0, 100, 0, 0) := (fe159 96).trans rfl
set_option maxRecDepth 10000 in
theorem f159_99 : gm_fetch 159 99 = some (100, .iconst 0, 0, 0, 0, 0) := (fe159 99).trans rfl
set_option maxRecDepth 10000 in
theorem f159_100 : gm_fetch 159 100 = some (101, .iadd, 0, 0, 0, 0) := (fe159 100).trans rfl
set_option maxRecDepth 10000 in
theorem f159_101 : gm_fetch 159 101 = some (102, .istore_n 1, 0, 0, 0, 0) := (fe159 101).trans rfl
set_option maxRecDepth 10000 in
theorem f159_102 : gm_fetch 159 102 = some (103, .iload_n 1, 0, 0, 0, 0) := (fe159 102).trans rfl
set_option maxRecDepth 10000 in
theorem f159_103 : gm_fetch 159 103 = some (104, .iload_n 2, 0, 0, 0, 0) := (fe159 103).trans rfl
set_option maxRecDepth 10000 in
theorem f159_104 : gm_fetch 159 104 = some (107, .ifCond .le 32, 0, 136, 0, 0) := (fe159 104).trans rfl
set_option maxRecDepth 10000 in
theorem f159_107 : gm_fetch 159 107 = some (109, .iload 4, 0, 0, 0, 0) := (fe159 107).trans rfl
set_option maxRecDepth 10000 in
theorem f159_109 : gm_fetch 159 109 = some (110, .aload_n 0, 0, 0, 0, 0) := (fe159 109).trans rfl
set_option maxRecDepth 10000 in
theorem f159_110 : gm_fetch 159 110 = some (113, .getfield 25, 96, 7, 12, 0) := (fe159 110).trans rfl
set_option maxRecDepth 10000 in
theorem f159_113 : gm_fetch 159 113 = some (114, .iload_n 2, 0, 0, 0, 0) := (fe159 113).trans rfl
set_option maxRecDepth 10000 in
theorem f159_114 : gm_fetch 159 114 = some (115, .iconst 1, 0, 0, 0, 0) := (fe159 114).trans rfl
set_option maxRecDepth 10000 in
theorem f159_115 : gm_fetch 159 115 = some (116, .isub, 0, 0, 0, 0) := (fe159 115).trans rfl
set_option maxRecDepth 10000 in
theorem f159_116 : gm_fetch 159 116 = some (117, .iaload, 0, 0, 0, 0) := (fe159 116).trans rfl
set_option maxRecDepth 10000 in
theorem f159_117 : gm_fetch 159 117 = some (118, .iload_n 3, 0, 0, 0, 0) := (fe159 117).trans rfl
set_option maxRecDepth 10000 in
theorem f159_118 : gm_fetch 159 118 = some (121, .invokestatic 161, 183, 140, 0, 0) := (fe159 118).trans rfl
set_option maxRecDepth 10000 in
theorem f159_121 : gm_fetch 159 121 = some (122, .isub, 0, 0, 0, 0) := (fe159 121).trans rfl
set_option maxRecDepth 10000 in
theorem f159_122 : gm_fetch 159 122 = some (125, .invokestatic 164, 184, 118, 0, 0) := (fe159 122).trans rfl
set_option maxRecDepth 10000 in
theorem f159_125 : gm_fetch 159 125 = some (126, .aload_n 0, 0, 0, 0, 0) := (fe159 125).trans rfl
set_option maxRecDepth 10000 in
theorem f159_126 : gm_fetch 159 126 = some (129, .getfield 87, 92, 7, 8, 0) := (fe159 126).trans rfl
set_option maxRecDepth 10000 in
theorem f159_129 : gm_fetch 159 129 = some (132, .if_icmp .le 7, 0, 136, 0, 0) := (fe159 129).trans rfl
set_option maxRecDepth 10000 in
theorem f159_132 : gm_fetch 159 132 = some (133, .iconst 1, 0, 0, 0, 0) := (fe159 132).trans rfl
set_option maxRecDepth 10000 in
theorem f159_133 : gm_fetch 159 133 = some (136, .goto 4, 0, 137, 0, 0) := (fe159 133).trans rfl
set_option maxRecDepth 10000 in
theorem f159_136 : gm_fetch 159 136 = some (137, .iconst 0, 0, 0, 0, 0) := (fe159 136).trans rfl
set_option maxRecDepth 10000 in
theorem f159_137 : gm_fetch 159 137 = some (138, .iadd, 0, 0, 0, 0) := (fe159 137).trans rfl
set_option maxRecDepth 10000 in
theorem f159_138 : gm_fetch 159 138 = some (139, .istore_n 1, 0, 0, 0, 0) := (fe159 138).trans rfl
set_option maxRecDepth 10000 in
theorem f159_139 : gm_fetch 159 139 = some (142, .iinc 3 1, 0, 0, 0, 0) := (fe159 139).trans rfl
set_option maxRecDepth 10000 in
theorem f159_142 : gm_fetch 159 142 = some (145, .goto (-119), 0, 23, 0, 0) := (fe159 142).trans rfl
set_option maxRecDepth 10000 in
theorem f159_145 : gm_fetch 159 145 = some (148, .iinc 2 1, 0, 0, 0, 0) := (fe159 145).trans rfl
set_option maxRecDepth 10000 in
theorem f159_148 : gm_fetch 159 148 = some (151, .goto (-135), 0, 13, 0, 0) := (fe159 148).trans rfl
set_option maxRecDepth 10000 in
theorem f159_151 : gm_fetch 159 151 = some (152, .iload_n 1, 0, 0, 0, 0) := (fe159 151).trans rfl
set_option maxRecDepth 10000 in
theorem f159_152 : gm_fetch 159 152 = some (153, .ireturn, 0, 0, 0, 0) := (fe159 152).trans rfl
set_option maxRecDepth 10000 in
theorem rg159_0 {mi : Mi} {ml : Ml} {F : Int32 → Mi → Ml → Prop}   (h : ((¬ (mi 47 11) = 0) → Sg 159 13 [some (.ref 47), some (.int 0), some (.int 0), none, none] [] mi ml (qi F)) ∧ (¬ (¬ (mi 47 11) = 0) → F (-1) mi ml)) : Sg 159 0 [some (.ref 47), none, none, none, none] [] mi ml (qi F) := by
  refine sg_ld f159_0 (v := .ref 47) rfl rfl ?_
  refine sg_geti f159_1 rfl rfl (x := (mi 47 11)) rfl ?_
  refine sg_if f159_4 (fun c => ?_) (fun c => ?_)
  · have h := h.1 c
    refine sg_psh f159_9 (v := .int 0) (by decide) ?_
    refine sg_st1 f159_10 (ls' := [some (.ref 47), some (.int 0), none, none, none]) rfl rfl rfl rfl ?_
    refine sg_psh f159_11 (v := .int 0) (by decide) ?_
    refine sg_st1 f159_12 (ls' := [some (.ref 47), some (.int 0), some (.int 0), none, none]) rfl rfl rfl rfl ?_
    exact h
  · have h := h.2 c
    refine sg_psh f159_7 (v := .int (-1)) (by decide) ?_
    exact sg_iret f159_8 pq159 rfl rfl ⟨_, rfl, h⟩

set_option maxRecDepth 10000 in
theorem rg159_13 {mi : Mi} {ml : Ml} {F : Int32 → Mi → Ml → Prop} {x1 : Int32} {x2 : Int32}  (h : (((mi 47 5) ≤ x2) → F x1 mi ml) ∧ (¬ ((mi 47 5) ≤ x2) → Sg 159 23 [some (.ref 47), some (.int x1), some (.int x2), some (.int 0), none] [] mi ml (qi F))) : Sg 159 13 [some (.ref 47), some (.int x1), some (.int x2), none, none] [] mi ml (qi F) := by
  refine sg_ld f159_13 (v := .int x2) rfl rfl ?_
  refine sg_ld f159_14 (v := .ref 47) rfl rfl ?_
  refine sg_geti f159_15 rfl rfl (x := (mi 47 5)) rfl ?_
  refine sg_icmp f159_18 (fun c => ?_) (fun c => ?_)
  · have h := h.1 c
    refine sg_ld f159_151 (v := .int x1) rfl rfl ?_
    exact sg_iret f159_152 pq159 rfl rfl ⟨_, rfl, h⟩
  · have h := h.2 c
    refine sg_psh f159_21 (v := .int 0) (by decide) ?_
    refine sg_st1 f159_22 (ls' := [some (.ref 47), some (.int x1), some (.int x2), some (.int 0), none]) rfl rfl rfl rfl ?_
    exact h

set_option maxRecDepth 10000 in
theorem rg159_23 {mi : Mi} {ml : Ml} {F : Int32 → Mi → Ml → Prop} {x1 : Int32} {x2 : Int32} {x3 : Int32}  (h : (((mi 47 7) ≤ x3) → Sg 159 13 [some (.ref 47), some (.int x1), some (.int (x2 + 1)), none, none] [] mi ml (qi F)) ∧ (¬ ((mi 47 7) ≤ x3) → (vp_in x2 7) ∧ (Sg 140 0 [some (.int (mi 53 (Int32.toNatClampNeg x2))), some (.int x3), none, none] [] mi ml (qi fun y2 mi3 ml4 => Sg 116 0 [some (.long (Int32.toInt64 (mi3 52 (Int32.toNatClampNeg x2)))), none, some (.int y2)] [] mi3 ml4 (qi fun y5 mi6 ml7 => ((y5 = 0) → Sg 159 64 [some (.ref 47), some (.int x1), some (.int x2), some (.int x3), some (.int y2)] [.int 0, .int x1] mi6 ml7 (qi F)) ∧ (¬ (y5 = 0) → Sg 159 64 [some (.ref 47), some (.int x1), some (.int x2), some (.int x3), some (.int y2)] [.int 1, .int x1] mi6 ml7 (qi F))))))) : Sg 159 23 [some (.ref 47), some (.int x1), some (.int x2), some (.int x3), none] [] mi ml (qi F) := by
  refine sg_ld f159_23 (v := .int x3) rfl rfl ?_
  refine sg_ld f159_24 (v := .ref 47) rfl rfl ?_
  refine sg_geti f159_25 rfl rfl (x := (mi 47 7)) rfl ?_
  refine sg_icmp f159_28 (fun c => ?_) (fun c => ?_)
  · have h := h.1 c
    refine sg_inc f159_145 (d := 1) (ls' := [some (.ref 47), some (.int x1), some (.int (x2 + 1)), some (.int x3), none]) rfl (by decide) rfl ?_
    refine sg_goto f159_148 ?_
    exact sg_drop [3] rfl h
  · have h := h.2 c
    refine sg_ld f159_31 (v := .ref 47) rfl rfl ?_
    refine sg_getr f159_32 rfl rfl (w := 53) rfl ?_
    refine sg_ld f159_35 (v := .int x2) rfl rfl ?_
    obtain ⟨e1, h⟩ := h
    refine sg_iald f159_36 rfl e1 (x := (mi 53 (Int32.toNatClampNeg x2))) rfl ?_
    refine sg_ld f159_37 (v := .int x3) rfl rfl ?_
    refine sg_cS f159_38 (vs := [.int (mi 53 (Int32.toNatClampNeg x2)), .int x3]) (rest := []) (en := [some (.int (mi 53 (Int32.toNatClampNeg x2))), some (.int x3), none, none]) (by decide) pq140 ⟨rfl, rfl⟩ rfl rfl rfl rfl rfl h ?_
    rintro _ mi3 ml4 ⟨y2, rfl, h⟩
    refine sg_st1 f159_41 (ls' := [some (.ref 47), some (.int x1), some (.int x2), some (.int x3), some (.int y2)]) rfl rfl rfl rfl ?_
    refine sg_ld f159_43 (v := .int x1) rfl rfl ?_
    refine sg_ld f159_44 (v := .ref 47) rfl rfl ?_
    refine sg_getr f159_45 rfl rfl (w := 52) rfl ?_
    refine sg_ld f159_48 (v := .int x2) rfl rfl ?_
    refine sg_iald f159_49 rfl e1 (x := (mi3 52 (Int32.toNatClampNeg x2))) rfl ?_
    refine sg_i2l f159_50 ?_
    refine sg_ld f159_51 (v := .int y2) rfl rfl ?_
    refine sg_cS f159_53 (vs := [.long (Int32.toInt64 (mi3 52 (Int32.toNatClampNeg x2))), .int y2]) (rest := [.int x1]) (en := [some (.long (Int32.toInt64 (mi3 52 (Int32.toNatClampNeg x2)))), none, some (.int y2)]) (by decide) pq116 ⟨rfl, rfl⟩ rfl rfl rfl rfl rfl h ?_
    rintro _ mi6 ml7 ⟨y5, rfl, h⟩
    refine sg_if f159_56 (fun c => ?_) (fun c => ?_)
    · have h := h.1 c
      refine sg_psh f159_63 (v := .int 0) (by decide) ?_
      exact h
    · have h := h.2 c
      refine sg_psh f159_59 (v := .int 1) (by decide) ?_
      refine sg_goto f159_60 ?_
      exact h

set_option maxRecDepth 10000 in
theorem rg159_64 {mi : Mi} {ml : Ml} {F : Int32 → Mi → Ml → Prop} {x1 : Int32} {x2 : Int32} {x3 : Int32} {x4 : Int32} {s0 : Int32} {s1 : Int32}  (h : ((x3 ≤ 0) → Sg 159 100 [some (.ref 47), some (.int (s1 + s0)), some (.int x2), some (.int x3), some (.int x4)] [.int 0, .int (s1 + s0)] mi ml (qi F)) ∧ (¬ (x3 ≤ 0) → (vp_in x2 7) ∧ (Sg 140 0 [some (.int (mi 53 (Int32.toNatClampNeg x2))), some (.int (x3 - 1)), none, none] [] mi ml (qi fun y2 mi3 ml4 => ((((x4 - y2) - 1) ≤ (mi3 47 8)) → Sg 159 100 [some (.ref 47), some (.int (s1 + s0)), some (.int x2), some (.int x3), some (.int x4)] [.int 0, .int (s1 + s0)] mi3 ml4 (qi F)) ∧ (¬ (((x4 - y2) - 1) ≤ (mi3 47 8)) → Sg 159 100 [some (.ref 47), some (.int (s1 + s0)), some (.int x2), some (.int x3), some (.int x4)] [.int 1, .int (s1 + s0)] mi3 ml4 (qi F)))))) : Sg 159 64 [some (.ref 47), some (.int x1), some (.int x2), some (.int x3), some (.int x4)] [.int s0, .int s1] mi ml (qi F) := by
  refine sg_bin f159_64 rfl ?_
  refine sg_st1 f159_65 (ls' := [some (.ref 47), some (.int (s1 + s0)), some (.int x2), some (.int x3), some (.int x4)]) rfl rfl rfl rfl ?_
  refine sg_ld f159_66 (v := .int (s1 + s0)) rfl rfl ?_
  refine sg_ld f159_67 (v := .int x3) rfl rfl ?_
  refine sg_if f159_68 (fun c => ?_) (fun c => ?_)
  · have h := h.1 c
    refine sg_psh f159_99 (v := .int 0) (by decide) ?_
    exact h
  · have h := h.2 c
    refine sg_ld f159_71 (v := .int x4) rfl rfl ?_
    refine sg_ld f159_73 (v := .ref 47) rfl rfl ?_
    refine sg_getr f159_74 rfl rfl (w := 53) rfl ?_
    refine sg_ld f159_77 (v := .int x2) rfl rfl ?_
    obtain ⟨e1, h⟩ := h
    refine sg_iald f159_78 rfl e1 (x := (mi 53 (Int32.toNatClampNeg x2))) rfl ?_
    refine sg_ld f159_79 (v := .int x3) rfl rfl ?_
    refine sg_psh f159_80 (v := .int 1) (by decide) ?_
    refine sg_bin f159_81 rfl ?_
    refine sg_cS f159_82 (vs := [.int (mi 53 (Int32.toNatClampNeg x2)), .int (x3 - 1)]) (rest := [.int x4, .int (s1 + s0)]) (en := [some (.int (mi 53 (Int32.toNatClampNeg x2))), some (.int (x3 - 1)), none, none]) (by decide) pq140 ⟨rfl, rfl⟩ rfl rfl rfl rfl rfl h ?_
    rintro _ mi3 ml4 ⟨y2, rfl, h⟩
    refine sg_bin f159_85 rfl ?_
    refine sg_psh f159_86 (v := .int 1) (by decide) ?_
    refine sg_bin f159_87 rfl ?_
    refine sg_ld f159_88 (v := .ref 47) rfl rfl ?_
    refine sg_geti f159_89 rfl rfl (x := (mi3 47 8)) rfl ?_
    refine sg_icmp f159_92 (fun c => ?_) (fun c => ?_)
    · have h := h.1 c
      refine sg_psh f159_99 (v := .int 0) (by decide) ?_
      exact h
    · have h := h.2 c
      refine sg_psh f159_95 (v := .int 1) (by decide) ?_
      refine sg_goto f159_96 ?_
      exact h

set_option maxRecDepth 10000 in
theorem rg159_100 {mi : Mi} {ml : Ml} {F : Int32 → Mi → Ml → Prop} {x1 : Int32} {x2 : Int32} {x3 : Int32} {x4 : Int32} {s0 : Int32} {s1 : Int32}  (h : ((x2 ≤ 0) → Sg 159 23 [some (.ref 47), some (.int ((s1 + s0) + 0)), some (.int x2), some (.int (x3 + 1)), none] [] mi ml (qi F)) ∧ (¬ (x2 ≤ 0) → (vp_in (x2 - 1) 7) ∧ (Sg 140 0 [some (.int (mi 53 (Int32.toNatClampNeg (x2 - 1)))), some (.int x3), none, none] [] mi ml (qi fun y2 mi3 ml4 => Sg 118 0 [some (.int (x4 - y2))] [] mi3 ml4 (qi fun y5 mi6 ml7 => ((y5 ≤ (mi6 47 8)) → Sg 159 23 [some (.ref 47), some (.int ((s1 + s0) + 0)), some (.int x2), some (.int (x3 + 1)), none] [] mi6 ml7 (qi F)) ∧ (¬ (y5 ≤ (mi6 47 8)) → Sg 159 23 [some (.ref 47), some (.int ((s1 + s0) + 1)), some (.int x2), some (.int (x3 + 1)), none] [] mi6 ml7 (qi F))))))) : Sg 159 100 [some (.ref 47), some (.int x1), some (.int x2), some (.int x3), some (.int x4)] [.int s0, .int s1] mi ml (qi F) := by
  refine sg_bin f159_100 rfl ?_
  refine sg_st1 f159_101 (ls' := [some (.ref 47), some (.int (s1 + s0)), some (.int x2), some (.int x3), some (.int x4)]) rfl rfl rfl rfl ?_
  refine sg_ld f159_102 (v := .int (s1 + s0)) rfl rfl ?_
  refine sg_ld f159_103 (v := .int x2) rfl rfl ?_
  refine sg_if f159_104 (fun c => ?_) (fun c => ?_)
  · have h := h.1 c
    refine sg_psh f159_136 (v := .int 0) (by decide) ?_
    refine sg_bin f159_137 rfl ?_
    refine sg_st1 f159_138 (ls' := [some (.ref 47), some (.int ((s1 + s0) + 0)), some (.int x2), some (.int x3), some (.int x4)]) rfl rfl rfl rfl ?_
    refine sg_inc f159_139 (d := 1) (ls' := [some (.ref 47), some (.int ((s1 + s0) + 0)), some (.int x2), some (.int (x3 + 1)), some (.int x4)]) rfl (by decide) rfl ?_
    refine sg_goto f159_142 ?_
    exact sg_drop [4] rfl h
  · have h := h.2 c
    refine sg_ld f159_107 (v := .int x4) rfl rfl ?_
    refine sg_ld f159_109 (v := .ref 47) rfl rfl ?_
    refine sg_getr f159_110 rfl rfl (w := 53) rfl ?_
    refine sg_ld f159_113 (v := .int x2) rfl rfl ?_
    refine sg_psh f159_114 (v := .int 1) (by decide) ?_
    refine sg_bin f159_115 rfl ?_
    obtain ⟨e1, h⟩ := h
    refine sg_iald f159_116 rfl e1 (x := (mi 53 (Int32.toNatClampNeg (x2 - 1)))) rfl ?_
    refine sg_ld f159_117 (v := .int x3) rfl rfl ?_
    refine sg_cS f159_118 (vs := [.int (mi 53 (Int32.toNatClampNeg (x2 - 1))), .int x3]) (rest := [.int x4, .int (s1 + s0)]) (en := [some (.int (mi 53 (Int32.toNatClampNeg (x2 - 1)))), some (.int x3), none, none]) (by decide) pq140 ⟨rfl, rfl⟩ rfl rfl rfl rfl rfl h ?_
    rintro _ mi3 ml4 ⟨y2, rfl, h⟩
    refine sg_bin f159_121 rfl ?_
    refine sg_cS f159_122 (vs := [.int (x4 - y2)]) (rest := [.int (s1 + s0)]) (en := [some (.int (x4 - y2))]) (by decide) pq118 ⟨rfl, rfl⟩ rfl rfl rfl rfl rfl h ?_
    rintro _ mi6 ml7 ⟨y5, rfl, h⟩
    refine sg_ld f159_125 (v := .ref 47) rfl rfl ?_
    refine sg_geti f159_126 rfl rfl (x := (mi6 47 8)) rfl ?_
    refine sg_icmp f159_129 (fun c => ?_) (fun c => ?_)
    · have h := h.1 c
      refine sg_psh f159_136 (v := .int 0) (by decide) ?_
      refine sg_bin f159_137 rfl ?_
      refine sg_st1 f159_138 (ls' := [some (.ref 47), some (.int ((s1 + s0) + 0)), some (.int x2), some (.int x3), some (.int x4)]) rfl rfl rfl rfl ?_
      refine sg_inc f159_139 (d := 1) (ls' := [some (.ref 47), some (.int ((s1 + s0) + 0)), some (.int x2), some (.int (x3 + 1)), some (.int x4)]) rfl (by decide) rfl ?_
      refine sg_goto f159_142 ?_
      exact sg_drop [4] rfl h
    · have h := h.2 c
      refine sg_psh f159_132 (v := .int 1) (by decide) ?_
      refine sg_goto f159_133 ?_
      refine sg_bin f159_137 rfl ?_
      refine sg_st1 f159_138 (ls' := [some (.ref 47), some (.int ((s1 + s0) + 1)), some (.int x2), some (.int x3), some (.int x4)]) rfl rfl rfl rfl ?_
      refine sg_inc f159_139 (d := 1) (ls' := [some (.ref 47), some (.int ((s1 + s0) + 1)), some (.int x2), some (.int (x3 + 1)), some (.int x4)]) rfl (by decide) rfl ?_
      refine sg_goto f159_142 ?_
      exact sg_drop [4] rfl h

/-! X7_broken ()I -/
theorem fe160 (pc : Nat) : gm_fetch 160 pc = gm_find pc cd_160 := rfl
theorem f160_0 : gm_fetch 160 0 = some (1, .aload_n 0, 0, 0, 0, 0) := (fe160 0).trans rfl
theorem f160_1 : gm_fetch 160 1 = some (4, .invokevirtual 210, 201, 159, 0, 0) := (fe160 1).trans rfl
theorem f160_4 : gm_fetch 160 4 = some (5, .ireturn, 0, 0, 0, 0) := (fe160 4).trans rfl
set_option maxRecDepth 10000 in
theorem rg160_0 {mi : Mi} {ml : Ml} {F : Int32 → Mi → Ml → Prop}   (h : Sg 159 0 [some (.ref 47), none, none, none, none] [] mi ml (qi fun y1 mi2 ml3 => F y1 mi2 ml3)) : Sg 160 0 [some (.ref 47)] [] mi ml (qi F) := by
  refine sg_ld f160_0 (v := .ref 47) rfl rfl ?_
  refine sg_cV f160_1 (vs := []) (r := 47) (rest := []) (en := [some (.ref 47), none, none, none, none]) pq159 ⟨rfl, rfl⟩ rfl rfl rfl rfl rfl rfl h ?_
  rintro _ mi2 ml3 ⟨y1, rfl, h⟩
  exact sg_iret f160_4 pq160 rfl rfl ⟨_, rfl, h⟩

/-! X7_witnessBy (I)I -/
theorem fe161 (pc : Nat) : gm_fetch 161 pc = gm_find pc cd_161 := rfl
theorem f161_0 : gm_fetch 161 0 = some (1, .iconst 1, 0, 0, 0, 0) := (fe161 0).trans rfl
theorem f161_1 : gm_fetch 161 1 = some (2, .istore_n 2, 0, 0, 0, 0) := (fe161 1).trans rfl
theorem f161_2 : gm_fetch 161 2 = some (3, .iload_n 2, 0, 0, 0, 0) := (fe161 2).trans rfl
theorem f161_3 : gm_fetch 161 3 = some (4, .aload_n 0, 0, 0, 0, 0) := (fe161 3).trans rfl
theorem f161_4 : gm_fetch 161 4 = some (7, .getfield 77, 89, 7, 5, 0) := (fe161 4).trans rfl
theorem f161_7 : gm_fetch 161 7 = some (10, .if_icmp .gt 54, 0, 61, 0, 0) := (fe161 7).trans rfl
theorem f161_10 : gm_fetch 161 10 = some (11, .iconst 0, 0, 0, 0, 0) := (fe161 10).trans rfl
theorem f161_11 : gm_fetch 161 11 = some (12, .istore_n 3, 0, 0, 0, 0) := (fe161 11).trans rfl
theorem f161_12 : gm_fetch 161 12 = some (13, .iload_n 3, 0, 0, 0, 0) := (fe161 12).trans rfl
theorem f161_13 : gm_fetch 161 13 = some (14, .iload_n 2, 0, 0, 0, 0) := (fe161 13).trans rfl
theorem f161_14 : gm_fetch 161 14 = some (15, .iadd, 0, 0, 0, 0) := (fe161 14).trans rfl
theorem f161_15 : gm_fetch 161 15 = some (16, .aload_n 0, 0, 0, 0, 0) := (fe161 15).trans rfl
theorem f161_16 : gm_fetch 161 16 = some (19, .getfield 77, 89, 7, 5, 0) := (fe161 16).trans rfl
theorem f161_19 : gm_fetch 161 19 = some (22, .if_icmp .gt 36, 0, 55, 0, 0) := (fe161 19).trans rfl
theorem f161_22 : gm_fetch 161 22 = some (23, .aload_n 0, 0, 0, 0, 0) := (fe161 22).trans rfl
theorem f161_23 : gm_fetch 161 23 = some (24, .iload_n 3, 0, 0, 0, 0) := (fe161 23).trans rfl
theorem f161_24 : gm_fetch 161 24 = some (25, .iload_n 3, 0, 0, 0, 0) := (fe161 24).trans rfl
theorem f161_25 : gm_fetch 161 25 = some (26, .iload_n 2, 0, 0, 0, 0) := (fe161 25).trans rfl
theorem f161_26 : gm_fetch 161 26 = some (27, .iadd, 0, 0, 0, 0) := (fe161 26).trans rfl
theorem f161_27 : gm_fetch 161 27 = some (28, .iconst 1, 0, 0, 0, 0) := (fe161 27).trans rfl
theorem f161_28 : gm_fetch 161 28 = some (29, .isub, 0, 0, 0, 0) := (fe161 28).trans rfl
theorem f161_29 : gm_fetch 161 29 = some (32, .invokevirtual 174, 186, 144, 0, 0) := (fe161 29).trans rfl
theorem f161_32 : gm_fetch 161 32 = some (35, .ifCond .ne 17, 0, 49, 0, 0) := (fe161 32).trans rfl
theorem f161_35 : gm_fetch 161 35 = some (36, .iload_n 1, 0, 0, 0, 0) := (fe161 35).trans rfl
theorem f161_36 : gm_fetch 161 36 = some (39, .ifCond .ne 7, 0, 43, 0, 0) := (fe161 36).trans rfl
theorem f161_39 : gm_fetch 161 39 = some (40, .iload_n 3, 0, 0, 0, 0) := (fe161 39).trans rfl
theorem f161_40 : gm_fetch 161 40 = some (43, .goto 8, 0, 48, 0, 0) := (fe161 40).trans rfl
theorem f161_43 : gm_fetch 161 43 = some (44, .iload_n 3, 0, 0, 0, 0) := (fe161 43).trans rfl
theorem f161_44 : gm_fetch 161 44 = some (45, .iload_n 2, 0, 0, 0, 0) := (fe161 44).trans rfl
theorem f161_45 : gm_fetch 161 45 = some (46, .iadd, 0, 0, 0, 0) := (fe161 45).trans rfl
theorem f161_46 : gm_fetch 161 46 = some (47, .iconst 1, 0, 0, 0, 0) := (fe161 46).trans rfl
theorem f161_47 : gm_fetch 161 47 = some (48, .isub, 0, 0, 0, 0) := (fe161 47).trans rfl
theorem f161_48 : gm_fetch 161 48 = some (49, .ireturn, 0, 0, 0, 0) := (fe161 48).trans rfl
theorem f161_49 : gm_fetch 161 49 = some (52, .iinc 3 1, 0, 0, 0, 0) := (fe161 49).trans rfl
theorem f161_52 : gm_fetch 161 52 = some (55, .goto (-40), 0, 12, 0, 0) := (fe161 52).trans rfl
theorem f161_55 : gm_fetch 161 55 = some (58, .iinc 2 1, 0, 0, 0, 0) := (fe161 55).trans rfl
theorem f161_58 : gm_fetch 161 58 = some (61, .goto (-56), 0, 2, 0, 0) := (fe161 58).trans rfl
theorem f161_61 : gm_fetch 161 61 = some (62, .iconst (-1), 0, 0, 0, 0) := (fe161 61).trans rfl
theorem f161_62 : gm_fetch 161 62 = some (63, .ireturn, 0, 0, 0, 0) := (fe161 62).trans rfl
set_option maxRecDepth 10000 in
theorem rg161_0 {mi : Mi} {ml : Ml} {F : Int32 → Mi → Ml → Prop} {x1 : Int32}  (h : Sg 161 2 [some (.ref 47), some (.int x1), some (.int 1), none] [] mi ml (qi F)) : Sg 161 0 [some (.ref 47), some (.int x1), none, none] [] mi ml (qi F) := by
  refine sg_psh f161_0 (v := .int 1) (by decide) ?_
  refine sg_st1 f161_1 (ls' := [some (.ref 47), some (.int x1), some (.int 1), none]) rfl rfl rfl rfl ?_
  exact h

set_option maxRecDepth 10000 in
theorem rg161_2 {mi : Mi} {ml : Ml} {F : Int32 → Mi → Ml → Prop} {x1 : Int32} {x2 : Int32}  (h : (((mi 47 5) < x2) → F (-1) mi ml) ∧ (¬ ((mi 47 5) < x2) → Sg 161 12 [some (.ref 47), some (.int x1), some (.int x2), some (.int 0)] [] mi ml (qi F))) : Sg 161 2 [some (.ref 47), some (.int x1), some (.int x2), none] [] mi ml (qi F) := by
  refine sg_ld f161_2 (v := .int x2) rfl rfl ?_
  refine sg_ld f161_3 (v := .ref 47) rfl rfl ?_
  refine sg_geti f161_4 rfl rfl (x := (mi 47 5)) rfl ?_
  refine sg_icmp f161_7 (fun c => ?_) (fun c => ?_)
  · have h := h.1 c
    refine sg_psh f161_61 (v := .int (-1)) (by decide) ?_
    exact sg_iret f161_62 pq161 rfl rfl ⟨_, rfl, h⟩
  · have h := h.2 c
    refine sg_psh f161_10 (v := .int 0) (by decide) ?_
    refine sg_st1 f161_11 (ls' := [some (.ref 47), some (.int x1), some (.int x2), some (.int 0)]) rfl rfl rfl rfl ?_
    exact h

set_option maxRecDepth 10000 in
theorem rg161_12 {mi : Mi} {ml : Ml} {F : Int32 → Mi → Ml → Prop} {x1 : Int32} {x2 : Int32} {x3 : Int32}  (h : (((mi 47 5) < (x3 + x2)) → Sg 161 2 [some (.ref 47), some (.int x1), some (.int (x2 + 1)), none] [] mi ml (qi F)) ∧ (¬ ((mi 47 5) < (x3 + x2)) → Sg 144 0 [some (.ref 47), some (.int x3), some (.int ((x3 + x2) - 1)), none, none, none, none, none] [] mi ml (qi fun y1 mi2 ml3 => ((¬ y1 = 0) → Sg 161 12 [some (.ref 47), some (.int x1), some (.int x2), some (.int (x3 + 1))] [] mi2 ml3 (qi F)) ∧ (¬ (¬ y1 = 0) → ((¬ x1 = 0) → F ((x3 + x2) - 1) mi2 ml3) ∧ (¬ (¬ x1 = 0) → F x3 mi2 ml3))))) : Sg 161 12 [some (.ref 47), some (.int x1), some (.int x2), some (.int x3)] [] mi ml (qi F) := by
  refine sg_ld f161_12 (v := .int x3) rfl rfl ?_
  refine sg_ld f161_13 (v := .int x2) rfl rfl ?_
  refine sg_bin f161_14 rfl ?_
  refine sg_ld f161_15 (v := .ref 47) rfl rfl ?_
  refine sg_geti f161_16 rfl rfl (x := (mi 47 5)) rfl ?_
  refine sg_icmp f161_19 (fun c => ?_) (fun c => ?_)
  · have h := h.1 c
    refine sg_inc f161_55 (d := 1) (ls' := [some (.ref 47), some (.int x1), some (.int (x2 + 1)), some (.int x3)]) rfl (by decide) rfl ?_
    refine sg_goto f161_58 ?_
    exact sg_drop [3] rfl h
  · have h := h.2 c
    refine sg_ld f161_22 (v := .ref 47) rfl rfl ?_
    refine sg_ld f161_23 (v := .int x3) rfl rfl ?_
    refine sg_ld f161_24 (v := .int x3) rfl rfl ?_
    refine sg_ld f161_25 (v := .int x2) rfl rfl ?_
    refine sg_bin f161_26 rfl ?_
    refine sg_psh f161_27 (v := .int 1) (by decide) ?_
    refine sg_bin f161_28 rfl ?_
    refine sg_cV f161_29 (vs := [.int x3, .int ((x3 + x2) - 1)]) (r := 47) (rest := []) (en := [some (.ref 47), some (.int x3), some (.int ((x3 + x2) - 1)), none, none, none, none, none]) pq144 ⟨rfl, rfl⟩ rfl rfl rfl rfl rfl rfl h ?_
    rintro _ mi2 ml3 ⟨y1, rfl, h⟩
    refine sg_if f161_32 (fun c => ?_) (fun c => ?_)
    · have h := h.1 c
      refine sg_inc f161_49 (d := 1) (ls' := [some (.ref 47), some (.int x1), some (.int x2), some (.int (x3 + 1))]) rfl (by decide) rfl ?_
      refine sg_goto f161_52 ?_
      exact h
    · have h := h.2 c
      refine sg_ld f161_35 (v := .int x1) rfl rfl ?_
      refine sg_if f161_36 (fun c => ?_) (fun c => ?_)
      · have h := h.1 c
        refine sg_ld f161_43 (v := .int x3) rfl rfl ?_
        refine sg_ld f161_44 (v := .int x2) rfl rfl ?_
        refine sg_bin f161_45 rfl ?_
        refine sg_psh f161_46 (v := .int 1) (by decide) ?_
        refine sg_bin f161_47 rfl ?_
        exact sg_iret f161_48 pq161 rfl rfl ⟨_, rfl, h⟩
      · have h := h.2 c
        refine sg_ld f161_39 (v := .int x3) rfl rfl ?_
        refine sg_goto f161_40 ?_
        exact sg_iret f161_48 pq161 rfl rfl ⟨_, rfl, h⟩

/-! X7_witness (I)I -/
theorem fe162 (pc : Nat) : gm_fetch 162 pc = gm_find pc cd_162 := rfl
theorem f162_0 : gm_fetch 162 0 = some (1, .aload_n 0, 0, 0, 0, 0) := (fe162 0).trans rfl
theorem f162_1 : gm_fetch 162 1 = some (4, .invokevirtual 177, 181, 142, 0, 0) := (fe162 1).trans rfl
theorem f162_4 : gm_fetch 162 4 = some (5, .iload_n 1, 0, 0, 0, 0) := (fe162 4).trans rfl
theorem f162_5 : gm_fetch 162 5 = some (8, .invokestatic 213, 203, 115, 0, 0) := (fe162 5).trans rfl
theorem f162_8 : gm_fetch 162 8 = some (11, .ifCond .eq 11, 0, 19, 0, 0) := (fe162 8).trans rfl
theorem f162_11 : gm_fetch 162 11 = some (12, .aload_n 0, 0, 0, 0, 0) := (fe162 11).trans rfl
theorem f162_12 : gm_fetch 162 12 = some (13, .iload_n 1, 0, 0, 0, 0) := (fe162 12).trans rfl
theorem f162_13 : gm_fetch 162 13 = some (16, .invokevirtual 216, 204, 161, 0, 0) := (fe162 13).trans rfl
theorem f162_16 : gm_fetch 162 16 = some (19, .goto 5, 0, 21, 0, 0) := (fe162 16).trans rfl
theorem f162_19 : gm_fetch 162 19 = some (21, .bipush (-2), 0, 0, 0, 0) := (fe162 19).trans rfl
theorem f162_21 : gm_fetch 162 21 = some (22, .ireturn, 0, 0, 0, 0) := (fe162 21).trans rfl
set_option maxRecDepth 10000 in
theorem rg162_0 {mi : Mi} {ml : Ml} {F : Int32 → Mi → Ml → Prop} {x1 : Int32}  (h : Sg 142 0 [some (.ref 47)] [] mi ml (qv fun mi2 ml3 => Sg 115 0 [some (.int x1)] [] mi2 ml3 (qi fun y4 mi5 ml6 => ((y4 = 0) → F (-2) mi5 ml6) ∧ (¬ (y4 = 0) → Sg 161 0 [some (.ref 47), some (.int x1), none, none] [] mi5 ml6 (qi fun y7 mi8 ml9 => F y7 mi8 ml9))))) : Sg 162 0 [some (.ref 47), some (.int x1)] [] mi ml (qi F) := by
  refine sg_ld f162_0 (v := .ref 47) rfl rfl ?_
  refine sg_cV f162_1 (vs := []) (r := 47) (rest := []) (en := [some (.ref 47)]) pq142 ⟨rfl, rfl⟩ rfl rfl rfl rfl rfl rfl h ?_
  intro _ mi2 ml3 h
  have h := gm_qv h
  refine sg_ld f162_4 (v := .int x1) rfl rfl ?_
  refine sg_cS f162_5 (vs := [.int x1]) (rest := []) (en := [some (.int x1)]) (by decide) pq115 ⟨rfl, rfl⟩ rfl rfl rfl rfl rfl h ?_
  rintro _ mi5 ml6 ⟨y4, rfl, h⟩
  refine sg_if f162_8 (fun c => ?_) (fun c => ?_)
  · have h := h.1 c
    refine sg_psh f162_19 (v := .int (-2)) (by decide) ?_
    exact sg_iret f162_21 pq162 rfl rfl ⟨_, rfl, h⟩
  · have h := h.2 c
    refine sg_ld f162_11 (v := .ref 47) rfl rfl ?_
    refine sg_ld f162_12 (v := .int x1) rfl rfl ?_
    refine sg_cV f162_13 (vs := [.int x1]) (r := 47) (rest := []) (en := [some (.ref 47), some (.int x1), none, none]) pq161 ⟨rfl, rfl⟩ rfl rfl rfl rfl rfl rfl h ?_
    rintro _ mi8 ml9 ⟨y7, rfl, h⟩
    refine sg_goto f162_16 ?_
    exact sg_iret f162_21 pq162 rfl rfl ⟨_, rfl, h⟩

/-! X7_coreNow ()J -/
theorem fe163 (pc : Nat) : gm_fetch 163 pc = gm_find pc cd_163 := rfl
set_option maxRecDepth 10000 in
theorem f163_0 : gm_fetch 163 0 = some (1, .aload_n 0, 0, 0, 0, 0) := (fe163 0).trans rfl
set_option maxRecDepth 10000 in
theorem f163_1 : gm_fetch 163 1 = some (4, .invokevirtual 180, 185, 145, 0, 0) := (fe163 1).trans rfl
set_option maxRecDepth 10000 in
theorem f163_4 : gm_fetch 163 4 = some (7, .ifCond .eq 5, 0, 9, 0, 0) := (fe163 4).trans rfl
set_option maxRecDepth 10000 in
theorem f163_7 : gm_fetch 163 7 = some (8, .lconst 0, 0, 0, 0, 0) := (fe163 7).trans rfl
set_option maxRecDepth 10000 in
theorem f163_8 : gm_fetch 163 8 = some (9, .lreturn, 0, 0, 0, 0) := (fe163 8).trans rfl
set_option maxRecDepth 10000 in
theorem f163_9 : gm_fetch 163 9 = some (10, .lconst 0, 0, 0, 0, 0) := (fe163 9).trans rfl
set_option maxRecDepth 10000 in
theorem f163_10 : gm_fetch 163 10 = some (11, .lstore_n 1, 0, 0, 0, 0) := (fe163 10).trans rfl
set_option maxRecDepth 10000 in
theorem f163_11 : gm_fetch 163 11 = some (12, .lconst 0, 0, 0, 0, 0) := (fe163 11).trans rfl
set_option maxRecDepth 10000 in
theorem f163_12 : gm_fetch 163 12 = some (13, .lstore_n 3, 0, 0, 0, 0) := (fe163 12).trans rfl
set_option maxRecDepth 10000 in
theorem f163_13 : gm_fetch 163 13 = some (14, .iconst 0, 0, 0, 0, 0) := (fe163 13).trans rfl
set_option maxRecDepth 10000 in
theorem f163_14 : gm_fetch 163 14 = some (16, .istore 5, 0, 0, 0, 0) := (fe163 14).trans rfl
set_option maxRecDepth 10000 in
theorem f163_16 : gm_fetch 163 16 = some (18, .iload 5, 0, 0, 0, 0) := (fe163 16).trans rfl
set_option maxRecDepth 10000 in
theorem f163_18 : gm_fetch 163 18 = some (19, .aload_n 0, 0, 0, 0, 0) := (fe163 18).trans rfl
set_option maxRecDepth 10000 in
theorem f163_19 : gm_fetch 163 19 = some (22, .getfield 77, 89, 7, 5, 0) := (fe163 19).trans rfl
set_option maxRecDepth 10000 in
theorem f163_22 : gm_fetch 163 22 = some (23, .aload_n 0, 0, 0, 0, 0) := (fe163 22).trans rfl
set_option maxRecDepth 10000 in
theorem f163_23 : gm_fetch 163 23 = some (26, .getfield 81, 90, 7, 6, 0) := (fe163 23).trans rfl
set_option maxRecDepth 10000 in
theorem f163_26 : gm_fetch 163 26 = some (27, .imul, 0, 0, 0, 0) := (fe163 26).trans rfl
set_option maxRecDepth 10000 in
theorem f163_27 : gm_fetch 163 27 = some (30, .if_icmp .ge 116, 0, 143, 0, 0) := (fe163 27).trans rfl
set_option maxRecDepth 10000 in
theorem f163_30 : gm_fetch 163 30 = some (32, .iload 5, 0, 0, 0, 0) := (fe163 30).trans rfl
set_option maxRecDepth 10000 in
theorem f163_32 : gm_fetch 163 32 = some (33, .aload_n 0, 0, 0, 0, 0) := (fe163 32).trans rfl
set_option maxRecDepth 10000 in
theorem f163_33 : gm_fetch 163 33 = some (36, .getfield 81, 90, 7, 6, 0) := (fe163 33).trans rfl
set_option maxRecDepth 10000 in
theorem f163_36 : gm_fetch 163 36 = some (37, .irem, 0, 0, 0, 0) := (fe163 36).trans rfl
set_option maxRecDepth 10000 in
theorem f163_37 : gm_fetch 163 37 = some (39, .istore 6, 0, 0, 0, 0) := (fe163 37).trans rfl
set_option maxRecDepth 10000 in
theorem f163_39 : gm_fetch 163 39 = some (41, .iload 5, 0, 0, 0, 0) := (fe163 39).trans rfl
set_option maxRecDepth 10000 in
theorem f163_41 : gm_fetch 163 41 = some (42, .aload_n 0, 0, 0, 0, 0) := (fe163 41).trans rfl
set_option maxRecDepth 10000 in
theorem f163_42 : gm_fetch 163 42 = some (45, .getfield 81, 90, 7, 6, 0) := (fe163 42).trans rfl
set_option maxRecDepth 10000 in
theorem f163_45 : gm_fetch 163 45 = some (46, .idiv, 0, 0, 0, 0) := (fe163 45).trans rfl
set_option maxRecDepth 10000 in
theorem f163_46 : gm_fetch 163 46 = some (48, .istore 7, 0, 0, 0, 0) := (fe163 46).trans rfl
set_option maxRecDepth 10000 in
theorem f163_48 : gm_fetch 163 48 = some (49, .aload_n 0, 0, 0, 0, 0) := (fe163 48).trans rfl
set_option maxRecDepth 10000 in
theorem f163_49 : gm_fetch 163 49 = some (52, .getfield 22, 94, 7, 10, 0) := (fe163 49).trans rfl
set_option maxRecDepth 10000 in
theorem f163_52 : gm_fetch 163 52 = some (54, .iload 7, 0, 0, 0, 0) := (fe163 52).trans rfl
set_option maxRecDepth 10000 in
theorem f163_54 : gm_fetch 163 54 = some (55, .iaload, 0, 0, 0, 0) := (fe163 54).trans rfl
set_option maxRecDepth 10000 in
theorem f163_55 : gm_fetch 163 55 = some (56, .i2l, 0, 0, 0, 0) := (fe163 55).trans rfl
set_option maxRecDepth 10000 in
theorem f163_56 : gm_fetch 163 56 = some (58, .iload 6, 0, 0, 0, 0) := (fe163 56).trans rfl
set_option maxRecDepth 10000 in
theorem f163_58 : gm_fetch 163 58 = some (61, .invokestatic 97, 176, 116, 0, 0) := (fe163 58).trans rfl
set_option maxRecDepth 10000 in
theorem f163_61 : gm_fetch 163 61 = some (64, .ifCond .eq 76, 0, 137, 0, 0) := (fe163 61).trans rfl
set_option maxRecDepth 10000 in
theorem f163_64 : gm_fetch 163 64 = some (65, .aload_n 0, 0, 0, 0, 0) := (fe163 64).trans rfl
set_option maxRecDepth 10000 in
theorem f163_65 : gm_fetch 163 65 = some (67, .iload 6, 0, 0, 0, 0) := (fe163 65).trans rfl
set_option maxRecDepth 10000 in
theorem f163_67 : gm_fetch 163 67 = some (69, .iload 7, 0, 0, 0, 0) := (fe163 67).trans rfl
set_option maxRecDepth 10000 in
theorem f163_69 : gm_fetch 163 69 = some (70, .iconst 0, 0, 0, 0, 0) := (fe163 69).trans rfl
set_option maxRecDepth 10000 in
theorem f163_70 : gm_fetch 163 70 = some (73, .invokevirtual 154, 178, 137, 0, 0) := (fe163 70).trans rfl
set_option maxRecDepth 10000 in
theorem f163_73 : gm_fetch 163 73 = some (74, .aload_n 0, 0, 0, 0, 0) := (fe163 73).trans rfl
set_option maxRecDepth 10000 in
theorem f163_74 : gm_fetch 163 74 = some (77, .invokevirtual 180, 185, 145, 0, 0) := (fe163 74).trans rfl
set_option maxRecDepth 10000 in
theorem f163_77 : gm_fetch 163 77 = some (80, .ifCond .ne 7, 0, 84, 0, 0) := (fe163 77).trans rfl
set_option maxRecDepth 10000 in
theorem f163_80 : gm_fetch 163 80 = some (81, .iconst 1, 0, 0, 0, 0) := (fe163 80).trans rfl
set_option maxRecDepth 10000 in
theorem f163_81 : gm_fetch 163 81 = some (84, .goto 4, 0, 85, 0, 0) := (fe163 81).trans rfl
set_option maxRecDepth 10000 in
theorem f163_84 : gm_fetch 163 84 = some (85, .iconst 0, 0, 0, 0, 0) := (fe163 84).trans rfl
set_option maxRecDepth 10000 in
theorem f163_85 : gm_fetch 163 85 = some (87, .istore 8, 0, 0, 0, 0) := (fe163 85).trans rfl
set_option maxRecDepth 10000 in
theorem f163_87 : gm_fetch 163 87 = some (88, .lload_n 3, 0, 0, 0, 0) := (fe163 87).trans rfl
set_option maxRecDepth 10000 in
theorem f163_88 : gm_fetch 163 88 = some (90, .iload 8, 0, 0, 0, 0) := (fe163 88).trans rfl
set_option maxRecDepth 10000 in
theorem f163_90 : gm_fetch 163 90 = some (93, .ifCond .eq 10, 0, 100, 0, 0) := (fe163 90).trans rfl
set_option maxRecDepth 10000 in
theorem f163_93 : gm_fetch 163 93 = some (94, .lconst 1, 0, 0, 0, 0) := (fe163 93).trans rfl
set_option maxRecDepth 10000 in
theorem f163_94 : gm_fetch 163 94 = some (96, .iload 5, 0, 0, 0, 0) := (fe163 94).trans rfl
set_option maxRecDepth 10000 in
theorem f163_96 : gm_fetch 163 96 = some (97, .lshl, 0, 0, 0, 0) := (fe163 96).trans rfl
set_option maxRecDepth 10000 in
theorem f163_97 : gm_fetch 163 97 = some (100, .goto 4, 0, 101, 0, 0) := (fe163 97).trans rfl
set_option maxRecDepth 10000 in
theorem f163_100 : gm_fetch 163 100 = some (101, .lconst 0, 0, 0, 0, 0) := (fe163 100).trans rfl
set_option maxRecDepth 10000 in
theorem f163_101 : gm_fetch 163 101 = some (102, .lor, 0, 0, 0, 0) := (fe163 101).trans rfl
set_option maxRecDepth 10000 in
theorem f163_102 : gm_fetch 163 102 = some (103, .lstore_n 3, 0, 0, 0, 0) := (fe163 102).trans rfl
set_option maxRecDepth 10000 in
theorem f163_103 : gm_fetch 163 103 = some (104, .lload_n 1, 0, 0, 0, 0) := (fe163 103).trans rfl
set_option maxRecDepth 10000 in
theorem f163_104 : gm_fetch 163 104 = some (106, .iload 8, 0, 0, 0, 0) := (fe163 104).trans rfl
set_option maxRecDepth 10000 in
theorem f163_106 : gm_fetch 163 106 = some (109, .ifCond .eq 7, 0, 113, 0, 0) := (fe163 106).trans rfl
set_option maxRecDepth 10000 in
theorem f163_109 : gm_fetch 163 109 = some (110, .lconst 0, 0, 0, 0, 0) := (fe163 109).trans rfl
set_option maxRecDepth 10000 in
theorem f163_110 : gm_fetch 163 110 = some (113, .goto 7, 0, 117, 0, 0) := (fe163 110).trans rfl
set_option maxRecDepth 10000 in
theorem f163_113 : gm_fetch 163 113 = some (114, .lconst 1, 0, 0, 0, 0) := (fe163 113).trans rfl
set_option maxRecDepth 10000 in
theorem f163_114 : gm_fetch 163 114 = some (116, .iload 5, 0, 0, 0, 0) := (fe163 114).trans rfl
set_option maxRecDepth 10000 in
theorem f163_116 : gm_fetch 163 116 = some (117, .lshl, 0, 0, 0, 0) := (fe163 116).trans rfl
set_option maxRecDepth 10000 in
theorem f163_117 : gm_fetch 163 117 = some (118, .lor, 0, 0, 0, 0) := (fe163 117).trans rfl
set_option maxRecDepth 10000 in
theorem f163_118 : gm_fetch 163 118 = some (119, .lstore_n 1, 0, 0, 0, 0) := (fe163 118).trans rfl
set_option maxRecDepth 10000 in
theorem f163_119 : gm_fetch 163 119 = some (120, .aload_n 0, 0, 0, 0, 0) := (fe163 119).trans rfl
set_option maxRecDepth 10000 in
theorem f163_120 : gm_fetch 163 120 = some (122, .iload 6, 0, 0, 0, 0) := (fe163 120).trans rfl
set_option maxRecDepth 10000 in
theorem f163_122 : gm_fetch 163 122 = some (124, .iload 7, 0, 0, 0, 0) := (fe163 122).trans rfl
set_option maxRecDepth 10000 in
theorem f163_124 : gm_fetch 163 124 = some (126, .iload 8, 0, 0, 0, 0) := (fe163 124).trans rfl
set_option maxRecDepth 10000 in
theorem f163_126 : gm_fetch 163 126 = some (129, .ifCond .ne 7, 0, 133, 0, 0) := (fe163 126).trans rfl
set_option maxRecDepth 10000 in
theorem f163_129 : gm_fetch 163 129 = some (130, .iconst 1, 0, 0, 0, 0) := (fe163 129).trans rfl
set_option maxRecDepth 10000 in
theorem f163_130 : gm_fetch 163 130 = some (133, .goto 4, 0, 134, 0, 0) := (fe163 130).trans rfl
set_option maxRecDepth 10000 in
theorem f163_133 : gm_fetch 163 133 = some (134, .iconst 0, 0, 0, 0, 0) := (fe163 133).trans rfl
set_option maxRecDepth 10000 in
theorem f163_134 : gm_fetch 163 134 = some (137, .invokevirtual 154, 178, 137, 0, 0) := (fe163 134).trans rfl
set_option maxRecDepth 10000 in
theorem f163_137 : gm_fetch 163 137 = some (140, .iinc 5 1, 0, 0, 0, 0) := (fe163 137).trans rfl
set_option maxRecDepth 10000 in
theorem f163_140 : gm_fetch 163 140 = some (143, .goto (-124), 0, 16, 0, 0) := (fe163 140).trans rfl
set_option maxRecDepth 10000 in
theorem f163_143 : gm_fetch 163 143 = some (144, .iconst 0, 0, 0, 0, 0) := (fe163 143).trans rfl
set_option maxRecDepth 10000 in
theorem f163_144 : gm_fetch 163 144 = some (146, .istore 5, 0, 0, 0, 0) := (fe163 144).trans rfl
set_option maxRecDepth 10000 in
theorem f163_146 : gm_fetch 163 146 = some (148, .iload 5, 0, 0, 0, 0) := (fe163 146).trans rfl
set_option maxRecDepth 10000 in
theorem f163_148 : gm_fetch 163 148 = some (149, .aload_n 0, 0, 0, 0, 0) := (fe163 148).trans rfl
set_option maxRecDepth 10000 in
theorem f163_149 : gm_fetch 163 149 = some (152, .getfield 77, 89, 7, 5, 0) := (fe163 149).trans rfl
set_option maxRecDepth 10000 in
theorem f163_152 : gm_fetch 163 152 = some (153, .aload_n 0, 0, 0, 0, 0) := (fe163 152).trans rfl
set_option maxRecDepth 10000 in
theorem f163_153 : gm_fetch 163 153 = some (156, .getfield 81, 90, 7, 6, 0) := (fe163 153).trans rfl
set_option maxRecDepth 10000 in
theorem f163_156 : gm_fetch 163 156 = some (157, .imul, 0, 0, 0, 0) := (fe163 156).trans rfl
set_option maxRecDepth 10000 in
theorem f163_157 : gm_fetch 163 157 = some (160, .if_icmp .ge 35, 0, 192, 0, 0) := (fe163 157).trans rfl
set_option maxRecDepth 10000 in
theorem f163_160 : gm_fetch 163 160 = some (161, .aload_n 0, 0, 0, 0, 0) := (fe163 160).trans rfl
set_option maxRecDepth 10000 in
theorem f163_161 : gm_fetch 163 161 = some (163, .iload 5, 0, 0, 0, 0) := (fe163 161).trans rfl
set_option maxRecDepth 10000 in
theorem f163_163 : gm_fetch 163 163 = some (164, .aload_n 0, 0, 0, 0, 0) := (fe163 163).trans rfl
set_option maxRecDepth 10000 in
theorem f163_164 : gm_fetch 163 164 = some (167, .getfield 81, 90, 7, 6, 0) := (fe163 164).trans rfl
set_option maxRecDepth 10000 in
theorem f163_167 : gm_fetch 163 167 = some (168, .irem, 0, 0, 0, 0) := (fe163 167).trans rfl
set_option maxRecDepth 10000 in
theorem f163_168 : gm_fetch 163 168 = some (170, .iload 5, 0, 0, 0, 0) := (fe163 168).trans rfl
set_option maxRecDepth 10000 in
theorem f163_170 : gm_fetch 163 170 = some (171, .aload_n 0, 0, 0, 0, 0) := (fe163 170).trans rfl
set_option maxRecDepth 10000 in
theorem f163_171 : gm_fetch 163 171 = some (174, .getfield 81, 90, 7, 6, 0) := (fe163 171).trans rfl
set_option maxRecDepth 10000 in
theorem f163_174 : gm_fetch 163 174 = some (175, .idiv, 0, 0, 0, 0) := (fe163 174).trans rfl
set_option maxRecDepth 10000 in
theorem f163_175 : gm_fetch 163 175 = some (176, .lload_n 3, 0, 0, 0, 0) := (fe163 175).trans rfl
set_option maxRecDepth 10000 in
theorem f163_176 : gm_fetch 163 176 = some (177, .lload_n 1, 0, 0, 0, 0) := (fe163 176).trans rfl
set_option maxRecDepth 10000 in
theorem f163_177 : gm_fetch 163 177 = some (178, .lor, 0, 0, 0, 0) := (fe163 177).trans rfl
set_option maxRecDepth 10000 in
theorem f163_178 : gm_fetch 163 178 = some (180, .iload 5, 0, 0, 0, 0) := (fe163 178).trans rfl
set_option maxRecDepth 10000 in
theorem f163_180 : gm_fetch 163 180 = some (183, .invokestatic 97, 176, 116, 0, 0) := (fe163 180).trans rfl
set_option maxRecDepth 10000 in
theorem f163_183 : gm_fetch 163 183 = some (186, .invokevirtual 154, 178, 137, 0, 0) := (fe163 183).trans rfl
set_option maxRecDepth 10000 in
theorem f163_186 : gm_fetch 163 186 = some (189, .iinc 5 1, 0, 0, 0, 0) := (fe163 186).trans rfl
set_option maxRecDepth 10000 in
theorem f163_189 : gm_fetch 163 189 = some (192, .goto (-43), 0, 146, 0, 0) := (fe163 189).trans rfl
set_option maxRecDepth 10000 in
theorem f163_192 : gm_fetch 163 192 = some (193, .lload_n 1, 0, 0, 0, 0) := (fe163 192).trans rfl
set_option maxRecDepth 10000 in
theorem f163_193 : gm_fetch 163 193 = some (194, .lreturn, 0, 0, 0, 0) := (fe163 193).trans rfl
set_option maxRecDepth 10000 in
theorem rg163_0 {mi : Mi} {ml : Ml} {F : Int64 → Mi → Ml → Prop}   (h : Sg 145 0 [some (.ref 47)] [] mi ml (qi fun y1 mi2 ml3 => ((y1 = 0) → Sg 163 16 [some (.ref 47), some (.long 0), none, some (.long 0), none, some (.int 0), none, none, none] [] mi2 ml3 (ql F)) ∧ (¬ (y1 = 0) → F 0 mi2 ml3))) : Sg 163 0 [some (.ref 47), none, none, none, none, none, none, none, none] [] mi ml (ql F) := by
  refine sg_ld f163_0 (v := .ref 47) rfl rfl ?_
  refine sg_cV f163_1 (vs := []) (r := 47) (rest := []) (en := [some (.ref 47)]) pq145 ⟨rfl, rfl⟩ rfl rfl rfl rfl rfl rfl h ?_
  rintro _ mi2 ml3 ⟨y1, rfl, h⟩
  refine sg_if f163_4 (fun c => ?_) (fun c => ?_)
  · have h := h.1 c
    refine sg_psh f163_9 (v := .long 0) (by decide) ?_
    refine sg_st2 f163_10 (ls' := [some (.ref 47), some (.long 0), none, none, none, none, none, none, none]) rfl rfl rfl ?_
    refine sg_psh f163_11 (v := .long 0) (by decide) ?_
    refine sg_st2 f163_12 (ls' := [some (.ref 47), some (.long 0), none, some (.long 0), none, none, none, none, none]) rfl rfl rfl ?_
    refine sg_psh f163_13 (v := .int 0) (by decide) ?_
    refine sg_st1 f163_14 (ls' := [some (.ref 47), some (.long 0), none, some (.long 0), none, some (.int 0), none, none, none]) rfl rfl rfl rfl ?_
    exact h
  · have h := h.2 c
    refine sg_psh f163_7 (v := .long 0) (by decide) ?_
    exact sg_lret f163_8 pq163 rfl ⟨_, rfl, h⟩

set_option maxRecDepth 10000 in
theorem rg163_16 {mi : Mi} {ml : Ml} {F : Int64 → Mi → Ml → Prop} {x1 : Int64} {x3 : Int64} {x5 : Int32}  (h : ((((mi 47 5) * (mi 47 6)) ≤ x5) → Sg 163 146 [some (.ref 47), some (.long x1), none, some (.long x3), none, some (.int 0), none, none, none] [] mi ml (ql F)) ∧ (¬ (((mi 47 5) * (mi 47 6)) ≤ x5) → (¬ (mi 47 6) = 0) ∧ ((vp_in (x5 / (mi 47 6)) 7) ∧ (Sg 116 0 [some (.long (Int32.toInt64 (mi 52 (Int32.toNatClampNeg (x5 / (mi 47 6)))))), none, some (.int (x5 - x5 / (mi 47 6) * (mi 47 6)))] [] mi ml (qi fun y3 mi4 ml5 => ((y3 = 0) → Sg 163 16 [some (.ref 47), some (.long x1), none, some (.long x3), none, some (.int (x5 + 1)), none, none, none] [] mi4 ml5 (ql F)) ∧ (¬ (y3 = 0) → Sg 137 0 [some (.ref 47), some (.int (x5 - x5 / (mi 47 6) * (mi 47 6))), some (.int (x5 / (mi 47 6))), some (.int 0)] [] mi4 ml5 (qv fun mi7 ml8 => Sg 145 0 [some (.ref 47)] [] mi7 ml8 (qi fun y9 mi10 ml11 => ((¬ y9 = 0) → Sg 163 85 [some (.ref 47), some (.long x1), none, some (.long x3), none, some (.int x5), some (.int (x5 - x5 / (mi 47 6) * (mi 47 6))), some (.int (x5 / (mi 47 6))), none] [.int 0] mi10 ml11 (ql F)) ∧ (¬ (¬ y9 = 0) → Sg 163 85 [some (.ref 47), some (.long x1), none, some (.long x3), none, some (.int x5), some (.int (x5 - x5 / (mi 47 6) * (mi 47 6))), some (.int (x5 / (mi 47 6))), none] [.int 1] mi10 ml11 (ql F)))))))))) : Sg 163 16 [some (.ref 47), some (.long x1), none, some (.long x3), none, some (.int x5), none, none, none] [] mi ml (ql F) := by
  refine sg_ld f163_16 (v := .int x5) rfl rfl ?_
  refine sg_ld f163_18 (v := .ref 47) rfl rfl ?_
  refine sg_geti f163_19 rfl rfl (x := (mi 47 5)) rfl ?_
  refine sg_ld f163_22 (v := .ref 47) rfl rfl ?_
  refine sg_geti f163_23 rfl rfl (x := (mi 47 6)) rfl ?_
  refine sg_bin f163_26 rfl ?_
  refine sg_icmp f163_27 (fun c => ?_) (fun c => ?_)
  · have h := h.1 c
    refine sg_psh f163_143 (v := .int 0) (by decide) ?_
    refine sg_st1 f163_144 (ls' := [some (.ref 47), some (.long x1), none, some (.long x3), none, some (.int 0), none, none, none]) rfl rfl rfl rfl ?_
    exact h
  · have h := h.2 c
    refine sg_ld f163_30 (v := .int x5) rfl rfl ?_
    refine sg_ld f163_32 (v := .ref 47) rfl rfl ?_
    refine sg_geti f163_33 rfl rfl (x := (mi 47 6)) rfl ?_
    obtain ⟨e1, h⟩ := h
    refine sg_rem f163_36 e1 ?_
    refine sg_st1 f163_37 (ls' := [some (.ref 47), some (.long x1), none, some (.long x3), none, some (.int x5), some (.int (x5 - x5 / (mi 47 6) * (mi 47 6))), none, none]) rfl rfl rfl rfl ?_
    refine sg_ld f163_39 (v := .int x5) rfl rfl ?_
    refine sg_ld f163_41 (v := .ref 47) rfl rfl ?_
    refine sg_geti f163_42 rfl rfl (x := (mi 47 6)) rfl ?_
    refine sg_div f163_45 e1 ?_
    refine sg_st1 f163_46 (ls' := [some (.ref 47), some (.long x1), none, some (.long x3), none, some (.int x5), some (.int (x5 - x5 / (mi 47 6) * (mi 47 6))), some (.int (x5 / (mi 47 6))), none]) rfl rfl rfl rfl ?_
    refine sg_ld f163_48 (v := .ref 47) rfl rfl ?_
    refine sg_getr f163_49 rfl rfl (w := 52) rfl ?_
    refine sg_ld f163_52 (v := .int (x5 / (mi 47 6))) rfl rfl ?_
    obtain ⟨e2, h⟩ := h
    refine sg_iald f163_54 rfl e2 (x := (mi 52 (Int32.toNatClampNeg (x5 / (mi 47 6))))) rfl ?_
    refine sg_i2l f163_55 ?_
    refine sg_ld f163_56 (v := .int (x5 - x5 / (mi 47 6) * (mi 47 6))) rfl rfl ?_
    refine sg_cS f163_58 (vs := [.long (Int32.toInt64 (mi 52 (Int32.toNatClampNeg (x5 / (mi 47 6))))), .int (x5 - x5 / (mi 47 6) * (mi 47 6))]) (rest := []) (en := [some (.long (Int32.toInt64 (mi 52 (Int32.toNatClampNeg (x5 / (mi 47 6)))))), none, some (.int (x5 - x5 / (mi 47 6) * (mi 47 6)))]) (by decide) pq116 ⟨rfl, rfl⟩ rfl rfl rfl rfl rfl h ?_
    rintro _ mi4 ml5 ⟨y3, rfl, h⟩
    refine sg_if f163_61 (fun c => ?_) (fun c => ?_)
    · have h := h.1 c
      refine sg_inc f163_137 (d := 1) (ls' := [some (.ref 47), some (.long x1), none, some (.long x3), none, some (.int (x5 + 1)), some (.int (x5 - x5 / (mi 47 6) * (mi 47 6))), some (.int (x5 / (mi 47 6))), none]) rfl (by decide) rfl ?_
      refine sg_goto f163_140 ?_
      exact sg_drop [6, 7] rfl h
    · have h := h.2 c
      refine sg_ld f163_64 (v := .ref 47) rfl rfl ?_
      refine sg_ld f163_65 (v := .int (x5 - x5 / (mi 47 6) * (mi 47 6))) rfl rfl ?_
      refine sg_ld f163_67 (v := .int (x5 / (mi 47 6))) rfl rfl ?_
      refine sg_psh f163_69 (v := .int 0) (by decide) ?_
      refine sg_cV f163_70 (vs := [.int (x5 - x5 / (mi 47 6) * (mi 47 6)), .int (x5 / (mi 47 6)), .int 0]) (r := 47) (rest := []) (en := [some (.ref 47), some (.int (x5 - x5 / (mi 47 6) * (mi 47 6))), some (.int (x5 / (mi 47 6))), some (.int 0)]) pq137 ⟨rfl, rfl⟩ rfl rfl rfl rfl rfl rfl h ?_
      intro _ mi7 ml8 h
      have h := gm_qv h
      refine sg_ld f163_73 (v := .ref 47) rfl rfl ?_
      refine sg_cV f163_74 (vs := []) (r := 47) (rest := []) (en := [some (.ref 47)]) pq145 ⟨rfl, rfl⟩ rfl rfl rfl rfl rfl rfl h ?_
      rintro _ mi10 ml11 ⟨y9, rfl, h⟩
      refine sg_if f163_77 (fun c => ?_) (fun c => ?_)
      · have h := h.1 c
        refine sg_psh f163_84 (v := .int 0) (by decide) ?_
        exact h
      · have h := h.2 c
        refine sg_psh f163_80 (v := .int 1) (by decide) ?_
        refine sg_goto f163_81 ?_
        exact h

set_option maxRecDepth 10000 in
theorem rg163_85 {mi : Mi} {ml : Ml} {F : Int64 → Mi → Ml → Prop} {x1 : Int64} {x3 : Int64} {x5 : Int32} {x6 : Int32} {x7 : Int32} {s0 : Int32}  (h : ((s0 = 0) → Sg 163 101 [some (.ref 47), some (.long x1), none, some (.long x3), none, some (.int x5), some (.int x6), some (.int x7), some (.int s0)] [.long 0, .long x3] mi ml (ql F)) ∧ (¬ (s0 = 0) → Sg 163 101 [some (.ref 47), some (.long x1), none, some (.long x3), none, some (.int x5), some (.int x6), some (.int x7), some (.int s0)] [.long (lshl 1 x5), .long x3] mi ml (ql F))) : Sg 163 85 [some (.ref 47), some (.long x1), none, some (.long x3), none, some (.int x5), some (.int x6), some (.int x7), none] [.int s0] mi ml (ql F) := by
  refine sg_st1 f163_85 (ls' := [some (.ref 47), some (.long x1), none, some (.long x3), none, some (.int x5), some (.int x6), some (.int x7), some (.int s0)]) rfl rfl rfl rfl ?_
  refine sg_ld f163_87 (v := .long x3) rfl rfl ?_
  refine sg_ld f163_88 (v := .int s0) rfl rfl ?_
  refine sg_if f163_90 (fun c => ?_) (fun c => ?_)
  · have h := h.1 c
    refine sg_psh f163_100 (v := .long 0) (by decide) ?_
    exact h
  · have h := h.2 c
    refine sg_psh f163_93 (v := .long 1) (by decide) ?_
    refine sg_ld f163_94 (v := .int x5) rfl rfl ?_
    refine sg_shl f163_96 rfl ?_
    refine sg_goto f163_97 ?_
    exact h

set_option maxRecDepth 10000 in
theorem rg163_101 {mi : Mi} {ml : Ml} {F : Int64 → Mi → Ml → Prop} {x1 : Int64} {x3 : Int64} {x5 : Int32} {x6 : Int32} {x7 : Int32} {x8 : Int32} {s0 : Int64} {s1 : Int64}  (h : ((x8 = 0) → Sg 163 117 [some (.ref 47), some (.long x1), none, some (.long (s1 ||| s0)), none, some (.int x5), some (.int x6), some (.int x7), some (.int x8)] [.long (lshl 1 x5), .long x1] mi ml (ql F)) ∧ (¬ (x8 = 0) → Sg 163 117 [some (.ref 47), some (.long x1), none, some (.long (s1 ||| s0)), none, some (.int x5), some (.int x6), some (.int x7), some (.int x8)] [.long 0, .long x1] mi ml (ql F))) : Sg 163 101 [some (.ref 47), some (.long x1), none, some (.long x3), none, some (.int x5), some (.int x6), some (.int x7), some (.int x8)] [.long s0, .long s1] mi ml (ql F) := by
  refine sg_binl f163_101 rfl ?_
  refine sg_st2 f163_102 (ls' := [some (.ref 47), some (.long x1), none, some (.long (s1 ||| s0)), none, some (.int x5), some (.int x6), some (.int x7), some (.int x8)]) rfl rfl rfl ?_
  refine sg_ld f163_103 (v := .long x1) rfl rfl ?_
  refine sg_ld f163_104 (v := .int x8) rfl rfl ?_
  refine sg_if f163_106 (fun c => ?_) (fun c => ?_)
  · have h := h.1 c
    refine sg_psh f163_113 (v := .long 1) (by decide) ?_
    refine sg_ld f163_114 (v := .int x5) rfl rfl ?_
    refine sg_shl f163_116 rfl ?_
    exact h
  · have h := h.2 c
    refine sg_psh f163_109 (v := .long 0) (by decide) ?_
    refine sg_goto f163_110 ?_
    exact h

set_option maxRecDepth 10000 in
theorem rg163_117 {mi : Mi} {ml : Ml} {F : Int64 → Mi → Ml → Prop} {x1 : Int64} {x3 : Int64} {x5 : Int32} {x6 : Int32} {x7 : Int32} {x8 : Int32} {s0 : Int64} {s1 : Int64}  (h : ((¬ x8 = 0) → Sg 163 134 [some (.ref 47), some (.long (s1 ||| s0)), none, some (.long x3), none, some (.int x5), some (.int x6), some (.int x7), some (.int x8)] [.int 0, .int x7, .int x6, .ref 47] mi ml (ql F)) ∧ (¬ (¬ x8 = 0) → Sg 163 134 [some (.ref 47), some (.long (s1 ||| s0)), none, some (.long x3), none, some (.int x5), some (.int x6), some (.int x7), some (.int x8)] [.int 1, .int x7, .int x6, .ref 47] mi ml (ql F))) : Sg 163 117 [some (.ref 47), some (.long x1), none, some (.long x3), none, some (.int x5), some (.int x6), some (.int x7), some (.int x8)] [.long s0, .long s1] mi ml (ql F) := by
  refine sg_binl f163_117 rfl ?_
  refine sg_st2 f163_118 (ls' := [some (.ref 47), some (.long (s1 ||| s0)), none, some (.long x3), none, some (.int x5), some (.int x6), some (.int x7), some (.int x8)]) rfl rfl rfl ?_
  refine sg_ld f163_119 (v := .ref 47) rfl rfl ?_
  refine sg_ld f163_120 (v := .int x6) rfl rfl ?_
  refine sg_ld f163_122 (v := .int x7) rfl rfl ?_
  refine sg_ld f163_124 (v := .int x8) rfl rfl ?_
  refine sg_if f163_126 (fun c => ?_) (fun c => ?_)
  · have h := h.1 c
    refine sg_psh f163_133 (v := .int 0) (by decide) ?_
    exact h
  · have h := h.2 c
    refine sg_psh f163_129 (v := .int 1) (by decide) ?_
    refine sg_goto f163_130 ?_
    exact h

set_option maxRecDepth 10000 in
theorem rg163_134 {mi : Mi} {ml : Ml} {F : Int64 → Mi → Ml → Prop} {x1 : Int64} {x3 : Int64} {x5 : Int32} {x6 : Int32} {x7 : Int32} {x8 : Int32} {s0 : Int32} {s1 : Int32} {s2 : Int32}  (h : Sg 137 0 [some (.ref 47), some (.int s2), some (.int s1), some (.int s0)] [] mi ml (qv fun mi2 ml3 => Sg 163 16 [some (.ref 47), some (.long x1), none, some (.long x3), none, some (.int (x5 + 1)), none, none, none] [] mi2 ml3 (ql F))) : Sg 163 134 [some (.ref 47), some (.long x1), none, some (.long x3), none, some (.int x5), some (.int x6), some (.int x7), some (.int x8)] [.int s0, .int s1, .int s2, .ref 47] mi ml (ql F) := by
  refine sg_cV f163_134 (vs := [.int s2, .int s1, .int s0]) (r := 47) (rest := []) (en := [some (.ref 47), some (.int s2), some (.int s1), some (.int s0)]) pq137 ⟨rfl, rfl⟩ rfl rfl rfl rfl rfl rfl h ?_
  intro _ mi2 ml3 h
  have h := gm_qv h
  refine sg_inc f163_137 (d := 1) (ls' := [some (.ref 47), some (.long x1), none, some (.long x3), none, some (.int (x5 + 1)), some (.int x6), some (.int x7), some (.int x8)]) rfl (by decide) rfl ?_
  refine sg_goto f163_140 ?_
  exact sg_drop [6, 7, 8] rfl h

set_option maxRecDepth 10000 in
theorem rg163_146 {mi : Mi} {ml : Ml} {F : Int64 → Mi → Ml → Prop} {x1 : Int64} {x3 : Int64} {x5 : Int32}  (h : ((((mi 47 5) * (mi 47 6)) ≤ x5) → F x1 mi ml) ∧ (¬ (((mi 47 5) * (mi 47 6)) ≤ x5) → (¬ (mi 47 6) = 0) ∧ (Sg 116 0 [some (.long (x3 ||| x1)), none, some (.int x5)] [] mi ml (qi fun y2 mi3 ml4 => Sg 137 0 [some (.ref 47), some (.int (x5 - x5 / (mi 47 6) * (mi 47 6))), some (.int (x5 / (mi 47 6))), some (.int y2)] [] mi3 ml4 (qv fun mi6 ml7 => Sg 163 146 [some (.ref 47), some (.long x1), none, some (.long x3), none, some (.int (x5 + 1)), none, none, none] [] mi6 ml7 (ql F)))))) : Sg 163 146 [some (.ref 47), some (.long x1), none, some (.long x3), none, some (.int x5), none, none, none] [] mi ml (ql F) := by
  refine sg_ld f163_146 (v := .int x5) rfl rfl ?_
  refine sg_ld f163_148 (v := .ref 47) rfl rfl ?_
  refine sg_geti f163_149 rfl rfl (x := (mi 47 5)) rfl ?_
  refine sg_ld f163_152 (v := .ref 47) rfl rfl ?_
  refine sg_geti f163_153 rfl rfl (x := (mi 47 6)) rfl ?_
  refine sg_bin f163_156 rfl ?_
  refine sg_icmp f163_157 (fun c => ?_) (fun c => ?_)
  · have h := h.1 c
    refine sg_ld f163_192 (v := .long x1) rfl rfl ?_
    exact sg_lret f163_193 pq163 rfl ⟨_, rfl, h⟩
  · have h := h.2 c
    refine sg_ld f163_160 (v := .ref 47) rfl rfl ?_
    refine sg_ld f163_161 (v := .int x5) rfl rfl ?_
    refine sg_ld f163_163 (v := .ref 47) rfl rfl ?_
    refine sg_geti f163_164 rfl rfl (x := (mi 47 6)) rfl ?_
    obtain ⟨e1, h⟩ := h
    refine sg_rem f163_167 e1 ?_
    refine sg_ld f163_168 (v := .int x5) rfl rfl ?_
    refine sg_ld f163_170 (v := .ref 47) rfl rfl ?_
    refine sg_geti f163_171 rfl rfl (x := (mi 47 6)) rfl ?_
    refine sg_div f163_174 e1 ?_
    refine sg_ld f163_175 (v := .long x3) rfl rfl ?_
    refine sg_ld f163_176 (v := .long x1) rfl rfl ?_
    refine sg_binl f163_177 rfl ?_
    refine sg_ld f163_178 (v := .int x5) rfl rfl ?_
    refine sg_cS f163_180 (vs := [.long (x3 ||| x1), .int x5]) (rest := [.int (x5 / (mi 47 6)), .int (x5 - x5 / (mi 47 6) * (mi 47 6)), .ref 47]) (en := [some (.long (x3 ||| x1)), none, some (.int x5)]) (by decide) pq116 ⟨rfl, rfl⟩ rfl rfl rfl rfl rfl h ?_
    rintro _ mi3 ml4 ⟨y2, rfl, h⟩
    refine sg_cV f163_183 (vs := [.int (x5 - x5 / (mi 47 6) * (mi 47 6)), .int (x5 / (mi 47 6)), .int y2]) (r := 47) (rest := []) (en := [some (.ref 47), some (.int (x5 - x5 / (mi 47 6) * (mi 47 6))), some (.int (x5 / (mi 47 6))), some (.int y2)]) pq137 ⟨rfl, rfl⟩ rfl rfl rfl rfl rfl rfl h ?_
    intro _ mi6 ml7 h
    have h := gm_qv h
    refine sg_inc f163_186 (d := 1) (ls' := [some (.ref 47), some (.long x1), none, some (.long x3), none, some (.int (x5 + 1)), none, none, none]) rfl (by decide) rfl ?_
    refine sg_goto f163_189 ?_
    exact h

/-! X7_criticalNow ()J -/
theorem fe164 (pc : Nat) : gm_fetch 164 pc = gm_find pc cd_164 := rfl
theorem f164_0 : gm_fetch 164 0 = some (1, .aload_n 0, 0, 0, 0, 0) := (fe164 0).trans rfl
theorem f164_1 : gm_fetch 164 1 = some (4, .invokevirtual 180, 185, 145, 0, 0) := (fe164 1).trans rfl
theorem f164_4 : gm_fetch 164 4 = some (7, .ifCond .ne 5, 0, 9, 0, 0) := (fe164 4).trans rfl
theorem f164_7 : gm_fetch 164 7 = some (8, .lconst 0, 0, 0, 0, 0) := (fe164 7).trans rfl
theorem f164_8 : gm_fetch 164 8 = some (9, .lreturn, 0, 0, 0, 0) := (fe164 8).trans rfl
theorem f164_9 : gm_fetch 164 9 = some (10, .lconst 0, 0, 0, 0, 0) := (fe164 9).trans rfl
theorem f164_10 : gm_fetch 164 10 = some (11, .lstore_n 1, 0, 0, 0, 0) := (fe164 10).trans rfl
theorem f164_11 : gm_fetch 164 11 = some (12, .iconst 0, 0, 0, 0, 0) := (fe164 11).trans rfl
theorem f164_12 : gm_fetch 164 12 = some (13, .istore_n 3, 0, 0, 0, 0) := (fe164 12).trans rfl
theorem f164_13 : gm_fetch 164 13 = some (14, .iload_n 3, 0, 0, 0, 0) := (fe164 13).trans rfl
theorem f164_14 : gm_fetch 164 14 = some (15, .aload_n 0, 0, 0, 0, 0) := (fe164 14).trans rfl
theorem f164_15 : gm_fetch 164 15 = some (18, .getfield 77, 89, 7, 5, 0) := (fe164 15).trans rfl
theorem f164_18 : gm_fetch 164 18 = some (19, .aload_n 0, 0, 0, 0, 0) := (fe164 18).trans rfl
theorem f164_19 : gm_fetch 164 19 = some (22, .getfield 81, 90, 7, 6, 0) := (fe164 19).trans rfl
theorem f164_22 : gm_fetch 164 22 = some (23, .imul, 0, 0, 0, 0) := (fe164 22).trans rfl
theorem f164_23 : gm_fetch 164 23 = some (26, .if_icmp .ge 76, 0, 99, 0, 0) := (fe164 23).trans rfl
theorem f164_26 : gm_fetch 164 26 = some (27, .iload_n 3, 0, 0, 0, 0) := (fe164 26).trans rfl
theorem f164_27 : gm_fetch 164 27 = some (28, .aload_n 0, 0, 0, 0, 0) := (fe164 27).trans rfl
theorem f164_28 : gm_fetch 164 28 = some (31, .getfield 81, 90, 7, 6, 0) := (fe164 28).trans rfl
theorem f164_31 : gm_fetch 164 31 = some (32, .irem, 0, 0, 0, 0) := (fe164 31).trans rfl
theorem f164_32 : gm_fetch 164 32 = some (34, .istore 4, 0, 0, 0, 0) := (fe164 32).trans rfl
theorem f164_34 : gm_fetch 164 34 = some (35, .iload_n 3, 0, 0, 0, 0) := (fe164 34).trans rfl
theorem f164_35 : gm_fetch 164 35 = some (36, .aload_n 0, 0, 0, 0, 0) := (fe164 35).trans rfl
theorem f164_36 : gm_fetch 164 36 = some (39, .getfield 81, 90, 7, 6, 0) := (fe164 36).trans rfl
theorem f164_39 : gm_fetch 164 39 = some (40, .idiv, 0, 0, 0, 0) := (fe164 39).trans rfl
theorem f164_40 : gm_fetch 164 40 = some (42, .istore 5, 0, 0, 0, 0) := (fe164 40).trans rfl
theorem f164_42 : gm_fetch 164 42 = some (43, .aload_n 0, 0, 0, 0, 0) := (fe164 42).trans rfl
theorem f164_43 : gm_fetch 164 43 = some (46, .getfield 22, 94, 7, 10, 0) := (fe164 43).trans rfl
theorem f164_46 : gm_fetch 164 46 = some (48, .iload 5, 0, 0, 0, 0) := (fe164 46).trans rfl
theorem f164_48 : gm_fetch 164 48 = some (49, .iaload, 0, 0, 0, 0) := (fe164 48).trans rfl
theorem f164_49 : gm_fetch 164 49 = some (50, .i2l, 0, 0, 0, 0) := (fe164 49).trans rfl
theorem f164_50 : gm_fetch 164 50 = some (52, .iload 4, 0, 0, 0, 0) := (fe164 50).trans rfl
theorem f164_52 : gm_fetch 164 52 = some (55, .invokestatic 97, 176, 116, 0, 0) := (fe164 52).trans rfl
theorem f164_55 : gm_fetch 164 55 = some (58, .ifCond .ne 38, 0, 93, 0, 0) := (fe164 55).trans rfl
theorem f164_58 : gm_fetch 164 58 = some (59, .aload_n 0, 0, 0, 0, 0) := (fe164 58).trans rfl
theorem f164_59 : gm_fetch 164 59 = some (61, .iload 4, 0, 0, 0, 0) := (fe164 59).trans rfl
theorem f164_61 : gm_fetch 164 61 = some (63, .iload 5, 0, 0, 0, 0) := (fe164 61).trans rfl
theorem f164_63 : gm_fetch 164 63 = some (64, .iconst 1, 0, 0, 0, 0) := (fe164 63).trans rfl
theorem f164_64 : gm_fetch 164 64 = some (67, .invokevirtual 154, 178, 137, 0, 0) := (fe164 64).trans rfl
theorem f164_67 : gm_fetch 164 67 = some (68, .lload_n 1, 0, 0, 0, 0) := (fe164 67).trans rfl
theorem f164_68 : gm_fetch 164 68 = some (69, .aload_n 0, 0, 0, 0, 0) := (fe164 68).trans rfl
theorem f164_69 : gm_fetch 164 69 = some (72, .invokevirtual 180, 185, 145, 0, 0) := (fe164 69).trans rfl
theorem f164_72 : gm_fetch 164 72 = some (75, .ifCond .eq 7, 0, 79, 0, 0) := (fe164 72).trans rfl
theorem f164_75 : gm_fetch 164 75 = some (76, .lconst 0, 0, 0, 0, 0) := (fe164 75).trans rfl
theorem f164_76 : gm_fetch 164 76 = some (79, .goto 6, 0, 82, 0, 0) := (fe164 76).trans rfl
theorem f164_79 : gm_fetch 164 79 = some (80, .lconst 1, 0, 0, 0, 0) := (fe164 79).trans rfl
theorem f164_80 : gm_fetch 164 80 = some (81, .iload_n 3, 0, 0, 0, 0) := (fe164 80).trans rfl
theorem f164_81 : gm_fetch 164 81 = some (82, .lshl, 0, 0, 0, 0) := (fe164 81).trans rfl
theorem f164_82 : gm_fetch 164 82 = some (83, .lor, 0, 0, 0, 0) := (fe164 82).trans rfl
theorem f164_83 : gm_fetch 164 83 = some (84, .lstore_n 1, 0, 0, 0, 0) := (fe164 83).trans rfl
theorem f164_84 : gm_fetch 164 84 = some (85, .aload_n 0, 0, 0, 0, 0) := (fe164 84).trans rfl
theorem f164_85 : gm_fetch 164 85 = some (87, .iload 4, 0, 0, 0, 0) := (fe164 85).trans rfl
theorem f164_87 : gm_fetch 164 87 = some (89, .iload 5, 0, 0, 0, 0) := (fe164 87).trans rfl
theorem f164_89 : gm_fetch 164 89 = some (90, .iconst 0, 0, 0, 0, 0) := (fe164 89).trans rfl
theorem f164_90 : gm_fetch 164 90 = some (93, .invokevirtual 154, 178, 137, 0, 0) := (fe164 90).trans rfl
theorem f164_93 : gm_fetch 164 93 = some (96, .iinc 3 1, 0, 0, 0, 0) := (fe164 93).trans rfl
theorem f164_96 : gm_fetch 164 96 = some (99, .goto (-83), 0, 13, 0, 0) := (fe164 96).trans rfl
theorem f164_99 : gm_fetch 164 99 = some (100, .lload_n 1, 0, 0, 0, 0) := (fe164 99).trans rfl
theorem f164_100 : gm_fetch 164 100 = some (101, .lreturn, 0, 0, 0, 0) := (fe164 100).trans rfl
set_option maxRecDepth 10000 in
theorem rg164_0 {mi : Mi} {ml : Ml} {F : Int64 → Mi → Ml → Prop}   (h : Sg 145 0 [some (.ref 47)] [] mi ml (qi fun y1 mi2 ml3 => ((¬ y1 = 0) → Sg 164 13 [some (.ref 47), some (.long 0), none, some (.int 0), none, none] [] mi2 ml3 (ql F)) ∧ (¬ (¬ y1 = 0) → F 0 mi2 ml3))) : Sg 164 0 [some (.ref 47), none, none, none, none, none] [] mi ml (ql F) := by
  refine sg_ld f164_0 (v := .ref 47) rfl rfl ?_
  refine sg_cV f164_1 (vs := []) (r := 47) (rest := []) (en := [some (.ref 47)]) pq145 ⟨rfl, rfl⟩ rfl rfl rfl rfl rfl rfl h ?_
  rintro _ mi2 ml3 ⟨y1, rfl, h⟩
  refine sg_if f164_4 (fun c => ?_) (fun c => ?_)
  · have h := h.1 c
    refine sg_psh f164_9 (v := .long 0) (by decide) ?_
    refine sg_st2 f164_10 (ls' := [some (.ref 47), some (.long 0), none, none, none, none]) rfl rfl rfl ?_
    refine sg_psh f164_11 (v := .int 0) (by decide) ?_
    refine sg_st1 f164_12 (ls' := [some (.ref 47), some (.long 0), none, some (.int 0), none, none]) rfl rfl rfl rfl ?_
    exact h
  · have h := h.2 c
    refine sg_psh f164_7 (v := .long 0) (by decide) ?_
    exact sg_lret f164_8 pq164 rfl ⟨_, rfl, h⟩

set_option maxRecDepth 10000 in
theorem rg164_13 {mi : Mi} {ml : Ml} {F : Int64 → Mi → Ml → Prop} {x1 : Int64} {x3 : Int32}  (h : ((((mi 47 5) * (mi 47 6)) ≤ x3) → F x1 mi ml) ∧ (¬ (((mi 47 5) * (mi 47 6)) ≤ x3) → (¬ (mi 47 6) = 0) ∧ ((vp_in (x3 / (mi 47 6)) 7) ∧ (Sg 116 0 [some (.long (Int32.toInt64 (mi 52 (Int32.toNatClampNeg (x3 / (mi 47 6)))))), none, some (.int (x3 - x3 / (mi 47 6) * (mi 47 6)))] [] mi ml (qi fun y3 mi4 ml5 => ((¬ y3 = 0) → Sg 164 13 [some (.ref 47), some (.long x1), none, some (.int (x3 + 1)), none, none] [] mi4 ml5 (ql F)) ∧ (¬ (¬ y3 = 0) → Sg 137 0 [some (.ref 47), some (.int (x3 - x3 / (mi 47 6) * (mi 47 6))), some (.int (x3 / (mi 47 6))), some (.int 1)] [] mi4 ml5 (qv fun mi7 ml8 => Sg 145 0 [some (.ref 47)] [] mi7 ml8 (qi fun y9 mi10 ml11 => ((y9 = 0) → Sg 164 82 [some (.ref 47), some (.long x1), none, some (.int x3), some (.int (x3 - x3 / (mi 47 6) * (mi 47 6))), some (.int (x3 / (mi 47 6)))] [.long (lshl 1 x3), .long x1] mi10 ml11 (ql F)) ∧ (¬ (y9 = 0) → Sg 164 82 [some (.ref 47), some (.long x1), none, some (.int x3), some (.int (x3 - x3 / (mi 47 6) * (mi 47 6))), some (.int (x3 / (mi 47 6)))] [.long 0, .long x1] mi10 ml11 (ql F)))))))))) : Sg 164 13 [some (.ref 47), some (.long x1), none, some (.int x3), none, none] [] mi ml (ql F) := by
  refine sg_ld f164_13 (v := .int x3) rfl rfl ?_
  refine sg_ld f164_14 (v := .ref 47) rfl rfl ?_
  refine sg_geti f164_15 rfl rfl (x := (mi 47 5)) rfl ?_
  refine sg_ld f164_18 (v := .ref 47) rfl rfl ?_
  refine sg_geti f164_19 rfl rfl (x := (mi 47 6)) rfl ?_
  refine sg_bin f164_22 rfl ?_
  refine sg_icmp f164_23 (fun c => ?_) (fun c => ?_)
  · have h := h.1 c
    refine sg_ld f164_99 (v := .long x1) rfl rfl ?_
    exact sg_lret f164_100 pq164 rfl ⟨_, rfl, h⟩
  · have h := h.2 c
    refine sg_ld f164_26 (v := .int x3) rfl rfl ?_
    refine sg_ld f164_27 (v := .ref 47) rfl rfl ?_
    refine sg_geti f164_28 rfl rfl (x := (mi 47 6)) rfl ?_
    obtain ⟨e1, h⟩ := h
    refine sg_rem f164_31 e1 ?_
    refine sg_st1 f164_32 (ls' := [some (.ref 47), some (.long x1), none, some (.int x3), some (.int (x3 - x3 / (mi 47 6) * (mi 47 6))), none]) rfl rfl rfl rfl ?_
    refine sg_ld f164_34 (v := .int x3) rfl rfl ?_
    refine sg_ld f164_35 (v := .ref 47) rfl rfl ?_
    refine sg_geti f164_36 rfl rfl (x := (mi 47 6)) rfl ?_
    refine sg_div f164_39 e1 ?_
    refine sg_st1 f164_40 (ls' := [some (.ref 47), some (.long x1), none, some (.int x3), some (.int (x3 - x3 / (mi 47 6) * (mi 47 6))), some (.int (x3 / (mi 47 6)))]) rfl rfl rfl rfl ?_
    refine sg_ld f164_42 (v := .ref 47) rfl rfl ?_
    refine sg_getr f164_43 rfl rfl (w := 52) rfl ?_
    refine sg_ld f164_46 (v := .int (x3 / (mi 47 6))) rfl rfl ?_
    obtain ⟨e2, h⟩ := h
    refine sg_iald f164_48 rfl e2 (x := (mi 52 (Int32.toNatClampNeg (x3 / (mi 47 6))))) rfl ?_
    refine sg_i2l f164_49 ?_
    refine sg_ld f164_50 (v := .int (x3 - x3 / (mi 47 6) * (mi 47 6))) rfl rfl ?_
    refine sg_cS f164_52 (vs := [.long (Int32.toInt64 (mi 52 (Int32.toNatClampNeg (x3 / (mi 47 6))))), .int (x3 - x3 / (mi 47 6) * (mi 47 6))]) (rest := []) (en := [some (.long (Int32.toInt64 (mi 52 (Int32.toNatClampNeg (x3 / (mi 47 6)))))), none, some (.int (x3 - x3 / (mi 47 6) * (mi 47 6)))]) (by decide) pq116 ⟨rfl, rfl⟩ rfl rfl rfl rfl rfl h ?_
    rintro _ mi4 ml5 ⟨y3, rfl, h⟩
    refine sg_if f164_55 (fun c => ?_) (fun c => ?_)
    · have h := h.1 c
      refine sg_inc f164_93 (d := 1) (ls' := [some (.ref 47), some (.long x1), none, some (.int (x3 + 1)), some (.int (x3 - x3 / (mi 47 6) * (mi 47 6))), some (.int (x3 / (mi 47 6)))]) rfl (by decide) rfl ?_
      refine sg_goto f164_96 ?_
      exact sg_drop [4, 5] rfl h
    · have h := h.2 c
      refine sg_ld f164_58 (v := .ref 47) rfl rfl ?_
      refine sg_ld f164_59 (v := .int (x3 - x3 / (mi 47 6) * (mi 47 6))) rfl rfl ?_
      refine sg_ld f164_61 (v := .int (x3 / (mi 47 6))) rfl rfl ?_
      refine sg_psh f164_63 (v := .int 1) (by decide) ?_
      refine sg_cV f164_64 (vs := [.int (x3 - x3 / (mi 47 6) * (mi 47 6)), .int (x3 / (mi 47 6)), .int 1]) (r := 47) (rest := []) (en := [some (.ref 47), some (.int (x3 - x3 / (mi 47 6) * (mi 47 6))), some (.int (x3 / (mi 47 6))), some (.int 1)]) pq137 ⟨rfl, rfl⟩ rfl rfl rfl rfl rfl rfl h ?_
      intro _ mi7 ml8 h
      have h := gm_qv h
      refine sg_ld f164_67 (v := .long x1) rfl rfl ?_
      refine sg_ld f164_68 (v := .ref 47) rfl rfl ?_
      refine sg_cV f164_69 (vs := []) (r := 47) (rest := [.long x1]) (en := [some (.ref 47)]) pq145 ⟨rfl, rfl⟩ rfl rfl rfl rfl rfl rfl h ?_
      rintro _ mi10 ml11 ⟨y9, rfl, h⟩
      refine sg_if f164_72 (fun c => ?_) (fun c => ?_)
      · have h := h.1 c
        refine sg_psh f164_79 (v := .long 1) (by decide) ?_
        refine sg_ld f164_80 (v := .int x3) rfl rfl ?_
        refine sg_shl f164_81 rfl ?_
        exact h
      · have h := h.2 c
        refine sg_psh f164_75 (v := .long 0) (by decide) ?_
        refine sg_goto f164_76 ?_
        exact h

set_option maxRecDepth 10000 in
theorem rg164_82 {mi : Mi} {ml : Ml} {F : Int64 → Mi → Ml → Prop} {x1 : Int64} {x3 : Int32} {x4 : Int32} {x5 : Int32} {s0 : Int64} {s1 : Int64}  (h : Sg 137 0 [some (.ref 47), some (.int x4), some (.int x5), some (.int 0)] [] mi ml (qv fun mi2 ml3 => Sg 164 13 [some (.ref 47), some (.long (s1 ||| s0)), none, some (.int (x3 + 1)), none, none] [] mi2 ml3 (ql F))) : Sg 164 82 [some (.ref 47), some (.long x1), none, some (.int x3), some (.int x4), some (.int x5)] [.long s0, .long s1] mi ml (ql F) := by
  refine sg_binl f164_82 rfl ?_
  refine sg_st2 f164_83 (ls' := [some (.ref 47), some (.long (s1 ||| s0)), none, some (.int x3), some (.int x4), some (.int x5)]) rfl rfl rfl ?_
  refine sg_ld f164_84 (v := .ref 47) rfl rfl ?_
  refine sg_ld f164_85 (v := .int x4) rfl rfl ?_
  refine sg_ld f164_87 (v := .int x5) rfl rfl ?_
  refine sg_psh f164_89 (v := .int 0) (by decide) ?_
  refine sg_cV f164_90 (vs := [.int x4, .int x5, .int 0]) (r := 47) (rest := []) (en := [some (.ref 47), some (.int x4), some (.int x5), some (.int 0)]) pq137 ⟨rfl, rfl⟩ rfl rfl rfl rfl rfl rfl h ?_
  intro _ mi2 ml3 h
  have h := gm_qv h
  refine sg_inc f164_93 (d := 1) (ls' := [some (.ref 47), some (.long (s1 ||| s0)), none, some (.int (x3 + 1)), some (.int x4), some (.int x5)]) rfl (by decide) rfl ?_
  refine sg_goto f164_96 ?_
  exact sg_drop [4, 5] rfl h

/-! X7_core ()I -/
theorem fe165 (pc : Nat) : gm_fetch 165 pc = gm_find pc cd_165 := rfl
theorem f165_0 : gm_fetch 165 0 = some (1, .aload_n 0, 0, 0, 0, 0) := (fe165 0).trans rfl
theorem f165_1 : gm_fetch 165 1 = some (4, .invokevirtual 177, 181, 142, 0, 0) := (fe165 1).trans rfl
theorem f165_4 : gm_fetch 165 4 = some (5, .aload_n 0, 0, 0, 0, 0) := (fe165 4).trans rfl
theorem f165_5 : gm_fetch 165 5 = some (8, .invokevirtual 219, 206, 163, 0, 0) := (fe165 5).trans rfl
theorem f165_8 : gm_fetch 165 8 = some (11, .invokestatic 128, 175, 119, 0, 0) := (fe165 8).trans rfl
theorem f165_11 : gm_fetch 165 11 = some (12, .ireturn, 0, 0, 0, 0) := (fe165 11).trans rfl
set_option maxRecDepth 10000 in
theorem rg165_0 {mi : Mi} {ml : Ml} {F : Int32 → Mi → Ml → Prop}   (h : Sg 142 0 [some (.ref 47)] [] mi ml (qv fun mi2 ml3 => Sg 163 0 [some (.ref 47), none, none, none, none, none, none, none, none] [] mi2 ml3 (ql fun y4 mi5 ml6 => Sg 119 0 [some (.long y4), none, none, none] [] mi5 ml6 (qi fun y7 mi8 ml9 => F y7 mi8 ml9)))) : Sg 165 0 [some (.ref 47)] [] mi ml (qi F) := by
  refine sg_ld f165_0 (v := .ref 47) rfl rfl ?_
  refine sg_cV f165_1 (vs := []) (r := 47) (rest := []) (en := [some (.ref 47)]) pq142 ⟨rfl, rfl⟩ rfl rfl rfl rfl rfl rfl h ?_
  intro _ mi2 ml3 h
  have h := gm_qv h
  refine sg_ld f165_4 (v := .ref 47) rfl rfl ?_
  refine sg_cV f165_5 (vs := []) (r := 47) (rest := []) (en := [some (.ref 47), none, none, none, none, none, none, none, none]) pq163 ⟨rfl, rfl⟩ rfl rfl rfl rfl rfl rfl h ?_
  rintro _ mi5 ml6 ⟨y4, rfl, h⟩
  refine sg_cS f165_8 (vs := [.long y4]) (rest := []) (en := [some (.long y4), none, none, none]) (by decide) pq119 ⟨rfl, rfl⟩ rfl rfl rfl rfl rfl h ?_
  rintro _ mi8 ml9 ⟨y7, rfl, h⟩
  exact sg_iret f165_11 pq165 rfl rfl ⟨_, rfl, h⟩

