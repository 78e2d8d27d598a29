/-! X7_critical ()I -/
theorem fe166 (pc : Nat) : gm_fetch 166 pc = gm_find pc cd_166 := rfl
theorem f166_0 : gm_fetch 166 0 = some (1, .aload_n 0, 0, 0, 0, 0) := (fe166 0).trans rfl
theorem f166_1 : gm_fetch 166 1 = some (4, .invokevirtual 177, 181, 142, 0, 0) := (fe166 1).trans rfl
theorem f166_4 : gm_fetch 166 4 = some (5, .aload_n 0, 0, 0, 0, 0) := (fe166 4).trans rfl
theorem f166_5 : gm_fetch 166 5 = some (8, .invokevirtual 223, 208, 164, 0, 0) := (fe166 5).trans rfl
theorem f166_8 : gm_fetch 166 8 = some (11, .invokestatic 128, 175, 119, 0, 0) := (fe166 8).trans rfl
theorem f166_11 : gm_fetch 166 11 = some (12, .ireturn, 0, 0, 0, 0) := (fe166 11).trans rfl
set_option maxRecDepth 10000 in
theorem rg166_0 {mi : Mi} {ml : Ml} {F : Int32 → Mi → Ml → Prop}   (h : Sg 142 0 [some (.ref 47)] [] mi ml (qv fun mi2 ml3 => Sg 164 0 [some (.ref 47), none, none, none, none, none] [] mi2 ml3 (ql fun y4 mi5 ml6 => Sg 119 0 [some (.long y4), none, none, none] [] mi5 ml6 (qi fun y7 mi8 ml9 => F y7 mi8 ml9)))) : Sg 166 0 [some (.ref 47)] [] mi ml (qi F) := by
  refine sg_ld f166_0 (v := .ref 47) rfl rfl ?_
  refine sg_cV f166_1 (vs := []) (r := 47) (rest := []) (en := [some (.ref 47)]) pq142 ⟨rfl, rfl⟩ rfl rfl rfl rfl rfl rfl h ?_
  intro _ mi2 ml3 h
  have h := gm_qv h
  refine sg_ld f166_4 (v := .ref 47) rfl rfl ?_
  refine sg_cV f166_5 (vs := []) (r := 47) (rest := []) (en := [some (.ref 47), none, none, none, none, none]) pq164 ⟨rfl, rfl⟩ rfl rfl rfl rfl rfl rfl h ?_
  rintro _ mi5 ml6 ⟨y4, rfl, h⟩
  refine sg_cS f166_8 (vs := [.long y4]) (rest := []) (en := [some (.long y4), none, none, none]) (by decide) pq119 ⟨rfl, rfl⟩ rfl rfl rfl rfl rfl h ?_
  rintro _ mi8 ml9 ⟨y7, rfl, h⟩
  exact sg_iret f166_11 pq166 rfl rfl ⟨_, rfl, h⟩

/-! X7_leastBy (I)I -/
theorem fe167 (pc : Nat) : gm_fetch 167 pc = gm_find pc cd_167 := rfl
theorem f167_0 : gm_fetch 167 0 = some (1, .iconst (-1), 0, 0, 0, 0) := (fe167 0).trans rfl
theorem f167_1 : gm_fetch 167 1 = some (2, .istore_n 2, 0, 0, 0, 0) := (fe167 1).trans rfl
theorem f167_2 : gm_fetch 167 2 = some (3, .iconst 0, 0, 0, 0, 0) := (fe167 2).trans rfl
theorem f167_3 : gm_fetch 167 3 = some (4, .istore_n 3, 0, 0, 0, 0) := (fe167 3).trans rfl
theorem f167_4 : gm_fetch 167 4 = some (5, .iload_n 3, 0, 0, 0, 0) := (fe167 4).trans rfl
theorem f167_5 : gm_fetch 167 5 = some (7, .bipush 7, 0, 0, 0, 0) := (fe167 5).trans rfl
theorem f167_7 : gm_fetch 167 7 = some (10, .if_icmp .ge 78, 0, 85, 0, 0) := (fe167 7).trans rfl
theorem f167_10 : gm_fetch 167 10 = some (11, .iload_n 2, 0, 0, 0, 0) := (fe167 10).trans rfl
theorem f167_11 : gm_fetch 167 11 = some (12, .iconst (-1), 0, 0, 0, 0) := (fe167 11).trans rfl
theorem f167_12 : gm_fetch 167 12 = some (15, .if_icmp .ne 73, 0, 85, 0, 0) := (fe167 12).trans rfl
theorem f167_15 : gm_fetch 167 15 = some (16, .iload_n 1, 0, 0, 0, 0) := (fe167 15).trans rfl
theorem f167_16 : gm_fetch 167 16 = some (19, .ifCond .ne 10, 0, 26, 0, 0) := (fe167 16).trans rfl
theorem f167_19 : gm_fetch 167 19 = some (20, .aload_n 0, 0, 0, 0, 0) := (fe167 19).trans rfl
theorem f167_20 : gm_fetch 167 20 = some (23, .getfield 84, 91, 7, 7, 0) := (fe167 20).trans rfl
theorem f167_23 : gm_fetch 167 23 = some (26, .goto 9, 0, 32, 0, 0) := (fe167 23).trans rfl
theorem f167_26 : gm_fetch 167 26 = some (27, .aload_n 0, 0, 0, 0, 0) := (fe167 26).trans rfl
theorem f167_27 : gm_fetch 167 27 = some (30, .getfield 81, 90, 7, 6, 0) := (fe167 27).trans rfl
theorem f167_30 : gm_fetch 167 30 = some (31, .iload_n 3, 0, 0, 0, 0) := (fe167 30).trans rfl
theorem f167_31 : gm_fetch 167 31 = some (32, .isub, 0, 0, 0, 0) := (fe167 31).trans rfl
theorem f167_32 : gm_fetch 167 32 = some (34, .istore 4, 0, 0, 0, 0) := (fe167 32).trans rfl
theorem f167_34 : gm_fetch 167 34 = some (36, .iload 4, 0, 0, 0, 0) := (fe167 34).trans rfl
theorem f167_36 : gm_fetch 167 36 = some (39, .ifCond .le 43, 0, 79, 0, 0) := (fe167 36).trans rfl
theorem f167_39 : gm_fetch 167 39 = some (40, .aload_n 0, 0, 0, 0, 0) := (fe167 39).trans rfl
theorem f167_40 : gm_fetch 167 40 = some (42, .iload 4, 0, 0, 0, 0) := (fe167 40).trans rfl
theorem f167_42 : gm_fetch 167 42 = some (43, .iload_n 1, 0, 0, 0, 0) := (fe167 42).trans rfl
theorem f167_43 : gm_fetch 167 43 = some (46, .ifCond .ne 7, 0, 50, 0, 0) := (fe167 43).trans rfl
theorem f167_46 : gm_fetch 167 46 = some (47, .iload_n 3, 0, 0, 0, 0) := (fe167 46).trans rfl
theorem f167_47 : gm_fetch 167 47 = some (50, .goto 7, 0, 54, 0, 0) := (fe167 47).trans rfl
theorem f167_50 : gm_fetch 167 50 = some (51, .aload_n 0, 0, 0, 0, 0) := (fe167 50).trans rfl
theorem f167_51 : gm_fetch 167 51 = some (54, .getfield 87, 92, 7, 8, 0) := (fe167 51).trans rfl
theorem f167_54 : gm_fetch 167 54 = some (57, .invokevirtual 167, 182, 141, 0, 0) := (fe167 54).trans rfl
theorem f167_57 : gm_fetch 167 57 = some (58, .aload_n 0, 0, 0, 0, 0) := (fe167 57).trans rfl
theorem f167_58 : gm_fetch 167 58 = some (61, .invokevirtual 180, 185, 145, 0, 0) := (fe167 58).trans rfl
theorem f167_61 : gm_fetch 167 61 = some (64, .ifCond .eq 16, 0, 77, 0, 0) := (fe167 61).trans rfl
theorem f167_64 : gm_fetch 167 64 = some (65, .iload_n 1, 0, 0, 0, 0) := (fe167 64).trans rfl
theorem f167_65 : gm_fetch 167 65 = some (68, .ifCond .ne 7, 0, 72, 0, 0) := (fe167 65).trans rfl
theorem f167_68 : gm_fetch 167 68 = some (69, .iload_n 3, 0, 0, 0, 0) := (fe167 68).trans rfl
theorem f167_69 : gm_fetch 167 69 = some (72, .goto 9, 0, 78, 0, 0) := (fe167 69).trans rfl
theorem f167_72 : gm_fetch 167 72 = some (74, .iload 4, 0, 0, 0, 0) := (fe167 72).trans rfl
theorem f167_74 : gm_fetch 167 74 = some (77, .goto 4, 0, 78, 0, 0) := (fe167 74).trans rfl
theorem f167_77 : gm_fetch 167 77 = some (78, .iconst (-1), 0, 0, 0, 0) := (fe167 77).trans rfl
theorem f167_78 : gm_fetch 167 78 = some (79, .istore_n 2, 0, 0, 0, 0) := (fe167 78).trans rfl
theorem f167_79 : gm_fetch 167 79 = some (82, .iinc 3 1, 0, 0, 0, 0) := (fe167 79).trans rfl
theorem f167_82 : gm_fetch 167 82 = some (85, .goto (-78), 0, 4, 0, 0) := (fe167 82).trans rfl
theorem f167_85 : gm_fetch 167 85 = some (86, .aload_n 0, 0, 0, 0, 0) := (fe167 85).trans rfl
theorem f167_86 : gm_fetch 167 86 = some (89, .invokevirtual 177, 181, 142, 0, 0) := (fe167 86).trans rfl
theorem f167_89 : gm_fetch 167 89 = some (90, .iload_n 2, 0, 0, 0, 0) := (fe167 89).trans rfl
theorem f167_90 : gm_fetch 167 90 = some (91, .ireturn, 0, 0, 0, 0) := (fe167 90).trans rfl
set_option maxRecDepth 10000 in
theorem rg167_0 {mi : Mi} {ml : Ml} {F : Int32 → Mi → Ml → Prop} {x1 : Int32}  (h : Sg 167 4 [some (.ref 47), some (.int x1), some (.int (-1)), some (.int 0), none] [] mi ml (qi F)) : Sg 167 0 [some (.ref 47), some (.int x1), none, none, none] [] mi ml (qi F) := by
  refine sg_psh f167_0 (v := .int (-1)) (by decide) ?_
  refine sg_st1 f167_1 (ls' := [some (.ref 47), some (.int x1), some (.int (-1)), none, none]) rfl rfl rfl rfl ?_
  refine sg_psh f167_2 (v := .int 0) (by decide) ?_
  refine sg_st1 f167_3 (ls' := [some (.ref 47), some (.int x1), some (.int (-1)), some (.int 0), none]) rfl rfl rfl rfl ?_
  exact h

set_option maxRecDepth 10000 in
theorem rg167_4 {mi : Mi} {ml : Ml} {F : Int32 → Mi → Ml → Prop} {x1 : Int32} {x2 : Int32} {x3 : Int32}  (h : ((7 ≤ x3) → Sg 167 85 [some (.ref 47), some (.int x1), some (.int x2), some (.int x3), none] [] mi ml (qi F)) ∧ (¬ (7 ≤ x3) → ((¬ x2 = (-1)) → Sg 167 85 [some (.ref 47), some (.int x1), some (.int x2), some (.int x3), none] [] mi ml (qi F)) ∧ (¬ (¬ x2 = (-1)) → ((¬ x1 = 0) → Sg 167 32 [some (.ref 47), some (.int x1), some (.int x2), some (.int x3), none] [.int ((mi 47 6) - x3)] mi ml (qi F)) ∧ (¬ (¬ x1 = 0) → Sg 167 32 [some (.ref 47), some (.int x1), some (.int x2), some (.int x3), none] [.int (mi 47 7)] mi ml (qi F))))) : Sg 167 4 [some (.ref 47), some (.int x1), some (.int x2), some (.int x3), none] [] mi ml (qi F) := by
  refine sg_ld f167_4 (v := .int x3) rfl rfl ?_
  refine sg_psh f167_5 (v := .int 7) (by decide) ?_
  refine sg_icmp f167_7 (fun c => ?_) (fun c => ?_)
  · have h := h.1 c
    exact h
  · have h := h.2 c
    refine sg_ld f167_10 (v := .int x2) rfl rfl ?_
    refine sg_psh f167_11 (v := .int (-1)) (by decide) ?_
    refine sg_icmp f167_12 (fun c => ?_) (fun c => ?_)
    · have h := h.1 c
      exact h
    · have h := h.2 c
      refine sg_ld f167_15 (v := .int x1) rfl rfl ?_
      refine sg_if f167_16 (fun c => ?_) (fun c => ?_)
      · have h := h.1 c
        refine sg_ld f167_26 (v := .ref 47) rfl rfl ?_
        refine sg_geti f167_27 rfl rfl (x := (mi 47 6)) rfl ?_
        refine sg_ld f167_30 (v := .int x3) rfl rfl ?_
        refine sg_bin f167_31 rfl ?_
        exact h
      · have h := h.2 c
        refine sg_ld f167_19 (v := .ref 47) rfl rfl ?_
        refine sg_geti f167_20 rfl rfl (x := (mi 47 7)) rfl ?_
        refine sg_goto f167_23 ?_
        exact h

set_option maxRecDepth 10000 in
theorem rg167_32 {mi : Mi} {ml : Ml} {F : Int32 → Mi → Ml → Prop} {x1 : Int32} {x2 : Int32} {x3 : Int32} {s0 : Int32}  (h : ((s0 ≤ 0) → Sg 167 4 [some (.ref 47), some (.int x1), some (.int x2), some (.int (x3 + 1)), none] [] mi ml (qi F)) ∧ (¬ (s0 ≤ 0) → ((¬ x1 = 0) → Sg 167 54 [some (.ref 47), some (.int x1), some (.int x2), some (.int x3), some (.int s0)] [.int (mi 47 8), .int s0, .ref 47] mi ml (qi F)) ∧ (¬ (¬ x1 = 0) → Sg 167 54 [some (.ref 47), some (.int x1), some (.int x2), some (.int x3), some (.int s0)] [.int x3, .int s0, .ref 47] mi ml (qi F)))) : Sg 167 32 [some (.ref 47), some (.int x1), some (.int x2), some (.int x3), none] [.int s0] mi ml (qi F) := by
  refine sg_st1 f167_32 (ls' := [some (.ref 47), some (.int x1), some (.int x2), some (.int x3), some (.int s0)]) rfl rfl rfl rfl ?_
  refine sg_ld f167_34 (v := .int s0) rfl rfl ?_
  refine sg_if f167_36 (fun c => ?_) (fun c => ?_)
  · have h := h.1 c
    refine sg_inc f167_79 (d := 1) (ls' := [some (.ref 47), some (.int x1), some (.int x2), some (.int (x3 + 1)), some (.int s0)]) rfl (by decide) rfl ?_
    refine sg_goto f167_82 ?_
    exact sg_drop [4] rfl h
  · have h := h.2 c
    refine sg_ld f167_39 (v := .ref 47) rfl rfl ?_
    refine sg_ld f167_40 (v := .int s0) rfl rfl ?_
    refine sg_ld f167_42 (v := .int x1) rfl rfl ?_
    refine sg_if f167_43 (fun c => ?_) (fun c => ?_)
    · have h := h.1 c
      refine sg_ld f167_50 (v := .ref 47) rfl rfl ?_
      refine sg_geti f167_51 rfl rfl (x := (mi 47 8)) rfl ?_
      exact h
    · have h := h.2 c
      refine sg_ld f167_46 (v := .int x3) rfl rfl ?_
      refine sg_goto f167_47 ?_
      exact h

set_option maxRecDepth 10000 in
theorem rg167_54 {mi : Mi} {ml : Ml} {F : Int32 → Mi → Ml → Prop} {x1 : Int32} {x2 : Int32} {x3 : Int32} {x4 : Int32} {s0 : Int32} {s1 : Int32}  (h : Sg 141 0 [some (.ref 47), some (.int s1), some (.int s0), none, none, none, none] [] mi ml (qv fun mi2 ml3 => Sg 145 0 [some (.ref 47)] [] mi2 ml3 (qi fun y4 mi5 ml6 => ((y4 = 0) → Sg 167 4 [some (.ref 47), some (.int x1), some (.int (-1)), some (.int (x3 + 1)), none] [] mi5 ml6 (qi F)) ∧ (¬ (y4 = 0) → ((¬ x1 = 0) → Sg 167 4 [some (.ref 47), some (.int x1), some (.int x4), some (.int (x3 + 1)), none] [] mi5 ml6 (qi F)) ∧ (¬ (¬ x1 = 0) → Sg 167 4 [some (.ref 47), some (.int x1), some (.int x3), some (.int (x3 + 1)), none] [] mi5 ml6 (qi F)))))) : Sg 167 54 [some (.ref 47), some (.int x1), some (.int x2), some (.int x3), some (.int x4)] [.int s0, .int s1, .ref 47] mi ml (qi F) := by
  refine sg_cV f167_54 (vs := [.int s1, .int s0]) (r := 47) (rest := []) (en := [some (.ref 47), some (.int s1), some (.int s0), none, none, none, none]) pq141 ⟨rfl, rfl⟩ rfl rfl rfl rfl rfl rfl h ?_
  intro _ mi2 ml3 h
  have h := gm_qv h
  refine sg_ld f167_57 (v := .ref 47) rfl rfl ?_
  refine sg_cV f167_58 (vs := []) (r := 47) (rest := []) (en := [some (.ref 47)]) pq145 ⟨rfl, rfl⟩ rfl rfl rfl rfl rfl rfl h ?_
  rintro _ mi5 ml6 ⟨y4, rfl, h⟩
  refine sg_if f167_61 (fun c => ?_) (fun c => ?_)
  · have h := h.1 c
    refine sg_psh f167_77 (v := .int (-1)) (by decide) ?_
    refine sg_st1 f167_78 (ls' := [some (.ref 47), some (.int x1), some (.int (-1)), some (.int x3), some (.int x4)]) rfl rfl rfl rfl ?_
    refine sg_inc f167_79 (d := 1) (ls' := [some (.ref 47), some (.int x1), some (.int (-1)), some (.int (x3 + 1)), some (.int x4)]) rfl (by decide) rfl ?_
    refine sg_goto f167_82 ?_
    exact sg_drop [4] rfl h
  · have h := h.2 c
    refine sg_ld f167_64 (v := .int x1) rfl rfl ?_
    refine sg_if f167_65 (fun c => ?_) (fun c => ?_)
    · have h := h.1 c
      refine sg_ld f167_72 (v := .int x4) rfl rfl ?_
      refine sg_goto f167_74 ?_
      refine sg_st1 f167_78 (ls' := [some (.ref 47), some (.int x1), some (.int x4), some (.int x3), some (.int x4)]) rfl rfl rfl rfl ?_
      refine sg_inc f167_79 (d := 1) (ls' := [some (.ref 47), some (.int x1), some (.int x4), some (.int (x3 + 1)), some (.int x4)]) rfl (by decide) rfl ?_
      refine sg_goto f167_82 ?_
      exact sg_drop [4] rfl h
    · have h := h.2 c
      refine sg_ld f167_68 (v := .int x3) rfl rfl ?_
      refine sg_goto f167_69 ?_
      refine sg_st1 f167_78 (ls' := [some (.ref 47), some (.int x1), some (.int x3), some (.int x3), some (.int x4)]) rfl rfl rfl rfl ?_
      refine sg_inc f167_79 (d := 1) (ls' := [some (.ref 47), some (.int x1), some (.int x3), some (.int (x3 + 1)), some (.int x4)]) rfl (by decide) rfl ?_
      refine sg_goto f167_82 ?_
      exact sg_drop [4] rfl h

set_option maxRecDepth 10000 in
theorem rg167_85 {mi : Mi} {ml : Ml} {F : Int32 → Mi → Ml → Prop} {x1 : Int32} {x2 : Int32} {x3 : Int32}  (h : Sg 142 0 [some (.ref 47)] [] mi ml (qv fun mi2 ml3 => F x2 mi2 ml3)) : Sg 167 85 [some (.ref 47), some (.int x1), some (.int x2), some (.int x3), none] [] mi ml (qi F) := by
  refine sg_ld f167_85 (v := .ref 47) rfl rfl ?_
  refine sg_cV f167_86 (vs := []) (r := 47) (rest := []) (en := [some (.ref 47)]) pq142 ⟨rfl, rfl⟩ rfl rfl rfl rfl rfl rfl h ?_
  intro _ mi2 ml3 h
  have h := gm_qv h
  refine sg_ld f167_89 (v := .int x2) rfl rfl ?_
  exact sg_iret f167_90 pq167 rfl rfl ⟨_, rfl, h⟩

/-! X7_least (I)I -/
theorem fe168 (pc : Nat) : gm_fetch 168 pc = gm_find pc cd_168 := rfl
theorem f168_0 : gm_fetch 168 0 = some (1, .iload_n 1, 0, 0, 0, 0) := (fe168 0).trans rfl
theorem f168_1 : gm_fetch 168 1 = some (4, .invokestatic 213, 203, 115, 0, 0) := (fe168 1).trans rfl
theorem f168_4 : gm_fetch 168 4 = some (7, .ifCond .eq 11, 0, 15, 0, 0) := (fe168 4).trans rfl
theorem f168_7 : gm_fetch 168 7 = some (8, .aload_n 0, 0, 0, 0, 0) := (fe168 7).trans rfl
theorem f168_8 : gm_fetch 168 8 = some (9, .iload_n 1, 0, 0, 0, 0) := (fe168 8).trans rfl
theorem f168_9 : gm_fetch 168 9 = some (12, .invokevirtual 226, 210, 167, 0, 0) := (fe168 9).trans rfl
theorem f168_12 : gm_fetch 168 12 = some (15, .goto 5, 0, 17, 0, 0) := (fe168 12).trans rfl
theorem f168_15 : gm_fetch 168 15 = some (17, .bipush (-2), 0, 0, 0, 0) := (fe168 15).trans rfl
theorem f168_17 : gm_fetch 168 17 = some (18, .ireturn, 0, 0, 0, 0) := (fe168 17).trans rfl
set_option maxRecDepth 10000 in
theorem rg168_0 {mi : Mi} {ml : Ml} {F : Int32 → Mi → Ml → Prop} {x1 : Int32}  (h : Sg 115 0 [some (.int x1)] [] mi ml (qi fun y1 mi2 ml3 => ((y1 = 0) → F (-2) mi2 ml3) ∧ (¬ (y1 = 0) → Sg 167 0 [some (.ref 47), some (.int x1), none, none, none] [] mi2 ml3 (qi fun y4 mi5 ml6 => F y4 mi5 ml6)))) : Sg 168 0 [some (.ref 47), some (.int x1)] [] mi ml (qi F) := by
  refine sg_ld f168_0 (v := .int x1) rfl rfl ?_
  refine sg_cS f168_1 (vs := [.int x1]) (rest := []) (en := [some (.int x1)]) (by decide) pq115 ⟨rfl, rfl⟩ rfl rfl rfl rfl rfl h ?_
  rintro _ mi2 ml3 ⟨y1, rfl, h⟩
  refine sg_if f168_4 (fun c => ?_) (fun c => ?_)
  · have h := h.1 c
    refine sg_psh f168_15 (v := .int (-2)) (by decide) ?_
    exact sg_iret f168_17 pq168 rfl rfl ⟨_, rfl, h⟩
  · have h := h.2 c
    refine sg_ld f168_7 (v := .ref 47) rfl rfl ?_
    refine sg_ld f168_8 (v := .int x1) rfl rfl ?_
    refine sg_cV f168_9 (vs := [.int x1]) (r := 47) (rest := []) (en := [some (.ref 47), some (.int x1), none, none, none]) pq167 ⟨rfl, rfl⟩ rfl rfl rfl rfl rfl rfl h ?_
    rintro _ mi5 ml6 ⟨y4, rfl, h⟩
    refine sg_goto f168_12 ?_
    exact sg_iret f168_17 pq168 rfl rfl ⟨_, rfl, h⟩

/-! X7_isOut (I)Z -/
theorem fe169 (pc : Nat) : gm_fetch 169 pc = gm_find pc cd_169 := rfl
theorem f169_0 : gm_fetch 169 0 = some (1, .iload_n 1, 0, 0, 0, 0) := (fe169 0).trans rfl
theorem f169_1 : gm_fetch 169 1 = some (2, .aload_n 0, 0, 0, 0, 0) := (fe169 1).trans rfl
theorem f169_2 : gm_fetch 169 2 = some (5, .getfield 81, 90, 7, 6, 0) := (fe169 2).trans rfl
theorem f169_5 : gm_fetch 169 5 = some (6, .irem, 0, 0, 0, 0) := (fe169 5).trans rfl
theorem f169_6 : gm_fetch 169 6 = some (7, .istore_n 2, 0, 0, 0, 0) := (fe169 6).trans rfl
theorem f169_7 : gm_fetch 169 7 = some (8, .iload_n 1, 0, 0, 0, 0) := (fe169 7).trans rfl
theorem f169_8 : gm_fetch 169 8 = some (9, .aload_n 0, 0, 0, 0, 0) := (fe169 8).trans rfl
theorem f169_9 : gm_fetch 169 9 = some (12, .getfield 81, 90, 7, 6, 0) := (fe169 9).trans rfl
theorem f169_12 : gm_fetch 169 12 = some (13, .idiv, 0, 0, 0, 0) := (fe169 12).trans rfl
theorem f169_13 : gm_fetch 169 13 = some (14, .istore_n 3, 0, 0, 0, 0) := (fe169 13).trans rfl
theorem f169_14 : gm_fetch 169 14 = some (15, .aload_n 0, 0, 0, 0, 0) := (fe169 14).trans rfl
theorem f169_15 : gm_fetch 169 15 = some (18, .getfield 90, 93, 7, 9, 0) := (fe169 15).trans rfl
theorem f169_18 : gm_fetch 169 18 = some (19, .i2l, 0, 0, 0, 0) := (fe169 18).trans rfl
theorem f169_19 : gm_fetch 169 19 = some (20, .iconst 0, 0, 0, 0, 0) := (fe169 19).trans rfl
theorem f169_20 : gm_fetch 169 20 = some (23, .invokestatic 97, 176, 116, 0, 0) := (fe169 20).trans rfl
theorem f169_23 : gm_fetch 169 23 = some (26, .ifCond .eq 7, 0, 30, 0, 0) := (fe169 23).trans rfl
theorem f169_26 : gm_fetch 169 26 = some (27, .iload_n 2, 0, 0, 0, 0) := (fe169 26).trans rfl
theorem f169_27 : gm_fetch 169 27 = some (30, .ifCond .eq 63, 0, 90, 0, 0) := (fe169 27).trans rfl
theorem f169_30 : gm_fetch 169 30 = some (31, .aload_n 0, 0, 0, 0, 0) := (fe169 30).trans rfl
theorem f169_31 : gm_fetch 169 31 = some (34, .getfield 90, 93, 7, 9, 0) := (fe169 31).trans rfl
theorem f169_34 : gm_fetch 169 34 = some (35, .i2l, 0, 0, 0, 0) := (fe169 34).trans rfl
theorem f169_35 : gm_fetch 169 35 = some (36, .iconst 1, 0, 0, 0, 0) := (fe169 35).trans rfl
theorem f169_36 : gm_fetch 169 36 = some (39, .invokestatic 97, 176, 116, 0, 0) := (fe169 36).trans rfl
theorem f169_39 : gm_fetch 169 39 = some (42, .ifCond .eq 7, 0, 46, 0, 0) := (fe169 39).trans rfl
theorem f169_42 : gm_fetch 169 42 = some (43, .iload_n 3, 0, 0, 0, 0) := (fe169 42).trans rfl
theorem f169_43 : gm_fetch 169 43 = some (46, .ifCond .eq 47, 0, 90, 0, 0) := (fe169 43).trans rfl
theorem f169_46 : gm_fetch 169 46 = some (47, .aload_n 0, 0, 0, 0, 0) := (fe169 46).trans rfl
theorem f169_47 : gm_fetch 169 47 = some (50, .getfield 90, 93, 7, 9, 0) := (fe169 47).trans rfl
theorem f169_50 : gm_fetch 169 50 = some (51, .i2l, 0, 0, 0, 0) := (fe169 50).trans rfl
theorem f169_51 : gm_fetch 169 51 = some (52, .iconst 2, 0, 0, 0, 0) := (fe169 51).trans rfl
theorem f169_52 : gm_fetch 169 52 = some (55, .invokestatic 97, 176, 116, 0, 0) := (fe169 52).trans rfl
theorem f169_55 : gm_fetch 169 55 = some (58, .ifCond .eq 13, 0, 68, 0, 0) := (fe169 55).trans rfl
theorem f169_58 : gm_fetch 169 58 = some (59, .iload_n 2, 0, 0, 0, 0) := (fe169 58).trans rfl
theorem f169_59 : gm_fetch 169 59 = some (60, .aload_n 0, 0, 0, 0, 0) := (fe169 59).trans rfl
theorem f169_60 : gm_fetch 169 60 = some (63, .getfield 81, 90, 7, 6, 0) := (fe169 60).trans rfl
theorem f169_63 : gm_fetch 169 63 = some (64, .iconst 1, 0, 0, 0, 0) := (fe169 63).trans rfl
theorem f169_64 : gm_fetch 169 64 = some (65, .isub, 0, 0, 0, 0) := (fe169 64).trans rfl
theorem f169_65 : gm_fetch 169 65 = some (68, .if_icmp .eq 25, 0, 90, 0, 0) := (fe169 65).trans rfl
theorem f169_68 : gm_fetch 169 68 = some (69, .aload_n 0, 0, 0, 0, 0) := (fe169 68).trans rfl
theorem f169_69 : gm_fetch 169 69 = some (72, .getfield 90, 93, 7, 9, 0) := (fe169 69).trans rfl
theorem f169_72 : gm_fetch 169 72 = some (73, .i2l, 0, 0, 0, 0) := (fe169 72).trans rfl
theorem f169_73 : gm_fetch 169 73 = some (74, .iconst 3, 0, 0, 0, 0) := (fe169 73).trans rfl
theorem f169_74 : gm_fetch 169 74 = some (77, .invokestatic 97, 176, 116, 0, 0) := (fe169 74).trans rfl
theorem f169_77 : gm_fetch 169 77 = some (80, .ifCond .eq 17, 0, 94, 0, 0) := (fe169 77).trans rfl
theorem f169_80 : gm_fetch 169 80 = some (81, .iload_n 3, 0, 0, 0, 0) := (fe169 80).trans rfl
theorem f169_81 : gm_fetch 169 81 = some (82, .aload_n 0, 0, 0, 0, 0) := (fe169 81).trans rfl
theorem f169_82 : gm_fetch 169 82 = some (85, .getfield 77, 89, 7, 5, 0) := (fe169 82).trans rfl
theorem f169_85 : gm_fetch 169 85 = some (86, .iconst 1, 0, 0, 0, 0) := (fe169 85).trans rfl
theorem f169_86 : gm_fetch 169 86 = some (87, .isub, 0, 0, 0, 0) := (fe169 86).trans rfl
theorem f169_87 : gm_fetch 169 87 = some (90, .if_icmp .ne 7, 0, 94, 0, 0) := (fe169 87).trans rfl
theorem f169_90 : gm_fetch 169 90 = some (91, .iconst 1, 0, 0, 0, 0) := (fe169 90).trans rfl
theorem f169_91 : gm_fetch 169 91 = some (94, .goto 4, 0, 95, 0, 0) := (fe169 91).trans rfl
theorem f169_94 : gm_fetch 169 94 = some (95, .iconst 0, 0, 0, 0, 0) := (fe169 94).trans rfl
theorem f169_95 : gm_fetch 169 95 = some (96, .ireturn, 0, 0, 0, 0) := (fe169 95).trans rfl
set_option maxRecDepth 10000 in
theorem rg169_0 {mi : Mi} {ml : Ml} {F : Int32 → Mi → Ml → Prop} {x1 : Int32}  (h : (¬ (mi 47 6) = 0) ∧ (Sg 116 0 [some (.long (Int32.toInt64 (mi 47 9))), none, some (.int 0)] [] mi ml (qi fun y2 mi3 ml4 => ((y2 = 0) → Sg 169 30 [some (.ref 47), some (.int x1), some (.int (x1 - x1 / (mi 47 6) * (mi 47 6))), some (.int (x1 / (mi 47 6)))] [] mi3 ml4 (qi F)) ∧ (¬ (y2 = 0) → (((x1 - x1 / (mi 47 6) * (mi 47 6)) = 0) → F 1 mi3 ml4) ∧ (¬ ((x1 - x1 / (mi 47 6) * (mi 47 6)) = 0) → Sg 169 30 [some (.ref 47), some (.int x1), some (.int (x1 - x1 / (mi 47 6) * (mi 47 6))), some (.int (x1 / (mi 47 6)))] [] mi3 ml4 (qi F)))))) : Sg 169 0 [some (.ref 47), some (.int x1), none, none] [] mi ml (qi F) := by
  refine sg_ld f169_0 (v := .int x1) rfl rfl ?_
  refine sg_ld f169_1 (v := .ref 47) rfl rfl ?_
  refine sg_geti f169_2 rfl rfl (x := (mi 47 6)) rfl ?_
  obtain ⟨e1, h⟩ := h
  refine sg_rem f169_5 e1 ?_
  refine sg_st1 f169_6 (ls' := [some (.ref 47), some (.int x1), some (.int (x1 - x1 / (mi 47 6) * (mi 47 6))), none]) rfl rfl rfl rfl ?_
  refine sg_ld f169_7 (v := .int x1) rfl rfl ?_
  refine sg_ld f169_8 (v := .ref 47) rfl rfl ?_
  refine sg_geti f169_9 rfl rfl (x := (mi 47 6)) rfl ?_
  refine sg_div f169_12 e1 ?_
  refine sg_st1 f169_13 (ls' := [some (.ref 47), some (.int x1), some (.int (x1 - x1 / (mi 47 6) * (mi 47 6))), some (.int (x1 / (mi 47 6)))]) rfl rfl rfl rfl ?_
  refine sg_ld f169_14 (v := .ref 47) rfl rfl ?_
  refine sg_geti f169_15 rfl rfl (x := (mi 47 9)) rfl ?_
  refine sg_i2l f169_18 ?_
  refine sg_psh f169_19 (v := .int 0) (by decide) ?_
  refine sg_cS f169_20 (vs := [.long (Int32.toInt64 (mi 47 9)), .int 0]) (rest := []) (en := [some (.long (Int32.toInt64 (mi 47 9))), none, some (.int 0)]) (by decide) pq116 ⟨rfl, rfl⟩ rfl rfl rfl rfl rfl h ?_
  rintro _ mi3 ml4 ⟨y2, rfl, h⟩
  refine sg_if f169_23 (fun c => ?_) (fun c => ?_)
  · have h := h.1 c
    exact h
  · have h := h.2 c
    refine sg_ld f169_26 (v := .int (x1 - x1 / (mi 47 6) * (mi 47 6))) rfl rfl ?_
    refine sg_if f169_27 (fun c => ?_) (fun c => ?_)
    · have h := h.1 c
      refine sg_psh f169_90 (v := .int 1) (by decide) ?_
      refine sg_goto f169_91 ?_
      exact sg_iret f169_95 pq169 rfl (by decide) ⟨_, rfl, h⟩
    · have h := h.2 c
      exact h

set_option maxRecDepth 10000 in
theorem rg169_30 {mi : Mi} {ml : Ml} {F : Int32 → Mi → Ml → Prop} {x1 : Int32} {x2 : Int32} {x3 : Int32}  (h : Sg 116 0 [some (.long (Int32.toInt64 (mi 47 9))), none, some (.int 1)] [] mi ml (qi fun y1 mi2 ml3 => ((y1 = 0) → Sg 169 46 [some (.ref 47), some (.int x1), some (.int x2), some (.int x3)] [] mi2 ml3 (qi F)) ∧ (¬ (y1 = 0) → ((x3 = 0) → F 1 mi2 ml3) ∧ (¬ (x3 = 0) → Sg 169 46 [some (.ref 47), some (.int x1), some (.int x2), some (.int x3)] [] mi2 ml3 (qi F))))) : Sg 169 30 [some (.ref 47), some (.int x1), some (.int x2), some (.int x3)] [] mi ml (qi F) := by
  refine sg_ld f169_30 (v := .ref 47) rfl rfl ?_
  refine sg_geti f169_31 rfl rfl (x := (mi 47 9)) rfl ?_
  refine sg_i2l f169_34 ?_
  refine sg_psh f169_35 (v := .int 1) (by decide) ?_
  refine sg_cS f169_36 (vs := [.long (Int32.toInt64 (mi 47 9)), .int 1]) (rest := []) (en := [some (.long (Int32.toInt64 (mi 47 9))), none, some (.int 1)]) (by decide) pq116 ⟨rfl, rfl⟩ rfl rfl rfl rfl rfl h ?_
  rintro _ mi2 ml3 ⟨y1, rfl, h⟩
  refine sg_if f169_39 (fun c => ?_) (fun c => ?_)
  · have h := h.1 c
    exact h
  · have h := h.2 c
    refine sg_ld f169_42 (v := .int x3) rfl rfl ?_
    refine sg_if f169_43 (fun c => ?_) (fun c => ?_)
    · have h := h.1 c
      refine sg_psh f169_90 (v := .int 1) (by decide) ?_
      refine sg_goto f169_91 ?_
      exact sg_iret f169_95 pq169 rfl (by decide) ⟨_, rfl, h⟩
    · have h := h.2 c
      exact h

set_option maxRecDepth 10000 in
theorem rg169_46 {mi : Mi} {ml : Ml} {F : Int32 → Mi → Ml → Prop} {x1 : Int32} {x2 : Int32} {x3 : Int32}  (h : Sg 116 0 [some (.long (Int32.toInt64 (mi 47 9))), none, some (.int 2)] [] mi ml (qi fun y1 mi2 ml3 => ((y1 = 0) → Sg 169 68 [some (.ref 47), some (.int x1), some (.int x2), some (.int x3)] [] mi2 ml3 (qi F)) ∧ (¬ (y1 = 0) → ((x2 = ((mi2 47 6) - 1)) → F 1 mi2 ml3) ∧ (¬ (x2 = ((mi2 47 6) - 1)) → Sg 169 68 [some (.ref 47), some (.int x1), some (.int x2), some (.int x3)] [] mi2 ml3 (qi F))))) : Sg 169 46 [some (.ref 47), some (.int x1), some (.int x2), some (.int x3)] [] mi ml (qi F) := by
  refine sg_ld f169_46 (v := .ref 47) rfl rfl ?_
  refine sg_geti f169_47 rfl rfl (x := (mi 47 9)) rfl ?_
  refine sg_i2l f169_50 ?_
  refine sg_psh f169_51 (v := .int 2) (by decide) ?_
  refine sg_cS f169_52 (vs := [.long (Int32.toInt64 (mi 47 9)), .int 2]) (rest := []) (en := [some (.long (Int32.toInt64 (mi 47 9))), none, some (.int 2)]) (by decide) pq116 ⟨rfl, rfl⟩ rfl rfl rfl rfl rfl h ?_
  rintro _ mi2 ml3 ⟨y1, rfl, h⟩
  refine sg_if f169_55 (fun c => ?_) (fun c => ?_)
  · have h := h.1 c
    exact h
  · have h := h.2 c
    refine sg_ld f169_58 (v := .int x2) rfl rfl ?_
    refine sg_ld f169_59 (v := .ref 47) rfl rfl ?_
    refine sg_geti f169_60 rfl rfl (x := (mi2 47 6)) rfl ?_
    refine sg_psh f169_63 (v := .int 1) (by decide) ?_
    refine sg_bin f169_64 rfl ?_
    refine sg_icmp f169_65 (fun c => ?_) (fun c => ?_)
    · have h := h.1 c
      refine sg_psh f169_90 (v := .int 1) (by decide) ?_
      refine sg_goto f169_91 ?_
      exact sg_iret f169_95 pq169 rfl (by decide) ⟨_, rfl, h⟩
    · have h := h.2 c
      exact h

set_option maxRecDepth 10000 in
theorem rg169_68 {mi : Mi} {ml : Ml} {F : Int32 → Mi → Ml → Prop} {x1 : Int32} {x2 : Int32} {x3 : Int32}  (h : Sg 116 0 [some (.long (Int32.toInt64 (mi 47 9))), none, some (.int 3)] [] mi ml (qi fun y1 mi2 ml3 => ((y1 = 0) → F 0 mi2 ml3) ∧ (¬ (y1 = 0) → ((¬ x3 = ((mi2 47 5) - 1)) → F 0 mi2 ml3) ∧ (¬ (¬ x3 = ((mi2 47 5) - 1)) → F 1 mi2 ml3)))) : Sg 169 68 [some (.ref 47), some (.int x1), some (.int x2), some (.int x3)] [] mi ml (qi F) := by
  refine sg_ld f169_68 (v := .ref 47) rfl rfl ?_
  refine sg_geti f169_69 rfl rfl (x := (mi 47 9)) rfl ?_
  refine sg_i2l f169_72 ?_
  refine sg_psh f169_73 (v := .int 3) (by decide) ?_
  refine sg_cS f169_74 (vs := [.long (Int32.toInt64 (mi 47 9)), .int 3]) (rest := []) (en := [some (.long (Int32.toInt64 (mi 47 9))), none, some (.int 3)]) (by decide) pq116 ⟨rfl, rfl⟩ rfl rfl rfl rfl rfl h ?_
  rintro _ mi2 ml3 ⟨y1, rfl, h⟩
  refine sg_if f169_77 (fun c => ?_) (fun c => ?_)
  · have h := h.1 c
    refine sg_psh f169_94 (v := .int 0) (by decide) ?_
    exact sg_iret f169_95 pq169 rfl (by decide) ⟨_, rfl, h⟩
  · have h := h.2 c
    refine sg_ld f169_80 (v := .int x3) rfl rfl ?_
    refine sg_ld f169_81 (v := .ref 47) rfl rfl ?_
    refine sg_geti f169_82 rfl rfl (x := (mi2 47 5)) rfl ?_
    refine sg_psh f169_85 (v := .int 1) (by decide) ?_
    refine sg_bin f169_86 rfl ?_
    refine sg_icmp f169_87 (fun c => ?_) (fun c => ?_)
    · have h := h.1 c
      refine sg_psh f169_94 (v := .int 0) (by decide) ?_
      exact sg_iret f169_95 pq169 rfl (by decide) ⟨_, rfl, h⟩
    · have h := h.2 c
      refine sg_psh f169_90 (v := .int 1) (by decide) ?_
      refine sg_goto f169_91 ?_
      exact sg_iret f169_95 pq169 rfl (by decide) ⟨_, rfl, h⟩

/-! X7_isBad (I)Z -/
theorem fe170 (pc : Nat) : gm_fetch 170 pc = gm_find pc cd_170 := rfl
theorem f170_0 : gm_fetch 170 0 = some (1, .aload_n 0, 0, 0, 0, 0) := (fe170 0).trans rfl
theorem f170_1 : gm_fetch 170 1 = some (4, .getfield 22, 94, 7, 10, 0) := (fe170 1).trans rfl
theorem f170_4 : gm_fetch 170 4 = some (5, .iload_n 1, 0, 0, 0, 0) := (fe170 4).trans rfl
theorem f170_5 : gm_fetch 170 5 = some (6, .aload_n 0, 0, 0, 0, 0) := (fe170 5).trans rfl
theorem f170_6 : gm_fetch 170 6 = some (9, .getfield 81, 90, 7, 6, 0) := (fe170 6).trans rfl
theorem f170_9 : gm_fetch 170 9 = some (10, .idiv, 0, 0, 0, 0) := (fe170 9).trans rfl
theorem f170_10 : gm_fetch 170 10 = some (11, .iaload, 0, 0, 0, 0) := (fe170 10).trans rfl
theorem f170_11 : gm_fetch 170 11 = some (12, .i2l, 0, 0, 0, 0) := (fe170 11).trans rfl
theorem f170_12 : gm_fetch 170 12 = some (13, .iload_n 1, 0, 0, 0, 0) := (fe170 12).trans rfl
theorem f170_13 : gm_fetch 170 13 = some (14, .aload_n 0, 0, 0, 0, 0) := (fe170 13).trans rfl
theorem f170_14 : gm_fetch 170 14 = some (17, .getfield 81, 90, 7, 6, 0) := (fe170 14).trans rfl
theorem f170_17 : gm_fetch 170 17 = some (18, .irem, 0, 0, 0, 0) := (fe170 17).trans rfl
theorem f170_18 : gm_fetch 170 18 = some (21, .invokestatic 97, 176, 116, 0, 0) := (fe170 18).trans rfl
theorem f170_21 : gm_fetch 170 21 = some (22, .ireturn, 0, 0, 0, 0) := (fe170 21).trans rfl
set_option maxRecDepth 10000 in
theorem rg170_0 {mi : Mi} {ml : Ml} {F : Int32 → Mi → Ml → Prop} {x1 : Int32}  (h : (¬ (mi 47 6) = 0) ∧ ((vp_in (x1 / (mi 47 6)) 7) ∧ (Sg 116 0 [some (.long (Int32.toInt64 (mi 52 (Int32.toNatClampNeg (x1 / (mi 47 6)))))), none, some (.int (x1 - x1 / (mi 47 6) * (mi 47 6)))] [] mi ml (qi fun y3 mi4 ml5 => (y3 = 0 ∨ y3 = 1) ∧ F y3 mi4 ml5)))) : Sg 170 0 [some (.ref 47), some (.int x1)] [] mi ml (qi F) := by
  refine sg_ld f170_0 (v := .ref 47) rfl rfl ?_
  refine sg_getr f170_1 rfl rfl (w := 52) rfl ?_
  refine sg_ld f170_4 (v := .int x1) rfl rfl ?_
  refine sg_ld f170_5 (v := .ref 47) rfl rfl ?_
  refine sg_geti f170_6 rfl rfl (x := (mi 47 6)) rfl ?_
  obtain ⟨e1, h⟩ := h
  refine sg_div f170_9 e1 ?_
  obtain ⟨e2, h⟩ := h
  refine sg_iald f170_10 rfl e2 (x := (mi 52 (Int32.toNatClampNeg (x1 / (mi 47 6))))) rfl ?_
  refine sg_i2l f170_11 ?_
  refine sg_ld f170_12 (v := .int x1) rfl rfl ?_
  refine sg_ld f170_13 (v := .ref 47) rfl rfl ?_
  refine sg_geti f170_14 rfl rfl (x := (mi 47 6)) rfl ?_
  refine sg_rem f170_17 e1 ?_
  refine sg_cS f170_18 (vs := [.long (Int32.toInt64 (mi 52 (Int32.toNatClampNeg (x1 / (mi 47 6))))), .int (x1 - x1 / (mi 47 6) * (mi 47 6))]) (rest := []) (en := [some (.long (Int32.toInt64 (mi 52 (Int32.toNatClampNeg (x1 / (mi 47 6)))))), none, some (.int (x1 - x1 / (mi 47 6) * (mi 47 6)))]) (by decide) pq116 ⟨rfl, rfl⟩ rfl rfl rfl rfl rfl h ?_
  rintro _ mi4 ml5 ⟨y3, rfl, h⟩
  exact sg_iret f170_21 pq170 rfl (gm_nz h.1) ⟨_, rfl, h.2⟩

/-! X7_beside (II)I -/
theorem fe171 (pc : Nat) : gm_fetch 171 pc = gm_find pc cd_171 := rfl
theorem f171_0 : gm_fetch 171 0 = some (1, .iload_n 1, 0, 0, 0, 0) := (fe171 0).trans rfl
theorem f171_1 : gm_fetch 171 1 = some (2, .aload_n 0, 0, 0, 0, 0) := (fe171 1).trans rfl
theorem f171_2 : gm_fetch 171 2 = some (5, .getfield 81, 90, 7, 6, 0) := (fe171 2).trans rfl
theorem f171_5 : gm_fetch 171 5 = some (6, .irem, 0, 0, 0, 0) := (fe171 5).trans rfl
theorem f171_6 : gm_fetch 171 6 = some (7, .iload_n 2, 0, 0, 0, 0) := (fe171 6).trans rfl
theorem f171_7 : gm_fetch 171 7 = some (10, .ifCond .ne 7, 0, 14, 0, 0) := (fe171 7).trans rfl
theorem f171_10 : gm_fetch 171 10 = some (11, .iconst (-1), 0, 0, 0, 0) := (fe171 10).trans rfl
theorem f171_11 : gm_fetch 171 11 = some (14, .goto 13, 0, 24, 0, 0) := (fe171 11).trans rfl
theorem f171_14 : gm_fetch 171 14 = some (15, .iload_n 2, 0, 0, 0, 0) := (fe171 14).trans rfl
theorem f171_15 : gm_fetch 171 15 = some (16, .iconst 2, 0, 0, 0, 0) := (fe171 15).trans rfl
theorem f171_16 : gm_fetch 171 16 = some (19, .if_icmp .ne 7, 0, 23, 0, 0) := (fe171 16).trans rfl
theorem f171_19 : gm_fetch 171 19 = some (20, .iconst 1, 0, 0, 0, 0) := (fe171 19).trans rfl
theorem f171_20 : gm_fetch 171 20 = some (23, .goto 4, 0, 24, 0, 0) := (fe171 20).trans rfl
theorem f171_23 : gm_fetch 171 23 = some (24, .iconst 0, 0, 0, 0, 0) := (fe171 23).trans rfl
theorem f171_24 : gm_fetch 171 24 = some (25, .iadd, 0, 0, 0, 0) := (fe171 24).trans rfl
theorem f171_25 : gm_fetch 171 25 = some (26, .istore_n 3, 0, 0, 0, 0) := (fe171 25).trans rfl
theorem f171_26 : gm_fetch 171 26 = some (27, .iload_n 1, 0, 0, 0, 0) := (fe171 26).trans rfl
theorem f171_27 : gm_fetch 171 27 = some (28, .aload_n 0, 0, 0, 0, 0) := (fe171 27).trans rfl
theorem f171_28 : gm_fetch 171 28 = some (31, .getfield 81, 90, 7, 6, 0) := (fe171 28).trans rfl
theorem f171_31 : gm_fetch 171 31 = some (32, .idiv, 0, 0, 0, 0) := (fe171 31).trans rfl
theorem f171_32 : gm_fetch 171 32 = some (33, .iload_n 2, 0, 0, 0, 0) := (fe171 32).trans rfl
theorem f171_33 : gm_fetch 171 33 = some (34, .iconst 1, 0, 0, 0, 0) := (fe171 33).trans rfl
theorem f171_34 : gm_fetch 171 34 = some (37, .if_icmp .ne 7, 0, 41, 0, 0) := (fe171 34).trans rfl
theorem f171_37 : gm_fetch 171 37 = some (38, .iconst (-1), 0, 0, 0, 0) := (fe171 37).trans rfl
theorem f171_38 : gm_fetch 171 38 = some (41, .goto 13, 0, 51, 0, 0) := (fe171 38).trans rfl
theorem f171_41 : gm_fetch 171 41 = some (42, .iload_n 2, 0, 0, 0, 0) := (fe171 41).trans rfl
theorem f171_42 : gm_fetch 171 42 = some (43, .iconst 3, 0, 0, 0, 0) := (fe171 42).trans rfl
theorem f171_43 : gm_fetch 171 43 = some (46, .if_icmp .ne 7, 0, 50, 0, 0) := (fe171 43).trans rfl
theorem f171_46 : gm_fetch 171 46 = some (47, .iconst 1, 0, 0, 0, 0) := (fe171 46).trans rfl
theorem f171_47 : gm_fetch 171 47 = some (50, .goto 4, 0, 51, 0, 0) := (fe171 47).trans rfl
theorem f171_50 : gm_fetch 171 50 = some (51, .iconst 0, 0, 0, 0, 0) := (fe171 50).trans rfl
theorem f171_51 : gm_fetch 171 51 = some (52, .iadd, 0, 0, 0, 0) := (fe171 51).trans rfl
theorem f171_52 : gm_fetch 171 52 = some (54, .istore 4, 0, 0, 0, 0) := (fe171 52).trans rfl
theorem f171_54 : gm_fetch 171 54 = some (55, .aload_n 0, 0, 0, 0, 0) := (fe171 54).trans rfl
theorem f171_55 : gm_fetch 171 55 = some (56, .iload_n 3, 0, 0, 0, 0) := (fe171 55).trans rfl
theorem f171_56 : gm_fetch 171 56 = some (58, .iload 4, 0, 0, 0, 0) := (fe171 56).trans rfl
theorem f171_58 : gm_fetch 171 58 = some (61, .invokevirtual 143, 172, 130, 0, 0) := (fe171 58).trans rfl
theorem f171_61 : gm_fetch 171 61 = some (64, .ifCond .eq 15, 0, 76, 0, 0) := (fe171 61).trans rfl
theorem f171_64 : gm_fetch 171 64 = some (66, .iload 4, 0, 0, 0, 0) := (fe171 64).trans rfl
theorem f171_66 : gm_fetch 171 66 = some (67, .aload_n 0, 0, 0, 0, 0) := (fe171 66).trans rfl
theorem f171_67 : gm_fetch 171 67 = some (70, .getfield 81, 90, 7, 6, 0) := (fe171 67).trans rfl
theorem f171_70 : gm_fetch 171 70 = some (71, .imul, 0, 0, 0, 0) := (fe171 70).trans rfl
theorem f171_71 : gm_fetch 171 71 = some (72, .iload_n 3, 0, 0, 0, 0) := (fe171 71).trans rfl
theorem f171_72 : gm_fetch 171 72 = some (73, .iadd, 0, 0, 0, 0) := (fe171 72).trans rfl
theorem f171_73 : gm_fetch 171 73 = some (76, .goto 4, 0, 77, 0, 0) := (fe171 73).trans rfl
theorem f171_76 : gm_fetch 171 76 = some (77, .iconst (-1), 0, 0, 0, 0) := (fe171 76).trans rfl
theorem f171_77 : gm_fetch 171 77 = some (78, .ireturn, 0, 0, 0, 0) := (fe171 77).trans rfl
set_option maxRecDepth 10000 in
theorem rg171_0 {mi : Mi} {ml : Ml} {F : Int32 → Mi → Ml → Prop} {x1 : Int32} {x2 : Int32}  (h : (¬ (mi 47 6) = 0) ∧ (((¬ x2 = 0) → ((¬ x2 = 2) → Sg 171 24 [some (.ref 47), some (.int x1), some (.int x2), none, none] [.int 0, .int (x1 - x1 / (mi 47 6) * (mi 47 6))] mi ml (qi F)) ∧ (¬ (¬ x2 = 2) → Sg 171 24 [some (.ref 47), some (.int x1), some (.int x2), none, none] [.int 1, .int (x1 - x1 / (mi 47 6) * (mi 47 6))] mi ml (qi F))) ∧ (¬ (¬ x2 = 0) → Sg 171 24 [some (.ref 47), some (.int x1), some (.int x2), none, none] [.int (-1), .int (x1 - x1 / (mi 47 6) * (mi 47 6))] mi ml (qi F)))) : Sg 171 0 [some (.ref 47), some (.int x1), some (.int x2), none, none] [] mi ml (qi F) := by
  refine sg_ld f171_0 (v := .int x1) rfl rfl ?_
  refine sg_ld f171_1 (v := .ref 47) rfl rfl ?_
  refine sg_geti f171_2 rfl rfl (x := (mi 47 6)) rfl ?_
  obtain ⟨e1, h⟩ := h
  refine sg_rem f171_5 e1 ?_
  refine sg_ld f171_6 (v := .int x2) rfl rfl ?_
  refine sg_if f171_7 (fun c => ?_) (fun c => ?_)
  · have h := h.1 c
    refine sg_ld f171_14 (v := .int x2) rfl rfl ?_
    refine sg_psh f171_15 (v := .int 2) (by decide) ?_
    refine sg_icmp f171_16 (fun c => ?_) (fun c => ?_)
    · have h := h.1 c
      refine sg_psh f171_23 (v := .int 0) (by decide) ?_
      exact h
    · have h := h.2 c
      refine sg_psh f171_19 (v := .int 1) (by decide) ?_
      refine sg_goto f171_20 ?_
      exact h
  · have h := h.2 c
    refine sg_psh f171_10 (v := .int (-1)) (by decide) ?_
    refine sg_goto f171_11 ?_
    exact h

set_option maxRecDepth 10000 in
theorem rg171_24 {mi : Mi} {ml : Ml} {F : Int32 → Mi → Ml → Prop} {x1 : Int32} {x2 : Int32} {s0 : Int32} {s1 : Int32}  (h : (¬ (mi 47 6) = 0) ∧ (((¬ x2 = 1) → ((¬ x2 = 3) → Sg 171 51 [some (.ref 47), some (.int x1), some (.int x2), some (.int (s1 + s0)), none] [.int 0, .int (x1 / (mi 47 6))] mi ml (qi F)) ∧ (¬ (¬ x2 = 3) → Sg 171 51 [some (.ref 47), some (.int x1), some (.int x2), some (.int (s1 + s0)), none] [.int 1, .int (x1 / (mi 47 6))] mi ml (qi F))) ∧ (¬ (¬ x2 = 1) → Sg 171 51 [some (.ref 47), some (.int x1), some (.int x2), some (.int (s1 + s0)), none] [.int (-1), .int (x1 / (mi 47 6))] mi ml (qi F)))) : Sg 171 24 [some (.ref 47), some (.int x1), some (.int x2), none, none] [.int s0, .int s1] mi ml (qi F) := by
  refine sg_bin f171_24 rfl ?_
  refine sg_st1 f171_25 (ls' := [some (.ref 47), some (.int x1), some (.int x2), some (.int (s1 + s0)), none]) rfl rfl rfl rfl ?_
  refine sg_ld f171_26 (v := .int x1) rfl rfl ?_
  refine sg_ld f171_27 (v := .ref 47) rfl rfl ?_
  refine sg_geti f171_28 rfl rfl (x := (mi 47 6)) rfl ?_
  obtain ⟨e1, h⟩ := h
  refine sg_div f171_31 e1 ?_
  refine sg_ld f171_32 (v := .int x2) rfl rfl ?_
  refine sg_psh f171_33 (v := .int 1) (by decide) ?_
  refine sg_icmp f171_34 (fun c => ?_) (fun c => ?_)
  · have h := h.1 c
    refine sg_ld f171_41 (v := .int x2) rfl rfl ?_
    refine sg_psh f171_42 (v := .int 3) (by decide) ?_
    refine sg_icmp f171_43 (fun c => ?_) (fun c => ?_)
    · have h := h.1 c
      refine sg_psh f171_50 (v := .int 0) (by decide) ?_
      exact h
    · have h := h.2 c
      refine sg_psh f171_46 (v := .int 1) (by decide) ?_
      refine sg_goto f171_47 ?_
      exact h
  · have h := h.2 c
    refine sg_psh f171_37 (v := .int (-1)) (by decide) ?_
    refine sg_goto f171_38 ?_
    exact h

set_option maxRecDepth 10000 in
theorem rg171_51 {mi : Mi} {ml : Ml} {F : Int32 → Mi → Ml → Prop} {x1 : Int32} {x2 : Int32} {x3 : Int32} {s0 : Int32} {s1 : Int32}  (h : Sg 130 0 [some (.ref 47), some (.int x3), some (.int (s1 + s0))] [] mi ml (qi fun y1 mi2 ml3 => ((y1 = 0) → F (-1) mi2 ml3) ∧ (¬ (y1 = 0) → F (((s1 + s0) * (mi2 47 6)) + x3) mi2 ml3))) : Sg 171 51 [some (.ref 47), some (.int x1), some (.int x2), some (.int x3), none] [.int s0, .int s1] mi ml (qi F) := by
  refine sg_bin f171_51 rfl ?_
  refine sg_st1 f171_52 (ls' := [some (.ref 47), some (.int x1), some (.int x2), some (.int x3), some (.int (s1 + s0))]) rfl rfl rfl rfl ?_
  refine sg_ld f171_54 (v := .ref 47) rfl rfl ?_
  refine sg_ld f171_55 (v := .int x3) rfl rfl ?_
  refine sg_ld f171_56 (v := .int (s1 + s0)) rfl rfl ?_
  refine sg_cV f171_58 (vs := [.int x3, .int (s1 + s0)]) (r := 47) (rest := []) (en := [some (.ref 47), some (.int x3), some (.int (s1 + s0))]) pq130 ⟨rfl, rfl⟩ rfl rfl rfl rfl rfl rfl h ?_
  rintro _ mi2 ml3 ⟨y1, rfl, h⟩
  refine sg_if f171_61 (fun c => ?_) (fun c => ?_)
  · have h := h.1 c
    refine sg_psh f171_76 (v := .int (-1)) (by decide) ?_
    exact sg_iret f171_77 pq171 rfl rfl ⟨_, rfl, h⟩
  · have h := h.2 c
    refine sg_ld f171_64 (v := .int (s1 + s0)) rfl rfl ?_
    refine sg_ld f171_66 (v := .ref 47) rfl rfl ?_
    refine sg_geti f171_67 rfl rfl (x := (mi2 47 6)) rfl ?_
    refine sg_bin f171_70 rfl ?_
    refine sg_ld f171_71 (v := .int x3) rfl rfl ?_
    refine sg_bin f171_72 rfl ?_
    refine sg_goto f171_73 ?_
    exact sg_iret f171_77 pq171 rfl rfl ⟨_, rfl, h⟩

/-! X7_reaches (II)V -/
theorem fe172 (pc : Nat) : gm_fetch 172 pc = gm_find pc cd_172 := rfl
theorem f172_0 : gm_fetch 172 0 = some (1, .aload_n 0, 0, 0, 0, 0) := (fe172 0).trans rfl
theorem f172_1 : gm_fetch 172 1 = some (4, .getfield 59, 109, 7, 25, 0) := (fe172 1).trans rfl
theorem f172_4 : gm_fetch 172 4 = some (5, .iload_n 1, 0, 0, 0, 0) := (fe172 4).trans rfl
theorem f172_5 : gm_fetch 172 5 = some (6, .iaload, 0, 0, 0, 0) := (fe172 5).trans rfl
theorem f172_6 : gm_fetch 172 6 = some (8, .bipush (-2), 0, 0, 0, 0) := (fe172 6).trans rfl
theorem f172_8 : gm_fetch 172 8 = some (11, .if_icmp .ne 30, 0, 38, 0, 0) := (fe172 8).trans rfl
theorem f172_11 : gm_fetch 172 11 = some (12, .aload_n 0, 0, 0, 0, 0) := (fe172 11).trans rfl
theorem f172_12 : gm_fetch 172 12 = some (15, .getfield 59, 109, 7, 25, 0) := (fe172 12).trans rfl
theorem f172_15 : gm_fetch 172 15 = some (16, .iload_n 1, 0, 0, 0, 0) := (fe172 15).trans rfl
theorem f172_16 : gm_fetch 172 16 = some (17, .iload_n 2, 0, 0, 0, 0) := (fe172 16).trans rfl
theorem f172_17 : gm_fetch 172 17 = some (18, .iastore, 0, 0, 0, 0) := (fe172 17).trans rfl
theorem f172_18 : gm_fetch 172 18 = some (19, .aload_n 0, 0, 0, 0, 0) := (fe172 18).trans rfl
theorem f172_19 : gm_fetch 172 19 = some (22, .getfield 62, 110, 7, 26, 0) := (fe172 19).trans rfl
theorem f172_22 : gm_fetch 172 22 = some (23, .aload_n 0, 0, 0, 0, 0) := (fe172 22).trans rfl
theorem f172_23 : gm_fetch 172 23 = some (26, .getfield 229, 111, 7, 27, 0) := (fe172 23).trans rfl
theorem f172_26 : gm_fetch 172 26 = some (27, .iload_n 1, 0, 0, 0, 0) := (fe172 26).trans rfl
theorem f172_27 : gm_fetch 172 27 = some (28, .iastore, 0, 0, 0, 0) := (fe172 27).trans rfl
theorem f172_28 : gm_fetch 172 28 = some (29, .aload_n 0, 0, 0, 0, 0) := (fe172 28).trans rfl
theorem f172_29 : gm_fetch 172 29 = some (30, .dup, 0, 0, 0, 0) := (fe172 29).trans rfl
theorem f172_30 : gm_fetch 172 30 = some (33, .getfield 229, 111, 7, 27, 0) := (fe172 30).trans rfl
theorem f172_33 : gm_fetch 172 33 = some (34, .iconst 1, 0, 0, 0, 0) := (fe172 33).trans rfl
theorem f172_34 : gm_fetch 172 34 = some (35, .iadd, 0, 0, 0, 0) := (fe172 34).trans rfl
theorem f172_35 : gm_fetch 172 35 = some (38, .putfield 229, 111, 7, 27, 0) := (fe172 35).trans rfl
theorem f172_38 : gm_fetch 172 38 = some (39, .return_, 0, 0, 0, 0) := (fe172 38).trans rfl
set_option maxRecDepth 10000 in
theorem rg172_0 {mi : Mi} {ml : Ml} {F : Mi → Ml → Prop} {x1 : Int32} {x2 : Int32}  (h : (vp_in x1 98) ∧ (((¬ (mi 64 (Int32.toNatClampNeg x1)) = (-2)) → F mi ml) ∧ (¬ (¬ (mi 64 (Int32.toNatClampNeg x1)) = (-2)) → (vp_in (mi 47 27) 98) ∧ (F (va_up (va_up (va_up mi 64 (va_up (mi 64) (Int32.toNatClampNeg x1) x2)) 65 (va_up (mi 65) (Int32.toNatClampNeg (mi 47 27)) x1)) 47 (va_up (mi 47) 27 ((mi 47 27) + 1))) ml)))) : Sg 172 0 [some (.ref 47), some (.int x1), some (.int x2)] [] mi ml (qv F) := by
  refine sg_ld f172_0 (v := .ref 47) rfl rfl ?_
  refine sg_getr f172_1 rfl rfl (w := 64) rfl ?_
  refine sg_ld f172_4 (v := .int x1) rfl rfl ?_
  obtain ⟨e1, h⟩ := h
  refine sg_iald f172_5 rfl e1 (x := (mi 64 (Int32.toNatClampNeg x1))) rfl ?_
  refine sg_psh f172_6 (v := .int (-2)) (by decide) ?_
  refine sg_icmp f172_8 (fun c => ?_) (fun c => ?_)
  · have h := h.1 c
    exact sg_ret f172_38 pq172 rfl h
  · have h := h.2 c
    refine sg_ld f172_11 (v := .ref 47) rfl rfl ?_
    refine sg_getr f172_12 rfl rfl (w := 64) rfl ?_
    refine sg_ld f172_15 (v := .int x1) rfl rfl ?_
    refine sg_ld f172_16 (v := .int x2) rfl rfl ?_
    refine sg_iast f172_17 rfl e1 ?_
    refine sg_ld f172_18 (v := .ref 47) rfl rfl ?_
    refine sg_getr f172_19 rfl rfl (w := 65) rfl ?_
    refine sg_ld f172_22 (v := .ref 47) rfl rfl ?_
    refine sg_geti f172_23 rfl rfl (x := (mi 47 27)) rfl ?_
    refine sg_ld f172_26 (v := .int x1) rfl rfl ?_
    obtain ⟨e2, h⟩ := h
    refine sg_iast f172_27 rfl e2 ?_
    refine sg_ld f172_28 (v := .ref 47) rfl rfl ?_
    refine sg_dup f172_29 rfl ?_
    refine sg_geti f172_30 rfl rfl (x := (mi 47 27)) rfl ?_
    refine sg_psh f172_33 (v := .int 1) (by decide) ?_
    refine sg_bin f172_34 rfl ?_
    refine sg_puti f172_35 rfl rfl rfl (fun hz => by cases hz) ?_
    exact sg_ret f172_38 pq172 rfl h

/-! X7_goesOn (I)V -/
theorem fe173 (pc : Nat) : gm_fetch 173 pc = gm_find pc cd_173 := rfl
set_option maxRecDepth 10000 in
theorem f173_0 : gm_fetch 173 0 = some (1, .iload_n 1, 0, 0, 0, 0) := (fe173 0).trans rfl
set_option maxRecDepth 10000 in
theorem f173_1 : gm_fetch 173 1 = some (2, .iconst 2, 0, 0, 0, 0) := (fe173 1).trans rfl
set_option maxRecDepth 10000 in
theorem f173_2 : gm_fetch 173 2 = some (3, .idiv, 0, 0, 0, 0) := (fe173 2).trans rfl
set_option maxRecDepth 10000 in
theorem f173_3 : gm_fetch 173 3 = some (4, .istore_n 2, 0, 0, 0, 0) := (fe173 3).trans rfl
set_option maxRecDepth 10000 in
theorem f173_4 : gm_fetch 173 4 = some (5, .iload_n 1, 0, 0, 0, 0) := (fe173 4).trans rfl
set_option maxRecDepth 10000 in
theorem f173_5 : gm_fetch 173 5 = some (6, .iconst 2, 0, 0, 0, 0) := (fe173 5).trans rfl
set_option maxRecDepth 10000 in
theorem f173_6 : gm_fetch 173 6 = some (7, .irem, 0, 0, 0, 0) := (fe173 6).trans rfl
set_option maxRecDepth 10000 in
theorem f173_7 : gm_fetch 173 7 = some (10, .ifCond .ne 77, 0, 84, 0, 0) := (fe173 7).trans rfl
set_option maxRecDepth 10000 in
theorem f173_10 : gm_fetch 173 10 = some (11, .aload_n 0, 0, 0, 0, 0) := (fe173 10).trans rfl
set_option maxRecDepth 10000 in
theorem f173_11 : gm_fetch 173 11 = some (14, .getfield 53, 107, 7, 23, 0) := (fe173 11).trans rfl
set_option maxRecDepth 10000 in
theorem f173_14 : gm_fetch 173 14 = some (15, .iload_n 2, 0, 0, 0, 0) := (fe173 14).trans rfl
set_option maxRecDepth 10000 in
theorem f173_15 : gm_fetch 173 15 = some (16, .baload, 0, 0, 0, 0) := (fe173 15).trans rfl
set_option maxRecDepth 10000 in
theorem f173_16 : gm_fetch 173 16 = some (19, .ifCond .ne 11, 0, 27, 0, 0) := (fe173 16).trans rfl
set_option maxRecDepth 10000 in
theorem f173_19 : gm_fetch 173 19 = some (20, .aload_n 0, 0, 0, 0, 0) := (fe173 19).trans rfl
set_option maxRecDepth 10000 in
theorem f173_20 : gm_fetch 173 20 = some (21, .iload_n 1, 0, 0, 0, 0) := (fe173 20).trans rfl
set_option maxRecDepth 10000 in
theorem f173_21 : gm_fetch 173 21 = some (22, .iconst 1, 0, 0, 0, 0) := (fe173 21).trans rfl
set_option maxRecDepth 10000 in
theorem f173_22 : gm_fetch 173 22 = some (23, .iadd, 0, 0, 0, 0) := (fe173 22).trans rfl
set_option maxRecDepth 10000 in
theorem f173_23 : gm_fetch 173 23 = some (24, .iload_n 1, 0, 0, 0, 0) := (fe173 23).trans rfl
set_option maxRecDepth 10000 in
theorem f173_24 : gm_fetch 173 24 = some (27, .invokevirtual 232, 215, 172, 0, 0) := (fe173 24).trans rfl
set_option maxRecDepth 10000 in
theorem f173_27 : gm_fetch 173 27 = some (28, .iconst 0, 0, 0, 0, 0) := (fe173 27).trans rfl
set_option maxRecDepth 10000 in
theorem f173_28 : gm_fetch 173 28 = some (29, .istore_n 3, 0, 0, 0, 0) := (fe173 28).trans rfl
set_option maxRecDepth 10000 in
theorem f173_29 : gm_fetch 173 29 = some (30, .iload_n 3, 0, 0, 0, 0) := (fe173 29).trans rfl
set_option maxRecDepth 10000 in
theorem f173_30 : gm_fetch 173 30 = some (31, .iconst 4, 0, 0, 0, 0) := (fe173 30).trans rfl
set_option maxRecDepth 10000 in
theorem f173_31 : gm_fetch 173 31 = some (34, .if_icmp .ge 52, 0, 83, 0, 0) := (fe173 31).trans rfl
set_option maxRecDepth 10000 in
theorem f173_34 : gm_fetch 173 34 = some (35, .aload_n 0, 0, 0, 0, 0) := (fe173 34).trans rfl
set_option maxRecDepth 10000 in
theorem f173_35 : gm_fetch 173 35 = some (36, .iload_n 2, 0, 0, 0, 0) := (fe173 35).trans rfl
set_option maxRecDepth 10000 in
theorem f173_36 : gm_fetch 173 36 = some (37, .iload_n 3, 0, 0, 0, 0) := (fe173 36).trans rfl
set_option maxRecDepth 10000 in
theorem f173_37 : gm_fetch 173 37 = some (40, .invokevirtual 235, 218, 171, 0, 0) := (fe173 37).trans rfl
set_option maxRecDepth 10000 in
theorem f173_40 : gm_fetch 173 40 = some (42, .istore 4, 0, 0, 0, 0) := (fe173 40).trans rfl
set_option maxRecDepth 10000 in
theorem f173_42 : gm_fetch 173 42 = some (44, .iload 4, 0, 0, 0, 0) := (fe173 42).trans rfl
set_option maxRecDepth 10000 in
theorem f173_44 : gm_fetch 173 44 = some (45, .iconst (-1), 0, 0, 0, 0) := (fe173 44).trans rfl
set_option maxRecDepth 10000 in
theorem f173_45 : gm_fetch 173 45 = some (48, .if_icmp .eq 32, 0, 77, 0, 0) := (fe173 45).trans rfl
set_option maxRecDepth 10000 in
theorem f173_48 : gm_fetch 173 48 = some (49, .aload_n 0, 0, 0, 0, 0) := (fe173 48).trans rfl
set_option maxRecDepth 10000 in
theorem f173_49 : gm_fetch 173 49 = some (52, .getfield 56, 108, 7, 24, 0) := (fe173 49).trans rfl
set_option maxRecDepth 10000 in
theorem f173_52 : gm_fetch 173 52 = some (53, .iconst 4, 0, 0, 0, 0) := (fe173 52).trans rfl
set_option maxRecDepth 10000 in
theorem f173_53 : gm_fetch 173 53 = some (55, .iload 4, 0, 0, 0, 0) := (fe173 53).trans rfl
set_option maxRecDepth 10000 in
theorem f173_55 : gm_fetch 173 55 = some (56, .imul, 0, 0, 0, 0) := (fe173 55).trans rfl
set_option maxRecDepth 10000 in
theorem f173_56 : gm_fetch 173 56 = some (57, .iload_n 3, 0, 0, 0, 0) := (fe173 56).trans rfl
set_option maxRecDepth 10000 in
theorem f173_57 : gm_fetch 173 57 = some (58, .iconst 2, 0, 0, 0, 0) := (fe173 57).trans rfl
set_option maxRecDepth 10000 in
theorem f173_58 : gm_fetch 173 58 = some (59, .iadd, 0, 0, 0, 0) := (fe173 58).trans rfl
set_option maxRecDepth 10000 in
theorem f173_59 : gm_fetch 173 59 = some (60, .iconst 4, 0, 0, 0, 0) := (fe173 59).trans rfl
set_option maxRecDepth 10000 in
theorem f173_60 : gm_fetch 173 60 = some (61, .irem, 0, 0, 0, 0) := (fe173 60).trans rfl
set_option maxRecDepth 10000 in
theorem f173_61 : gm_fetch 173 61 = some (62, .iadd, 0, 0, 0, 0) := (fe173 61).trans rfl
set_option maxRecDepth 10000 in
theorem f173_62 : gm_fetch 173 62 = some (63, .baload, 0, 0, 0, 0) := (fe173 62).trans rfl
set_option maxRecDepth 10000 in
theorem f173_63 : gm_fetch 173 63 = some (66, .ifCond .eq 14, 0, 77, 0, 0) := (fe173 63).trans rfl
set_option maxRecDepth 10000 in
theorem f173_66 : gm_fetch 173 66 = some (67, .aload_n 0, 0, 0, 0, 0) := (fe173 66).trans rfl
set_option maxRecDepth 10000 in
theorem f173_67 : gm_fetch 173 67 = some (68, .iconst 2, 0, 0, 0, 0) := (fe173 67).trans rfl
set_option maxRecDepth 10000 in
theorem f173_68 : gm_fetch 173 68 = some (70, .iload 4, 0, 0, 0, 0) := (fe173 68).trans rfl
set_option maxRecDepth 10000 in
theorem f173_70 : gm_fetch 173 70 = some (71, .imul, 0, 0, 0, 0) := (fe173 70).trans rfl
set_option maxRecDepth 10000 in
theorem f173_71 : gm_fetch 173 71 = some (72, .iconst 1, 0, 0, 0, 0) := (fe173 71).trans rfl
set_option maxRecDepth 10000 in
theorem f173_72 : gm_fetch 173 72 = some (73, .iadd, 0, 0, 0, 0) := (fe173 72).trans rfl
set_option maxRecDepth 10000 in
theorem f173_73 : gm_fetch 173 73 = some (74, .iload_n 1, 0, 0, 0, 0) := (fe173 73).trans rfl
set_option maxRecDepth 10000 in
theorem f173_74 : gm_fetch 173 74 = some (77, .invokevirtual 232, 215, 172, 0, 0) := (fe173 74).trans rfl
set_option maxRecDepth 10000 in
theorem f173_77 : gm_fetch 173 77 = some (80, .iinc 3 1, 0, 0, 0, 0) := (fe173 77).trans rfl
set_option maxRecDepth 10000 in
theorem f173_80 : gm_fetch 173 80 = some (83, .goto (-51), 0, 29, 0, 0) := (fe173 80).trans rfl
set_option maxRecDepth 10000 in
theorem f173_83 : gm_fetch 173 83 = some (84, .return_, 0, 0, 0, 0) := (fe173 83).trans rfl
set_option maxRecDepth 10000 in
theorem f173_84 : gm_fetch 173 84 = some (85, .aload_n 0, 0, 0, 0, 0) := (fe173 84).trans rfl
set_option maxRecDepth 10000 in
theorem f173_85 : gm_fetch 173 85 = some (88, .getfield 53, 107, 7, 23, 0) := (fe173 85).trans rfl
set_option maxRecDepth 10000 in
theorem f173_88 : gm_fetch 173 88 = some (89, .iload_n 2, 0, 0, 0, 0) := (fe173 88).trans rfl
set_option maxRecDepth 10000 in
theorem f173_89 : gm_fetch 173 89 = some (90, .baload, 0, 0, 0, 0) := (fe173 89).trans rfl
set_option maxRecDepth 10000 in
theorem f173_90 : gm_fetch 173 90 = some (93, .ifCond .eq 11, 0, 101, 0, 0) := (fe173 90).trans rfl
set_option maxRecDepth 10000 in
theorem f173_93 : gm_fetch 173 93 = some (94, .aload_n 0, 0, 0, 0, 0) := (fe173 93).trans rfl
set_option maxRecDepth 10000 in
theorem f173_94 : gm_fetch 173 94 = some (95, .iload_n 1, 0, 0, 0, 0) := (fe173 94).trans rfl
set_option maxRecDepth 10000 in
theorem f173_95 : gm_fetch 173 95 = some (96, .iconst 1, 0, 0, 0, 0) := (fe173 95).trans rfl
set_option maxRecDepth 10000 in
theorem f173_96 : gm_fetch 173 96 = some (97, .isub, 0, 0, 0, 0) := (fe173 96).trans rfl
set_option maxRecDepth 10000 in
theorem f173_97 : gm_fetch 173 97 = some (98, .iload_n 1, 0, 0, 0, 0) := (fe173 97).trans rfl
set_option maxRecDepth 10000 in
theorem f173_98 : gm_fetch 173 98 = some (101, .invokevirtual 232, 215, 172, 0, 0) := (fe173 98).trans rfl
set_option maxRecDepth 10000 in
theorem f173_101 : gm_fetch 173 101 = some (102, .iconst 0, 0, 0, 0, 0) := (fe173 101).trans rfl
set_option maxRecDepth 10000 in
theorem f173_102 : gm_fetch 173 102 = some (103, .istore_n 3, 0, 0, 0, 0) := (fe173 102).trans rfl
set_option maxRecDepth 10000 in
theorem f173_103 : gm_fetch 173 103 = some (104, .iload_n 3, 0, 0, 0, 0) := (fe173 103).trans rfl
set_option maxRecDepth 10000 in
theorem f173_104 : gm_fetch 173 104 = some (105, .iconst 4, 0, 0, 0, 0) := (fe173 104).trans rfl
set_option maxRecDepth 10000 in
theorem f173_105 : gm_fetch 173 105 = some (108, .if_icmp .ge 41, 0, 146, 0, 0) := (fe173 105).trans rfl
set_option maxRecDepth 10000 in
theorem f173_108 : gm_fetch 173 108 = some (109, .aload_n 0, 0, 0, 0, 0) := (fe173 108).trans rfl
set_option maxRecDepth 10000 in
theorem f173_109 : gm_fetch 173 109 = some (110, .iload_n 2, 0, 0, 0, 0) := (fe173 109).trans rfl
set_option maxRecDepth 10000 in
theorem f173_110 : gm_fetch 173 110 = some (111, .iload_n 3, 0, 0, 0, 0) := (fe173 110).trans rfl
set_option maxRecDepth 10000 in
theorem f173_111 : gm_fetch 173 111 = some (114, .invokevirtual 235, 218, 171, 0, 0) := (fe173 111).trans rfl
set_option maxRecDepth 10000 in
theorem f173_114 : gm_fetch 173 114 = some (116, .istore 4, 0, 0, 0, 0) := (fe173 114).trans rfl
set_option maxRecDepth 10000 in
theorem f173_116 : gm_fetch 173 116 = some (118, .iload 4, 0, 0, 0, 0) := (fe173 116).trans rfl
set_option maxRecDepth 10000 in
theorem f173_118 : gm_fetch 173 118 = some (119, .iconst (-1), 0, 0, 0, 0) := (fe173 118).trans rfl
set_option maxRecDepth 10000 in
theorem f173_119 : gm_fetch 173 119 = some (122, .if_icmp .eq 21, 0, 140, 0, 0) := (fe173 119).trans rfl
set_option maxRecDepth 10000 in
theorem f173_122 : gm_fetch 173 122 = some (123, .aload_n 0, 0, 0, 0, 0) := (fe173 122).trans rfl
set_option maxRecDepth 10000 in
theorem f173_123 : gm_fetch 173 123 = some (125, .iload 4, 0, 0, 0, 0) := (fe173 123).trans rfl
set_option maxRecDepth 10000 in
theorem f173_125 : gm_fetch 173 125 = some (128, .invokevirtual 238, 214, 170, 0, 0) := (fe173 125).trans rfl
set_option maxRecDepth 10000 in
theorem f173_128 : gm_fetch 173 128 = some (131, .ifCond .ne 12, 0, 140, 0, 0) := (fe173 128).trans rfl
set_option maxRecDepth 10000 in
theorem f173_131 : gm_fetch 173 131 = some (132, .aload_n 0, 0, 0, 0, 0) := (fe173 131).trans rfl
set_option maxRecDepth 10000 in
theorem f173_132 : gm_fetch 173 132 = some (133, .iconst 2, 0, 0, 0, 0) := (fe173 132).trans rfl
set_option maxRecDepth 10000 in
theorem f173_133 : gm_fetch 173 133 = some (135, .iload 4, 0, 0, 0, 0) := (fe173 133).trans rfl
set_option maxRecDepth 10000 in
theorem f173_135 : gm_fetch 173 135 = some (136, .imul, 0, 0, 0, 0) := (fe173 135).trans rfl
set_option maxRecDepth 10000 in
theorem f173_136 : gm_fetch 173 136 = some (137, .iload_n 1, 0, 0, 0, 0) := (fe173 136).trans rfl
set_option maxRecDepth 10000 in
theorem f173_137 : gm_fetch 173 137 = some (140, .invokevirtual 232, 215, 172, 0, 0) := (fe173 137).trans rfl
set_option maxRecDepth 10000 in
theorem f173_140 : gm_fetch 173 140 = some (143, .iinc 3 1, 0, 0, 0, 0) := (fe173 140).trans rfl
set_option maxRecDepth 10000 in
theorem f173_143 : gm_fetch 173 143 = some (146, .goto (-40), 0, 103, 0, 0) := (fe173 143).trans rfl
set_option maxRecDepth 10000 in
theorem f173_146 : gm_fetch 173 146 = some (147, .return_, 0, 0, 0, 0) := (fe173 146).trans rfl
set_option maxRecDepth 10000 in
theorem rg173_0 {mi : Mi} {ml : Ml} {F : Mi → Ml → Prop} {x1 : Int32}  (h : ((¬ (x1 - x1 / 2 * 2) = 0) → (vp_in (x1 / 2) 49) ∧ ((((mi 62 (Int32.toNatClampNeg (x1 / 2))) = 0) → Sg 173 103 [some (.ref 47), some (.int x1), some (.int (x1 / 2)), some (.int 0), none] [] mi ml (qv F)) ∧ (¬ ((mi 62 (Int32.toNatClampNeg (x1 / 2))) = 0) → Sg 172 0 [some (.ref 47), some (.int (x1 - 1)), some (.int x1)] [] mi ml (qv fun mi3 ml4 => Sg 173 103 [some (.ref 47), some (.int x1), some (.int (x1 / 2)), some (.int 0), none] [] mi3 ml4 (qv F))))) ∧ (¬ (¬ (x1 - x1 / 2 * 2) = 0) → (vp_in (x1 / 2) 49) ∧ (((¬ (mi 62 (Int32.toNatClampNeg (x1 / 2))) = 0) → Sg 173 29 [some (.ref 47), some (.int x1), some (.int (x1 / 2)), some (.int 0), none] [] mi ml (qv F)) ∧ (¬ (¬ (mi 62 (Int32.toNatClampNeg (x1 / 2))) = 0) → Sg 172 0 [some (.ref 47), some (.int (x1 + 1)), some (.int x1)] [] mi ml (qv fun mi7 ml8 => Sg 173 29 [some (.ref 47), some (.int x1), some (.int (x1 / 2)), some (.int 0), none] [] mi7 ml8 (qv F)))))) : Sg 173 0 [some (.ref 47), some (.int x1), none, none, none] [] mi ml (qv F) := by
  refine sg_ld f173_0 (v := .int x1) rfl rfl ?_
  refine sg_psh f173_1 (v := .int 2) (by decide) ?_
  refine sg_div f173_2 (by decide) ?_
  refine sg_st1 f173_3 (ls' := [some (.ref 47), some (.int x1), some (.int (x1 / 2)), none, none]) rfl rfl rfl rfl ?_
  refine sg_ld f173_4 (v := .int x1) rfl rfl ?_
  refine sg_psh f173_5 (v := .int 2) (by decide) ?_
  refine sg_rem f173_6 (by decide) ?_
  refine sg_if f173_7 (fun c => ?_) (fun c => ?_)
  · have h := h.1 c
    refine sg_ld f173_84 (v := .ref 47) rfl rfl ?_
    refine sg_getr f173_85 rfl rfl (w := 62) rfl ?_
    refine sg_ld f173_88 (v := .int (x1 / 2)) rfl rfl ?_
    obtain ⟨e1, h⟩ := h
    refine sg_zald f173_89 rfl e1 (x := (mi 62 (Int32.toNatClampNeg (x1 / 2)))) rfl ?_
    refine sg_if f173_90 (fun c => ?_) (fun c => ?_)
    · have h := h.1 c
      refine sg_psh f173_101 (v := .int 0) (by decide) ?_
      refine sg_st1 f173_102 (ls' := [some (.ref 47), some (.int x1), some (.int (x1 / 2)), some (.int 0), none]) rfl rfl rfl rfl ?_
      exact h
    · have h := h.2 c
      refine sg_ld f173_93 (v := .ref 47) rfl rfl ?_
      refine sg_ld f173_94 (v := .int x1) rfl rfl ?_
      refine sg_psh f173_95 (v := .int 1) (by decide) ?_
      refine sg_bin f173_96 rfl ?_
      refine sg_ld f173_97 (v := .int x1) rfl rfl ?_
      refine sg_cV f173_98 (vs := [.int (x1 - 1), .int x1]) (r := 47) (rest := []) (en := [some (.ref 47), some (.int (x1 - 1)), some (.int x1)]) pq172 ⟨rfl, rfl⟩ rfl rfl rfl rfl rfl rfl h ?_
      intro _ mi3 ml4 h
      have h := gm_qv h
      refine sg_psh f173_101 (v := .int 0) (by decide) ?_
      refine sg_st1 f173_102 (ls' := [some (.ref 47), some (.int x1), some (.int (x1 / 2)), some (.int 0), none]) rfl rfl rfl rfl ?_
      exact h
  · have h := h.2 c
    refine sg_ld f173_10 (v := .ref 47) rfl rfl ?_
    refine sg_getr f173_11 rfl rfl (w := 62) rfl ?_
    refine sg_ld f173_14 (v := .int (x1 / 2)) rfl rfl ?_
    obtain ⟨e5, h⟩ := h
    refine sg_zald f173_15 rfl e5 (x := (mi 62 (Int32.toNatClampNeg (x1 / 2)))) rfl ?_
    refine sg_if f173_16 (fun c => ?_) (fun c => ?_)
    · have h := h.1 c
      refine sg_psh f173_27 (v := .int 0) (by decide) ?_
      refine sg_st1 f173_28 (ls' := [some (.ref 47), some (.int x1), some (.int (x1 / 2)), some (.int 0), none]) rfl rfl rfl rfl ?_
      exact h
    · have h := h.2 c
      refine sg_ld f173_19 (v := .ref 47) rfl rfl ?_
      refine sg_ld f173_20 (v := .int x1) rfl rfl ?_
      refine sg_psh f173_21 (v := .int 1) (by decide) ?_
      refine sg_bin f173_22 rfl ?_
      refine sg_ld f173_23 (v := .int x1) rfl rfl ?_
      refine sg_cV f173_24 (vs := [.int (x1 + 1), .int x1]) (r := 47) (rest := []) (en := [some (.ref 47), some (.int (x1 + 1)), some (.int x1)]) pq172 ⟨rfl, rfl⟩ rfl rfl rfl rfl rfl rfl h ?_
      intro _ mi7 ml8 h
      have h := gm_qv h
      refine sg_psh f173_27 (v := .int 0) (by decide) ?_
      refine sg_st1 f173_28 (ls' := [some (.ref 47), some (.int x1), some (.int (x1 / 2)), some (.int 0), none]) rfl rfl rfl rfl ?_
      exact h

set_option maxRecDepth 10000 in
theorem rg173_29 {mi : Mi} {ml : Ml} {F : Mi → Ml → Prop} {x1 : Int32} {x2 : Int32} {x3 : Int32}  (h : ((4 ≤ x3) → F mi ml) ∧ (¬ (4 ≤ x3) → Sg 171 0 [some (.ref 47), some (.int x2), some (.int x3), none, none] [] mi ml (qi fun y1 mi2 ml3 => ((y1 = (-1)) → Sg 173 29 [some (.ref 47), some (.int x1), some (.int x2), some (.int (x3 + 1)), none] [] mi2 ml3 (qv F)) ∧ (¬ (y1 = (-1)) → (vp_in ((4 * y1) + ((x3 + 2) - (x3 + 2) / 4 * 4)) 196) ∧ ((((mi2 63 (Int32.toNatClampNeg ((4 * y1) + ((x3 + 2) - (x3 + 2) / 4 * 4)))) = 0) → Sg 173 29 [some (.ref 47), some (.int x1), some (.int x2), some (.int (x3 + 1)), none] [] mi2 ml3 (qv F)) ∧ (¬ ((mi2 63 (Int32.toNatClampNeg ((4 * y1) + ((x3 + 2) - (x3 + 2) / 4 * 4)))) = 0) → Sg 172 0 [some (.ref 47), some (.int ((2 * y1) + 1)), some (.int x1)] [] mi2 ml3 (qv fun mi6 ml7 => Sg 173 29 [some (.ref 47), some (.int x1), some (.int x2), some (.int (x3 + 1)), none] [] mi6 ml7 (qv F)))))))) : Sg 173 29 [some (.ref 47), some (.int x1), some (.int x2), some (.int x3), none] [] mi ml (qv F) := by
  refine sg_ld f173_29 (v := .int x3) rfl rfl ?_
  refine sg_psh f173_30 (v := .int 4) (by decide) ?_
  refine sg_icmp f173_31 (fun c => ?_) (fun c => ?_)
  · have h := h.1 c
    exact sg_ret f173_83 pq173 rfl h
  · have h := h.2 c
    refine sg_ld f173_34 (v := .ref 47) rfl rfl ?_
    refine sg_ld f173_35 (v := .int x2) rfl rfl ?_
    refine sg_ld f173_36 (v := .int x3) rfl rfl ?_
    refine sg_cV f173_37 (vs := [.int x2, .int x3]) (r := 47) (rest := []) (en := [some (.ref 47), some (.int x2), some (.int x3), none, none]) pq171 ⟨rfl, rfl⟩ rfl rfl rfl rfl rfl rfl h ?_
    rintro _ mi2 ml3 ⟨y1, rfl, h⟩
    refine sg_st1 f173_40 (ls' := [some (.ref 47), some (.int x1), some (.int x2), some (.int x3), some (.int y1)]) rfl rfl rfl rfl ?_
    refine sg_ld f173_42 (v := .int y1) rfl rfl ?_
    refine sg_psh f173_44 (v := .int (-1)) (by decide) ?_
    refine sg_icmp f173_45 (fun c => ?_) (fun c => ?_)
    · have h := h.1 c
      refine sg_inc f173_77 (d := 1) (ls' := [some (.ref 47), some (.int x1), some (.int x2), some (.int (x3 + 1)), some (.int y1)]) rfl (by decide) rfl ?_
      refine sg_goto f173_80 ?_
      exact sg_drop [4] rfl h
    · have h := h.2 c
      refine sg_ld f173_48 (v := .ref 47) rfl rfl ?_
      refine sg_getr f173_49 rfl rfl (w := 63) rfl ?_
      refine sg_psh f173_52 (v := .int 4) (by decide) ?_
      refine sg_ld f173_53 (v := .int y1) rfl rfl ?_
      refine sg_bin f173_55 rfl ?_
      refine sg_ld f173_56 (v := .int x3) rfl rfl ?_
      refine sg_psh f173_57 (v := .int 2) (by decide) ?_
      refine sg_bin f173_58 rfl ?_
      refine sg_psh f173_59 (v := .int 4) (by decide) ?_
      refine sg_rem f173_60 (by decide) ?_
      refine sg_bin f173_61 rfl ?_
      obtain ⟨e4, h⟩ := h
      refine sg_zald f173_62 rfl e4 (x := (mi2 63 (Int32.toNatClampNeg ((4 * y1) + ((x3 + 2) - (x3 + 2) / 4 * 4))))) rfl ?_
      refine sg_if f173_63 (fun c => ?_) (fun c => ?_)
      · have h := h.1 c
        refine sg_inc f173_77 (d := 1) (ls' := [some (.ref 47), some (.int x1), some (.int x2), some (.int (x3 + 1)), some (.int y1)]) rfl (by decide) rfl ?_
        refine sg_goto f173_80 ?_
        exact sg_drop [4] rfl h
      · have h := h.2 c
        refine sg_ld f173_66 (v := .ref 47) rfl rfl ?_
        refine sg_psh f173_67 (v := .int 2) (by decide) ?_
        refine sg_ld f173_68 (v := .int y1) rfl rfl ?_
        refine sg_bin f173_70 rfl ?_
        refine sg_psh f173_71 (v := .int 1) (by decide) ?_
        refine sg_bin f173_72 rfl ?_
        refine sg_ld f173_73 (v := .int x1) rfl rfl ?_
        refine sg_cV f173_74 (vs := [.int ((2 * y1) + 1), .int x1]) (r := 47) (rest := []) (en := [some (.ref 47), some (.int ((2 * y1) + 1)), some (.int x1)]) pq172 ⟨rfl, rfl⟩ rfl rfl rfl rfl rfl rfl h ?_
        intro _ mi6 ml7 h
        have h := gm_qv h
        refine sg_inc f173_77 (d := 1) (ls' := [some (.ref 47), some (.int x1), some (.int x2), some (.int (x3 + 1)), some (.int y1)]) rfl (by decide) rfl ?_
        refine sg_goto f173_80 ?_
        exact sg_drop [4] rfl h

set_option maxRecDepth 10000 in
theorem rg173_103 {mi : Mi} {ml : Ml} {F : Mi → Ml → Prop} {x1 : Int32} {x2 : Int32} {x3 : Int32}  (h : ((4 ≤ x3) → F mi ml) ∧ (¬ (4 ≤ x3) → Sg 171 0 [some (.ref 47), some (.int x2), some (.int x3), none, none] [] mi ml (qi fun y1 mi2 ml3 => ((y1 = (-1)) → Sg 173 103 [some (.ref 47), some (.int x1), some (.int x2), some (.int (x3 + 1)), none] [] mi2 ml3 (qv F)) ∧ (¬ (y1 = (-1)) → Sg 170 0 [some (.ref 47), some (.int y1)] [] mi2 ml3 (qi fun y4 mi5 ml6 => ((¬ y4 = 0) → Sg 173 103 [some (.ref 47), some (.int x1), some (.int x2), some (.int (x3 + 1)), none] [] mi5 ml6 (qv F)) ∧ (¬ (¬ y4 = 0) → Sg 172 0 [some (.ref 47), some (.int (2 * y1)), some (.int x1)] [] mi5 ml6 (qv fun mi8 ml9 => Sg 173 103 [some (.ref 47), some (.int x1), some (.int x2), some (.int (x3 + 1)), none] [] mi8 ml9 (qv F)))))))) : Sg 173 103 [some (.ref 47), some (.int x1), some (.int x2), some (.int x3), none] [] mi ml (qv F) := by
  refine sg_ld f173_103 (v := .int x3) rfl rfl ?_
  refine sg_psh f173_104 (v := .int 4) (by decide) ?_
  refine sg_icmp f173_105 (fun c => ?_) (fun c => ?_)
  · have h := h.1 c
    exact sg_ret f173_146 pq173 rfl h
  · have h := h.2 c
    refine sg_ld f173_108 (v := .ref 47) rfl rfl ?_
    refine sg_ld f173_109 (v := .int x2) rfl rfl ?_
    refine sg_ld f173_110 (v := .int x3) rfl rfl ?_
    refine sg_cV f173_111 (vs := [.int x2, .int x3]) (r := 47) (rest := []) (en := [some (.ref 47), some (.int x2), some (.int x3), none, none]) pq171 ⟨rfl, rfl⟩ rfl rfl rfl rfl rfl rfl h ?_
    rintro _ mi2 ml3 ⟨y1, rfl, h⟩
    refine sg_st1 f173_114 (ls' := [some (.ref 47), some (.int x1), some (.int x2), some (.int x3), some (.int y1)]) rfl rfl rfl rfl ?_
    refine sg_ld f173_116 (v := .int y1) rfl rfl ?_
    refine sg_psh f173_118 (v := .int (-1)) (by decide) ?_
    refine sg_icmp f173_119 (fun c => ?_) (fun c => ?_)
    · have h := h.1 c
      refine sg_inc f173_140 (d := 1) (ls' := [some (.ref 47), some (.int x1), some (.int x2), some (.int (x3 + 1)), some (.int y1)]) rfl (by decide) rfl ?_
      refine sg_goto f173_143 ?_
      exact sg_drop [4] rfl h
    · have h := h.2 c
      refine sg_ld f173_122 (v := .ref 47) rfl rfl ?_
      refine sg_ld f173_123 (v := .int y1) rfl rfl ?_
      refine sg_cV f173_125 (vs := [.int y1]) (r := 47) (rest := []) (en := [some (.ref 47), some (.int y1)]) pq170 ⟨rfl, rfl⟩ rfl rfl rfl rfl rfl rfl h ?_
      rintro _ mi5 ml6 ⟨y4, rfl, h⟩
      refine sg_if f173_128 (fun c => ?_) (fun c => ?_)
      · have h := h.1 c
        refine sg_inc f173_140 (d := 1) (ls' := [some (.ref 47), some (.int x1), some (.int x2), some (.int (x3 + 1)), some (.int y1)]) rfl (by decide) rfl ?_
        refine sg_goto f173_143 ?_
        exact sg_drop [4] rfl h
      · have h := h.2 c
        refine sg_ld f173_131 (v := .ref 47) rfl rfl ?_
        refine sg_psh f173_132 (v := .int 2) (by decide) ?_
        refine sg_ld f173_133 (v := .int y1) rfl rfl ?_
        refine sg_bin f173_135 rfl ?_
        refine sg_ld f173_136 (v := .int x1) rfl rfl ?_
        refine sg_cV f173_137 (vs := [.int (2 * y1), .int x1]) (r := 47) (rest := []) (en := [some (.ref 47), some (.int (2 * y1)), some (.int x1)]) pq172 ⟨rfl, rfl⟩ rfl rfl rfl rfl rfl rfl h ?_
        intro _ mi8 ml9 h
        have h := gm_qv h
        refine sg_inc f173_140 (d := 1) (ls' := [some (.ref 47), some (.int x1), some (.int x2), some (.int (x3 + 1)), some (.int y1)]) rfl (by decide) rfl ?_
        refine sg_goto f173_143 ?_
        exact sg_drop [4] rfl h

/-! X7_finds ()I -/
theorem fe174 (pc : Nat) : gm_fetch 174 pc = gm_find pc cd_174 := rfl
theorem f174_0 : gm_fetch 174 0 = some (1, .aload_n 0, 0, 0, 0, 0) := (fe174 0).trans rfl
theorem f174_1 : gm_fetch 174 1 = some (2, .iconst 0, 0, 0, 0, 0) := (fe174 1).trans rfl
theorem f174_2 : gm_fetch 174 2 = some (5, .putfield 229, 111, 7, 27, 0) := (fe174 2).trans rfl
theorem f174_5 : gm_fetch 174 5 = some (6, .iconst 0, 0, 0, 0, 0) := (fe174 5).trans rfl
theorem f174_6 : gm_fetch 174 6 = some (7, .istore_n 1, 0, 0, 0, 0) := (fe174 6).trans rfl
theorem f174_7 : gm_fetch 174 7 = some (8, .iload_n 1, 0, 0, 0, 0) := (fe174 7).trans rfl
theorem f174_8 : gm_fetch 174 8 = some (10, .bipush 98, 0, 0, 0, 0) := (fe174 8).trans rfl
theorem f174_10 : gm_fetch 174 10 = some (13, .if_icmp .ge 17, 0, 27, 0, 0) := (fe174 10).trans rfl
theorem f174_13 : gm_fetch 174 13 = some (14, .aload_n 0, 0, 0, 0, 0) := (fe174 13).trans rfl
theorem f174_14 : gm_fetch 174 14 = some (17, .getfield 59, 109, 7, 25, 0) := (fe174 14).trans rfl
theorem f174_17 : gm_fetch 174 17 = some (18, .iload_n 1, 0, 0, 0, 0) := (fe174 17).trans rfl
theorem f174_18 : gm_fetch 174 18 = some (20, .bipush (-2), 0, 0, 0, 0) := (fe174 18).trans rfl
theorem f174_20 : gm_fetch 174 20 = some (21, .iastore, 0, 0, 0, 0) := (fe174 20).trans rfl
theorem f174_21 : gm_fetch 174 21 = some (24, .iinc 1 1, 0, 0, 0, 0) := (fe174 21).trans rfl
theorem f174_24 : gm_fetch 174 24 = some (27, .goto (-17), 0, 7, 0, 0) := (fe174 24).trans rfl
theorem f174_27 : gm_fetch 174 27 = some (28, .iconst 0, 0, 0, 0, 0) := (fe174 27).trans rfl
theorem f174_28 : gm_fetch 174 28 = some (29, .istore_n 1, 0, 0, 0, 0) := (fe174 28).trans rfl
theorem f174_29 : gm_fetch 174 29 = some (30, .iload_n 1, 0, 0, 0, 0) := (fe174 29).trans rfl
theorem f174_30 : gm_fetch 174 30 = some (31, .aload_n 0, 0, 0, 0, 0) := (fe174 30).trans rfl
theorem f174_31 : gm_fetch 174 31 = some (34, .getfield 77, 89, 7, 5, 0) := (fe174 31).trans rfl
theorem f174_34 : gm_fetch 174 34 = some (35, .aload_n 0, 0, 0, 0, 0) := (fe174 34).trans rfl
theorem f174_35 : gm_fetch 174 35 = some (38, .getfield 81, 90, 7, 6, 0) := (fe174 35).trans rfl
theorem f174_38 : gm_fetch 174 38 = some (39, .imul, 0, 0, 0, 0) := (fe174 38).trans rfl
theorem f174_39 : gm_fetch 174 39 = some (42, .if_icmp .ge 25, 0, 64, 0, 0) := (fe174 39).trans rfl
theorem f174_42 : gm_fetch 174 42 = some (43, .aload_n 0, 0, 0, 0, 0) := (fe174 42).trans rfl
theorem f174_43 : gm_fetch 174 43 = some (44, .iload_n 1, 0, 0, 0, 0) := (fe174 43).trans rfl
theorem f174_44 : gm_fetch 174 44 = some (47, .invokevirtual 238, 214, 170, 0, 0) := (fe174 44).trans rfl
theorem f174_47 : gm_fetch 174 47 = some (50, .ifCond .eq 11, 0, 58, 0, 0) := (fe174 47).trans rfl
theorem f174_50 : gm_fetch 174 50 = some (51, .aload_n 0, 0, 0, 0, 0) := (fe174 50).trans rfl
theorem f174_51 : gm_fetch 174 51 = some (52, .iconst 2, 0, 0, 0, 0) := (fe174 51).trans rfl
theorem f174_52 : gm_fetch 174 52 = some (53, .iload_n 1, 0, 0, 0, 0) := (fe174 52).trans rfl
theorem f174_53 : gm_fetch 174 53 = some (54, .imul, 0, 0, 0, 0) := (fe174 53).trans rfl
theorem f174_54 : gm_fetch 174 54 = some (55, .iconst (-1), 0, 0, 0, 0) := (fe174 54).trans rfl
theorem f174_55 : gm_fetch 174 55 = some (58, .invokevirtual 232, 215, 172, 0, 0) := (fe174 55).trans rfl
theorem f174_58 : gm_fetch 174 58 = some (61, .iinc 1 1, 0, 0, 0, 0) := (fe174 58).trans rfl
theorem f174_61 : gm_fetch 174 61 = some (64, .goto (-32), 0, 29, 0, 0) := (fe174 61).trans rfl
theorem f174_64 : gm_fetch 174 64 = some (65, .iconst 0, 0, 0, 0, 0) := (fe174 64).trans rfl
theorem f174_65 : gm_fetch 174 65 = some (66, .istore_n 1, 0, 0, 0, 0) := (fe174 65).trans rfl
theorem f174_66 : gm_fetch 174 66 = some (67, .iload_n 1, 0, 0, 0, 0) := (fe174 66).trans rfl
theorem f174_67 : gm_fetch 174 67 = some (68, .aload_n 0, 0, 0, 0, 0) := (fe174 67).trans rfl
theorem f174_68 : gm_fetch 174 68 = some (71, .getfield 229, 111, 7, 27, 0) := (fe174 68).trans rfl
theorem f174_71 : gm_fetch 174 71 = some (74, .if_icmp .ge 40, 0, 111, 0, 0) := (fe174 71).trans rfl
theorem f174_74 : gm_fetch 174 74 = some (75, .aload_n 0, 0, 0, 0, 0) := (fe174 74).trans rfl
theorem f174_75 : gm_fetch 174 75 = some (78, .getfield 62, 110, 7, 26, 0) := (fe174 75).trans rfl
theorem f174_78 : gm_fetch 174 78 = some (79, .iload_n 1, 0, 0, 0, 0) := (fe174 78).trans rfl
theorem f174_79 : gm_fetch 174 79 = some (80, .iaload, 0, 0, 0, 0) := (fe174 79).trans rfl
theorem f174_80 : gm_fetch 174 80 = some (81, .istore_n 2, 0, 0, 0, 0) := (fe174 80).trans rfl
theorem f174_81 : gm_fetch 174 81 = some (82, .iload_n 2, 0, 0, 0, 0) := (fe174 81).trans rfl
theorem f174_82 : gm_fetch 174 82 = some (83, .iconst 2, 0, 0, 0, 0) := (fe174 82).trans rfl
theorem f174_83 : gm_fetch 174 83 = some (84, .irem, 0, 0, 0, 0) := (fe174 83).trans rfl
theorem f174_84 : gm_fetch 174 84 = some (85, .iconst 1, 0, 0, 0, 0) := (fe174 84).trans rfl
theorem f174_85 : gm_fetch 174 85 = some (88, .if_icmp .ne 15, 0, 100, 0, 0) := (fe174 85).trans rfl
theorem f174_88 : gm_fetch 174 88 = some (89, .aload_n 0, 0, 0, 0, 0) := (fe174 88).trans rfl
theorem f174_89 : gm_fetch 174 89 = some (90, .iload_n 2, 0, 0, 0, 0) := (fe174 89).trans rfl
theorem f174_90 : gm_fetch 174 90 = some (91, .iconst 2, 0, 0, 0, 0) := (fe174 90).trans rfl
theorem f174_91 : gm_fetch 174 91 = some (92, .idiv, 0, 0, 0, 0) := (fe174 91).trans rfl
theorem f174_92 : gm_fetch 174 92 = some (95, .invokevirtual 241, 216, 169, 0, 0) := (fe174 92).trans rfl
theorem f174_95 : gm_fetch 174 95 = some (98, .ifCond .eq 5, 0, 100, 0, 0) := (fe174 95).trans rfl
theorem f174_98 : gm_fetch 174 98 = some (99, .iload_n 2, 0, 0, 0, 0) := (fe174 98).trans rfl
theorem f174_99 : gm_fetch 174 99 = some (100, .ireturn, 0, 0, 0, 0) := (fe174 99).trans rfl
theorem f174_100 : gm_fetch 174 100 = some (101, .aload_n 0, 0, 0, 0, 0) := (fe174 100).trans rfl
theorem f174_101 : gm_fetch 174 101 = some (102, .iload_n 2, 0, 0, 0, 0) := (fe174 101).trans rfl
theorem f174_102 : gm_fetch 174 102 = some (105, .invokevirtual 244, 217, 173, 0, 0) := (fe174 102).trans rfl
theorem f174_105 : gm_fetch 174 105 = some (108, .iinc 1 1, 0, 0, 0, 0) := (fe174 105).trans rfl
theorem f174_108 : gm_fetch 174 108 = some (111, .goto (-42), 0, 66, 0, 0) := (fe174 108).trans rfl
theorem f174_111 : gm_fetch 174 111 = some (112, .iconst (-1), 0, 0, 0, 0) := (fe174 111).trans rfl
theorem f174_112 : gm_fetch 174 112 = some (113, .ireturn, 0, 0, 0, 0) := (fe174 112).trans rfl
set_option maxRecDepth 10000 in
theorem rg174_0 {mi : Mi} {ml : Ml} {F : Int32 → Mi → Ml → Prop}   (h : Sg 174 7 [some (.ref 47), some (.int 0), none] [] (va_up mi 47 (va_up (mi 47) 27 0)) ml (qi F)) : Sg 174 0 [some (.ref 47), none, none] [] mi ml (qi F) := by
  refine sg_ld f174_0 (v := .ref 47) rfl rfl ?_
  refine sg_psh f174_1 (v := .int 0) (by decide) ?_
  refine sg_puti f174_2 rfl rfl rfl (fun hz => by cases hz) ?_
  refine sg_psh f174_5 (v := .int 0) (by decide) ?_
  refine sg_st1 f174_6 (ls' := [some (.ref 47), some (.int 0), none]) rfl rfl rfl rfl ?_
  exact h

set_option maxRecDepth 10000 in
theorem rg174_7 {mi : Mi} {ml : Ml} {F : Int32 → Mi → Ml → Prop} {x1 : Int32}  (h : ((98 ≤ x1) → Sg 174 29 [some (.ref 47), some (.int 0), none] [] mi ml (qi F)) ∧ (¬ (98 ≤ x1) → (vp_in x1 98) ∧ (Sg 174 7 [some (.ref 47), some (.int (x1 + 1)), none] [] (va_up mi 64 (va_up (mi 64) (Int32.toNatClampNeg x1) (-2))) ml (qi F)))) : Sg 174 7 [some (.ref 47), some (.int x1), none] [] mi ml (qi F) := by
  refine sg_ld f174_7 (v := .int x1) rfl rfl ?_
  refine sg_psh f174_8 (v := .int 98) (by decide) ?_
  refine sg_icmp f174_10 (fun c => ?_) (fun c => ?_)
  · have h := h.1 c
    refine sg_psh f174_27 (v := .int 0) (by decide) ?_
    refine sg_st1 f174_28 (ls' := [some (.ref 47), some (.int 0), none]) rfl rfl rfl rfl ?_
    exact h
  · have h := h.2 c
    refine sg_ld f174_13 (v := .ref 47) rfl rfl ?_
    refine sg_getr f174_14 rfl rfl (w := 64) rfl ?_
    refine sg_ld f174_17 (v := .int x1) rfl rfl ?_
    refine sg_psh f174_18 (v := .int (-2)) (by decide) ?_
    obtain ⟨e1, h⟩ := h
    refine sg_iast f174_20 rfl e1 ?_
    refine sg_inc f174_21 (d := 1) (ls' := [some (.ref 47), some (.int (x1 + 1)), none]) rfl (by decide) rfl ?_
    refine sg_goto f174_24 ?_
    exact h

set_option maxRecDepth 10000 in
theorem rg174_29 {mi : Mi} {ml : Ml} {F : Int32 → Mi → Ml → Prop} {x1 : Int32}  (h : ((((mi 47 5) * (mi 47 6)) ≤ x1) → Sg 174 66 [some (.ref 47), some (.int 0), none] [] mi ml (qi F)) ∧ (¬ (((mi 47 5) * (mi 47 6)) ≤ x1) → Sg 170 0 [some (.ref 47), some (.int x1)] [] mi ml (qi fun y1 mi2 ml3 => ((y1 = 0) → Sg 174 29 [some (.ref 47), some (.int (x1 + 1)), none] [] mi2 ml3 (qi F)) ∧ (¬ (y1 = 0) → Sg 172 0 [some (.ref 47), some (.int (2 * x1)), some (.int (-1))] [] mi2 ml3 (qv fun mi5 ml6 => Sg 174 29 [some (.ref 47), some (.int (x1 + 1)), none] [] mi5 ml6 (qi F)))))) : Sg 174 29 [some (.ref 47), some (.int x1), none] [] mi ml (qi F) := by
  refine sg_ld f174_29 (v := .int x1) rfl rfl ?_
  refine sg_ld f174_30 (v := .ref 47) rfl rfl ?_
  refine sg_geti f174_31 rfl rfl (x := (mi 47 5)) rfl ?_
  refine sg_ld f174_34 (v := .ref 47) rfl rfl ?_
  refine sg_geti f174_35 rfl rfl (x := (mi 47 6)) rfl ?_
  refine sg_bin f174_38 rfl ?_
  refine sg_icmp f174_39 (fun c => ?_) (fun c => ?_)
  · have h := h.1 c
    refine sg_psh f174_64 (v := .int 0) (by decide) ?_
    refine sg_st1 f174_65 (ls' := [some (.ref 47), some (.int 0), none]) rfl rfl rfl rfl ?_
    exact h
  · have h := h.2 c
    refine sg_ld f174_42 (v := .ref 47) rfl rfl ?_
    refine sg_ld f174_43 (v := .int x1) rfl rfl ?_
    refine sg_cV f174_44 (vs := [.int x1]) (r := 47) (rest := []) (en := [some (.ref 47), some (.int x1)]) pq170 ⟨rfl, rfl⟩ rfl rfl rfl rfl rfl rfl h ?_
    rintro _ mi2 ml3 ⟨y1, rfl, h⟩
    refine sg_if f174_47 (fun c => ?_) (fun c => ?_)
    · have h := h.1 c
      refine sg_inc f174_58 (d := 1) (ls' := [some (.ref 47), some (.int (x1 + 1)), none]) rfl (by decide) rfl ?_
      refine sg_goto f174_61 ?_
      exact h
    · have h := h.2 c
      refine sg_ld f174_50 (v := .ref 47) rfl rfl ?_
      refine sg_psh f174_51 (v := .int 2) (by decide) ?_
      refine sg_ld f174_52 (v := .int x1) rfl rfl ?_
      refine sg_bin f174_53 rfl ?_
      refine sg_psh f174_54 (v := .int (-1)) (by decide) ?_
      refine sg_cV f174_55 (vs := [.int (2 * x1), .int (-1)]) (r := 47) (rest := []) (en := [some (.ref 47), some (.int (2 * x1)), some (.int (-1))]) pq172 ⟨rfl, rfl⟩ rfl rfl rfl rfl rfl rfl h ?_
      intro _ mi5 ml6 h
      have h := gm_qv h
      refine sg_inc f174_58 (d := 1) (ls' := [some (.ref 47), some (.int (x1 + 1)), none]) rfl (by decide) rfl ?_
      refine sg_goto f174_61 ?_
      exact h

set_option maxRecDepth 10000 in
theorem rg174_66 {mi : Mi} {ml : Ml} {F : Int32 → Mi → Ml → Prop} {x1 : Int32}  (h : (((mi 47 27) ≤ x1) → F (-1) mi ml) ∧ (¬ ((mi 47 27) ≤ x1) → (vp_in x1 98) ∧ (((¬ ((mi 65 (Int32.toNatClampNeg x1)) - (mi 65 (Int32.toNatClampNeg x1)) / 2 * 2) = 1) → Sg 174 100 [some (.ref 47), some (.int x1), some (.int (mi 65 (Int32.toNatClampNeg x1)))] [] mi ml (qi F)) ∧ (¬ (¬ ((mi 65 (Int32.toNatClampNeg x1)) - (mi 65 (Int32.toNatClampNeg x1)) / 2 * 2) = 1) → Sg 169 0 [some (.ref 47), some (.int ((mi 65 (Int32.toNatClampNeg x1)) / 2)), none, none] [] mi ml (qi fun y2 mi3 ml4 => ((y2 = 0) → Sg 174 100 [some (.ref 47), some (.int x1), some (.int (mi 65 (Int32.toNatClampNeg x1)))] [] mi3 ml4 (qi F)) ∧ (¬ (y2 = 0) → F (mi 65 (Int32.toNatClampNeg x1)) mi3 ml4)))))) : Sg 174 66 [some (.ref 47), some (.int x1), none] [] mi ml (qi F) := by
  refine sg_ld f174_66 (v := .int x1) rfl rfl ?_
  refine sg_ld f174_67 (v := .ref 47) rfl rfl ?_
  refine sg_geti f174_68 rfl rfl (x := (mi 47 27)) rfl ?_
  refine sg_icmp f174_71 (fun c => ?_) (fun c => ?_)
  · have h := h.1 c
    refine sg_psh f174_111 (v := .int (-1)) (by decide) ?_
    exact sg_iret f174_112 pq174 rfl rfl ⟨_, rfl, h⟩
  · have h := h.2 c
    refine sg_ld f174_74 (v := .ref 47) rfl rfl ?_
    refine sg_getr f174_75 rfl rfl (w := 65) rfl ?_
    refine sg_ld f174_78 (v := .int x1) rfl rfl ?_
    obtain ⟨e1, h⟩ := h
    refine sg_iald f174_79 rfl e1 (x := (mi 65 (Int32.toNatClampNeg x1))) rfl ?_
    refine sg_st1 f174_80 (ls' := [some (.ref 47), some (.int x1), some (.int (mi 65 (Int32.toNatClampNeg x1)))]) rfl rfl rfl rfl ?_
    refine sg_ld f174_81 (v := .int (mi 65 (Int32.toNatClampNeg x1))) rfl rfl ?_
    refine sg_psh f174_82 (v := .int 2) (by decide) ?_
    refine sg_rem f174_83 (by decide) ?_
    refine sg_psh f174_84 (v := .int 1) (by decide) ?_
    refine sg_icmp f174_85 (fun c => ?_) (fun c => ?_)
    · have h := h.1 c
      exact h
    · have h := h.2 c
      refine sg_ld f174_88 (v := .ref 47) rfl rfl ?_
      refine sg_ld f174_89 (v := .int (mi 65 (Int32.toNatClampNeg x1))) rfl rfl ?_
      refine sg_psh f174_90 (v := .int 2) (by decide) ?_
      refine sg_div f174_91 (by decide) ?_
      refine sg_cV f174_92 (vs := [.int ((mi 65 (Int32.toNatClampNeg x1)) / 2)]) (r := 47) (rest := []) (en := [some (.ref 47), some (.int ((mi 65 (Int32.toNatClampNeg x1)) / 2)), none, none]) pq169 ⟨rfl, rfl⟩ rfl rfl rfl rfl rfl rfl h ?_
      rintro _ mi3 ml4 ⟨y2, rfl, h⟩
      refine sg_if f174_95 (fun c => ?_) (fun c => ?_)
      · have h := h.1 c
        exact h
      · have h := h.2 c
        refine sg_ld f174_98 (v := .int (mi 65 (Int32.toNatClampNeg x1))) rfl rfl ?_
        exact sg_iret f174_99 pq174 rfl rfl ⟨_, rfl, h⟩

set_option maxRecDepth 10000 in
theorem rg174_100 {mi : Mi} {ml : Ml} {F : Int32 → Mi → Ml → Prop} {x1 : Int32} {x2 : Int32}  (h : Sg 173 0 [some (.ref 47), some (.int x2), none, none, none] [] mi ml (qv fun mi2 ml3 => Sg 174 66 [some (.ref 47), some (.int (x1 + 1)), none] [] mi2 ml3 (qi F))) : Sg 174 100 [some (.ref 47), some (.int x1), some (.int x2)] [] mi ml (qi F) := by
  refine sg_ld f174_100 (v := .ref 47) rfl rfl ?_
  refine sg_ld f174_101 (v := .int x2) rfl rfl ?_
  refine sg_cV f174_102 (vs := [.int x2]) (r := 47) (rest := []) (en := [some (.ref 47), some (.int x2), none, none, none]) pq173 ⟨rfl, rfl⟩ rfl rfl rfl rfl rfl rfl h ?_
  intro _ mi2 ml3 h
  have h := gm_qv h
  refine sg_inc f174_105 (d := 1) (ls' := [some (.ref 47), some (.int (x1 + 1)), some (.int x2)]) rfl (by decide) rfl ?_
  refine sg_goto f174_108 ?_
  exact sg_drop [2] rfl h

/-! X7_turns (II)V -/
theorem fe175 (pc : Nat) : gm_fetch 175 pc = gm_find pc cd_175 := rfl
theorem f175_0 : gm_fetch 175 0 = some (1, .iload_n 1, 0, 0, 0, 0) := (fe175 0).trans rfl
theorem f175_1 : gm_fetch 175 1 = some (2, .iconst 2, 0, 0, 0, 0) := (fe175 1).trans rfl
theorem f175_2 : gm_fetch 175 2 = some (3, .idiv, 0, 0, 0, 0) := (fe175 2).trans rfl
theorem f175_3 : gm_fetch 175 3 = some (4, .istore_n 3, 0, 0, 0, 0) := (fe175 3).trans rfl
theorem f175_4 : gm_fetch 175 4 = some (5, .iload_n 2, 0, 0, 0, 0) := (fe175 4).trans rfl
theorem f175_5 : gm_fetch 175 5 = some (6, .iconst 2, 0, 0, 0, 0) := (fe175 5).trans rfl
theorem f175_6 : gm_fetch 175 6 = some (7, .idiv, 0, 0, 0, 0) := (fe175 6).trans rfl
theorem f175_7 : gm_fetch 175 7 = some (9, .istore 4, 0, 0, 0, 0) := (fe175 7).trans rfl
theorem f175_9 : gm_fetch 175 9 = some (10, .iload_n 3, 0, 0, 0, 0) := (fe175 9).trans rfl
theorem f175_10 : gm_fetch 175 10 = some (12, .iload 4, 0, 0, 0, 0) := (fe175 10).trans rfl
theorem f175_12 : gm_fetch 175 12 = some (15, .if_icmp .ne 21, 0, 33, 0, 0) := (fe175 12).trans rfl
theorem f175_15 : gm_fetch 175 15 = some (16, .aload_n 0, 0, 0, 0, 0) := (fe175 15).trans rfl
theorem f175_16 : gm_fetch 175 16 = some (19, .getfield 53, 107, 7, 23, 0) := (fe175 16).trans rfl
theorem f175_19 : gm_fetch 175 19 = some (20, .iload_n 3, 0, 0, 0, 0) := (fe175 19).trans rfl
theorem f175_20 : gm_fetch 175 20 = some (21, .iload_n 1, 0, 0, 0, 0) := (fe175 20).trans rfl
theorem f175_21 : gm_fetch 175 21 = some (22, .iconst 2, 0, 0, 0, 0) := (fe175 21).trans rfl
theorem f175_22 : gm_fetch 175 22 = some (23, .irem, 0, 0, 0, 0) := (fe175 22).trans rfl
theorem f175_23 : gm_fetch 175 23 = some (26, .ifCond .ne 7, 0, 30, 0, 0) := (fe175 23).trans rfl
theorem f175_26 : gm_fetch 175 26 = some (27, .iconst 1, 0, 0, 0, 0) := (fe175 26).trans rfl
theorem f175_27 : gm_fetch 175 27 = some (30, .goto 4, 0, 31, 0, 0) := (fe175 27).trans rfl
theorem f175_30 : gm_fetch 175 30 = some (31, .iconst 0, 0, 0, 0, 0) := (fe175 30).trans rfl
theorem f175_31 : gm_fetch 175 31 = some (32, .bastore, 0, 0, 0, 0) := (fe175 31).trans rfl
theorem f175_32 : gm_fetch 175 32 = some (33, .return_, 0, 0, 0, 0) := (fe175 32).trans rfl
theorem f175_33 : gm_fetch 175 33 = some (34, .iconst 0, 0, 0, 0, 0) := (fe175 33).trans rfl
theorem f175_34 : gm_fetch 175 34 = some (36, .istore 5, 0, 0, 0, 0) := (fe175 34).trans rfl
theorem f175_36 : gm_fetch 175 36 = some (38, .iload 5, 0, 0, 0, 0) := (fe175 36).trans rfl
theorem f175_38 : gm_fetch 175 38 = some (39, .iconst 4, 0, 0, 0, 0) := (fe175 38).trans rfl
theorem f175_39 : gm_fetch 175 39 = some (42, .if_icmp .ge 74, 0, 113, 0, 0) := (fe175 39).trans rfl
theorem f175_42 : gm_fetch 175 42 = some (43, .iload_n 1, 0, 0, 0, 0) := (fe175 42).trans rfl
theorem f175_43 : gm_fetch 175 43 = some (44, .iconst 2, 0, 0, 0, 0) := (fe175 43).trans rfl
theorem f175_44 : gm_fetch 175 44 = some (45, .irem, 0, 0, 0, 0) := (fe175 44).trans rfl
theorem f175_45 : gm_fetch 175 45 = some (46, .iconst 1, 0, 0, 0, 0) := (fe175 45).trans rfl
theorem f175_46 : gm_fetch 175 46 = some (49, .if_icmp .ne 30, 0, 76, 0, 0) := (fe175 46).trans rfl
theorem f175_49 : gm_fetch 175 49 = some (50, .aload_n 0, 0, 0, 0, 0) := (fe175 49).trans rfl
theorem f175_50 : gm_fetch 175 50 = some (51, .iload_n 3, 0, 0, 0, 0) := (fe175 50).trans rfl
theorem f175_51 : gm_fetch 175 51 = some (53, .iload 5, 0, 0, 0, 0) := (fe175 51).trans rfl
theorem f175_53 : gm_fetch 175 53 = some (56, .invokevirtual 235, 218, 171, 0, 0) := (fe175 53).trans rfl
theorem f175_56 : gm_fetch 175 56 = some (58, .iload 4, 0, 0, 0, 0) := (fe175 56).trans rfl
theorem f175_58 : gm_fetch 175 58 = some (61, .if_icmp .ne 18, 0, 76, 0, 0) := (fe175 58).trans rfl
theorem f175_61 : gm_fetch 175 61 = some (62, .aload_n 0, 0, 0, 0, 0) := (fe175 61).trans rfl
theorem f175_62 : gm_fetch 175 62 = some (65, .getfield 56, 108, 7, 24, 0) := (fe175 62).trans rfl
theorem f175_65 : gm_fetch 175 65 = some (66, .iconst 4, 0, 0, 0, 0) := (fe175 65).trans rfl
theorem f175_66 : gm_fetch 175 66 = some (67, .iload_n 3, 0, 0, 0, 0) := (fe175 66).trans rfl
theorem f175_67 : gm_fetch 175 67 = some (68, .imul, 0, 0, 0, 0) := (fe175 67).trans rfl
theorem f175_68 : gm_fetch 175 68 = some (70, .iload 5, 0, 0, 0, 0) := (fe175 68).trans rfl
theorem f175_70 : gm_fetch 175 70 = some (71, .iadd, 0, 0, 0, 0) := (fe175 70).trans rfl
theorem f175_71 : gm_fetch 175 71 = some (72, .iconst 1, 0, 0, 0, 0) := (fe175 71).trans rfl
theorem f175_72 : gm_fetch 175 72 = some (73, .bastore, 0, 0, 0, 0) := (fe175 72).trans rfl
theorem f175_73 : gm_fetch 175 73 = some (76, .goto 34, 0, 107, 0, 0) := (fe175 73).trans rfl
theorem f175_76 : gm_fetch 175 76 = some (77, .iload_n 1, 0, 0, 0, 0) := (fe175 76).trans rfl
theorem f175_77 : gm_fetch 175 77 = some (78, .iconst 2, 0, 0, 0, 0) := (fe175 77).trans rfl
theorem f175_78 : gm_fetch 175 78 = some (79, .irem, 0, 0, 0, 0) := (fe175 78).trans rfl
theorem f175_79 : gm_fetch 175 79 = some (82, .ifCond .ne 28, 0, 107, 0, 0) := (fe175 79).trans rfl
theorem f175_82 : gm_fetch 175 82 = some (83, .aload_n 0, 0, 0, 0, 0) := (fe175 82).trans rfl
theorem f175_83 : gm_fetch 175 83 = some (85, .iload 4, 0, 0, 0, 0) := (fe175 83).trans rfl
theorem f175_85 : gm_fetch 175 85 = some (87, .iload 5, 0, 0, 0, 0) := (fe175 85).trans rfl
theorem f175_87 : gm_fetch 175 87 = some (90, .invokevirtual 235, 218, 171, 0, 0) := (fe175 87).trans rfl
theorem f175_90 : gm_fetch 175 90 = some (91, .iload_n 3, 0, 0, 0, 0) := (fe175 90).trans rfl
theorem f175_91 : gm_fetch 175 91 = some (94, .if_icmp .ne 16, 0, 107, 0, 0) := (fe175 91).trans rfl
theorem f175_94 : gm_fetch 175 94 = some (95, .aload_n 0, 0, 0, 0, 0) := (fe175 94).trans rfl
theorem f175_95 : gm_fetch 175 95 = some (98, .getfield 56, 108, 7, 24, 0) := (fe175 95).trans rfl
theorem f175_98 : gm_fetch 175 98 = some (99, .iconst 4, 0, 0, 0, 0) := (fe175 98).trans rfl
theorem f175_99 : gm_fetch 175 99 = some (101, .iload 4, 0, 0, 0, 0) := (fe175 99).trans rfl
theorem f175_101 : gm_fetch 175 101 = some (102, .imul, 0, 0, 0, 0) := (fe175 101).trans rfl
theorem f175_102 : gm_fetch 175 102 = some (104, .iload 5, 0, 0, 0, 0) := (fe175 102).trans rfl
theorem f175_104 : gm_fetch 175 104 = some (105, .iadd, 0, 0, 0, 0) := (fe175 104).trans rfl
theorem f175_105 : gm_fetch 175 105 = some (106, .iconst 0, 0, 0, 0, 0) := (fe175 105).trans rfl
theorem f175_106 : gm_fetch 175 106 = some (107, .bastore, 0, 0, 0, 0) := (fe175 106).trans rfl
theorem f175_107 : gm_fetch 175 107 = some (110, .iinc 5 1, 0, 0, 0, 0) := (fe175 107).trans rfl
theorem f175_110 : gm_fetch 175 110 = some (113, .goto (-74), 0, 36, 0, 0) := (fe175 110).trans rfl
theorem f175_113 : gm_fetch 175 113 = some (114, .return_, 0, 0, 0, 0) := (fe175 113).trans rfl
set_option maxRecDepth 10000 in
theorem rg175_0 {mi : Mi} {ml : Ml} {F : Mi → Ml → Prop} {x1 : Int32} {x2 : Int32}  (h : ((¬ (x1 / 2) = (x2 / 2)) → Sg 175 36 [some (.ref 47), some (.int x1), some (.int x2), some (.int (x1 / 2)), some (.int (x2 / 2)), some (.int 0)] [] mi ml (qv F)) ∧ (¬ (¬ (x1 / 2) = (x2 / 2)) → ((¬ (x1 - x1 / 2 * 2) = 0) → (vp_in (x1 / 2) 49) ∧ (F (va_up mi 62 (va_up (mi 62) (Int32.toNatClampNeg (x1 / 2)) 0)) ml)) ∧ (¬ (¬ (x1 - x1 / 2 * 2) = 0) → (vp_in (x1 / 2) 49) ∧ (F (va_up mi 62 (va_up (mi 62) (Int32.toNatClampNeg (x1 / 2)) 1)) ml)))) : Sg 175 0 [some (.ref 47), some (.int x1), some (.int x2), none, none, none] [] mi ml (qv F) := by
  refine sg_ld f175_0 (v := .int x1) rfl rfl ?_
  refine sg_psh f175_1 (v := .int 2) (by decide) ?_
  refine sg_div f175_2 (by decide) ?_
  refine sg_st1 f175_3 (ls' := [some (.ref 47), some (.int x1), some (.int x2), some (.int (x1 / 2)), none, none]) rfl rfl rfl rfl ?_
  refine sg_ld f175_4 (v := .int x2) rfl rfl ?_
  refine sg_psh f175_5 (v := .int 2) (by decide) ?_
  refine sg_div f175_6 (by decide) ?_
  refine sg_st1 f175_7 (ls' := [some (.ref 47), some (.int x1), some (.int x2), some (.int (x1 / 2)), some (.int (x2 / 2)), none]) rfl rfl rfl rfl ?_
  refine sg_ld f175_9 (v := .int (x1 / 2)) rfl rfl ?_
  refine sg_ld f175_10 (v := .int (x2 / 2)) rfl rfl ?_
  refine sg_icmp f175_12 (fun c => ?_) (fun c => ?_)
  · have h := h.1 c
    refine sg_psh f175_33 (v := .int 0) (by decide) ?_
    refine sg_st1 f175_34 (ls' := [some (.ref 47), some (.int x1), some (.int x2), some (.int (x1 / 2)), some (.int (x2 / 2)), some (.int 0)]) rfl rfl rfl rfl ?_
    exact h
  · have h := h.2 c
    refine sg_ld f175_15 (v := .ref 47) rfl rfl ?_
    refine sg_getr f175_16 rfl rfl (w := 62) rfl ?_
    refine sg_ld f175_19 (v := .int (x1 / 2)) rfl rfl ?_
    refine sg_ld f175_20 (v := .int x1) rfl rfl ?_
    refine sg_psh f175_21 (v := .int 2) (by decide) ?_
    refine sg_rem f175_22 (by decide) ?_
    refine sg_if f175_23 (fun c => ?_) (fun c => ?_)
    · have h := h.1 c
      refine sg_psh f175_30 (v := .int 0) (by decide) ?_
      obtain ⟨e1, h⟩ := h
      refine sg_zast f175_31 rfl e1 (by decide) ?_
      exact sg_ret f175_32 pq175 rfl h
    · have h := h.2 c
      refine sg_psh f175_26 (v := .int 1) (by decide) ?_
      refine sg_goto f175_27 ?_
      obtain ⟨e2, h⟩ := h
      refine sg_zast f175_31 rfl e2 (by decide) ?_
      exact sg_ret f175_32 pq175 rfl h

set_option maxRecDepth 10000 in
theorem rg175_36 {mi : Mi} {ml : Ml} {F : Mi → Ml → Prop} {x1 : Int32} {x2 : Int32} {x3 : Int32} {x4 : Int32} {x5 : Int32}  (h : ((4 ≤ x5) → F mi ml) ∧ (¬ (4 ≤ x5) → ((¬ (x1 - x1 / 2 * 2) = 1) → Sg 175 76 [some (.ref 47), some (.int x1), some (.int x2), some (.int x3), some (.int x4), some (.int x5)] [] mi ml (qv F)) ∧ (¬ (¬ (x1 - x1 / 2 * 2) = 1) → Sg 171 0 [some (.ref 47), some (.int x3), some (.int x5), none, none] [] mi ml (qi fun y1 mi2 ml3 => ((¬ y1 = x4) → Sg 175 76 [some (.ref 47), some (.int x1), some (.int x2), some (.int x3), some (.int x4), some (.int x5)] [] mi2 ml3 (qv F)) ∧ (¬ (¬ y1 = x4) → (vp_in ((4 * x3) + x5) 196) ∧ (Sg 175 36 [some (.ref 47), some (.int x1), some (.int x2), some (.int x3), some (.int x4), some (.int (x5 + 1))] [] (va_up mi2 63 (va_up (mi2 63) (Int32.toNatClampNeg ((4 * x3) + x5)) 1)) ml3 (qv F))))))) : Sg 175 36 [some (.ref 47), some (.int x1), some (.int x2), some (.int x3), some (.int x4), some (.int x5)] [] mi ml (qv F) := by
  refine sg_ld f175_36 (v := .int x5) rfl rfl ?_
  refine sg_psh f175_38 (v := .int 4) (by decide) ?_
  refine sg_icmp f175_39 (fun c => ?_) (fun c => ?_)
  · have h := h.1 c
    exact sg_ret f175_113 pq175 rfl h
  · have h := h.2 c
    refine sg_ld f175_42 (v := .int x1) rfl rfl ?_
    refine sg_psh f175_43 (v := .int 2) (by decide) ?_
    refine sg_rem f175_44 (by decide) ?_
    refine sg_psh f175_45 (v := .int 1) (by decide) ?_
    refine sg_icmp f175_46 (fun c => ?_) (fun c => ?_)
    · have h := h.1 c
      exact h
    · have h := h.2 c
      refine sg_ld f175_49 (v := .ref 47) rfl rfl ?_
      refine sg_ld f175_50 (v := .int x3) rfl rfl ?_
      refine sg_ld f175_51 (v := .int x5) rfl rfl ?_
      refine sg_cV f175_53 (vs := [.int x3, .int x5]) (r := 47) (rest := []) (en := [some (.ref 47), some (.int x3), some (.int x5), none, none]) pq171 ⟨rfl, rfl⟩ rfl rfl rfl rfl rfl rfl h ?_
      rintro _ mi2 ml3 ⟨y1, rfl, h⟩
      refine sg_ld f175_56 (v := .int x4) rfl rfl ?_
      refine sg_icmp f175_58 (fun c => ?_) (fun c => ?_)
      · have h := h.1 c
        exact h
      · have h := h.2 c
        refine sg_ld f175_61 (v := .ref 47) rfl rfl ?_
        refine sg_getr f175_62 rfl rfl (w := 63) rfl ?_
        refine sg_psh f175_65 (v := .int 4) (by decide) ?_
        refine sg_ld f175_66 (v := .int x3) rfl rfl ?_
        refine sg_bin f175_67 rfl ?_
        refine sg_ld f175_68 (v := .int x5) rfl rfl ?_
        refine sg_bin f175_70 rfl ?_
        refine sg_psh f175_71 (v := .int 1) (by decide) ?_
        obtain ⟨e4, h⟩ := h
        refine sg_zast f175_72 rfl e4 (by decide) ?_
        refine sg_goto f175_73 ?_
        refine sg_inc f175_107 (d := 1) (ls' := [some (.ref 47), some (.int x1), some (.int x2), some (.int x3), some (.int x4), some (.int (x5 + 1))]) rfl (by decide) rfl ?_
        refine sg_goto f175_110 ?_
        exact h

set_option maxRecDepth 10000 in
theorem rg175_76 {mi : Mi} {ml : Ml} {F : Mi → Ml → Prop} {x1 : Int32} {x2 : Int32} {x3 : Int32} {x4 : Int32} {x5 : Int32}  (h : ((¬ (x1 - x1 / 2 * 2) = 0) → Sg 175 36 [some (.ref 47), some (.int x1), some (.int x2), some (.int x3), some (.int x4), some (.int (x5 + 1))] [] mi ml (qv F)) ∧ (¬ (¬ (x1 - x1 / 2 * 2) = 0) → Sg 171 0 [some (.ref 47), some (.int x4), some (.int x5), none, none] [] mi ml (qi fun y1 mi2 ml3 => ((¬ y1 = x3) → Sg 175 36 [some (.ref 47), some (.int x1), some (.int x2), some (.int x3), some (.int x4), some (.int (x5 + 1))] [] mi2 ml3 (qv F)) ∧ (¬ (¬ y1 = x3) → (vp_in ((4 * x4) + x5) 196) ∧ (Sg 175 36 [some (.ref 47), some (.int x1), some (.int x2), some (.int x3), some (.int x4), some (.int (x5 + 1))] [] (va_up mi2 63 (va_up (mi2 63) (Int32.toNatClampNeg ((4 * x4) + x5)) 0)) ml3 (qv F)))))) : Sg 175 76 [some (.ref 47), some (.int x1), some (.int x2), some (.int x3), some (.int x4), some (.int x5)] [] mi ml (qv F) := by
  refine sg_ld f175_76 (v := .int x1) rfl rfl ?_
  refine sg_psh f175_77 (v := .int 2) (by decide) ?_
  refine sg_rem f175_78 (by decide) ?_
  refine sg_if f175_79 (fun c => ?_) (fun c => ?_)
  · have h := h.1 c
    refine sg_inc f175_107 (d := 1) (ls' := [some (.ref 47), some (.int x1), some (.int x2), some (.int x3), some (.int x4), some (.int (x5 + 1))]) rfl (by decide) rfl ?_
    refine sg_goto f175_110 ?_
    exact h
  · have h := h.2 c
    refine sg_ld f175_82 (v := .ref 47) rfl rfl ?_
    refine sg_ld f175_83 (v := .int x4) rfl rfl ?_
    refine sg_ld f175_85 (v := .int x5) rfl rfl ?_
    refine sg_cV f175_87 (vs := [.int x4, .int x5]) (r := 47) (rest := []) (en := [some (.ref 47), some (.int x4), some (.int x5), none, none]) pq171 ⟨rfl, rfl⟩ rfl rfl rfl rfl rfl rfl h ?_
    rintro _ mi2 ml3 ⟨y1, rfl, h⟩
    refine sg_ld f175_90 (v := .int x3) rfl rfl ?_
    refine sg_icmp f175_91 (fun c => ?_) (fun c => ?_)
    · have h := h.1 c
      refine sg_inc f175_107 (d := 1) (ls' := [some (.ref 47), some (.int x1), some (.int x2), some (.int x3), some (.int x4), some (.int (x5 + 1))]) rfl (by decide) rfl ?_
      refine sg_goto f175_110 ?_
      exact h
    · have h := h.2 c
      refine sg_ld f175_94 (v := .ref 47) rfl rfl ?_
      refine sg_getr f175_95 rfl rfl (w := 63) rfl ?_
      refine sg_psh f175_98 (v := .int 4) (by decide) ?_
      refine sg_ld f175_99 (v := .int x4) rfl rfl ?_
      refine sg_bin f175_101 rfl ?_
      refine sg_ld f175_102 (v := .int x5) rfl rfl ?_
      refine sg_bin f175_104 rfl ?_
      refine sg_psh f175_105 (v := .int 0) (by decide) ?_
      obtain ⟨e4, h⟩ := h
      refine sg_zast f175_106 rfl e4 (by decide) ?_
      refine sg_inc f175_107 (d := 1) (ls' := [some (.ref 47), some (.int x1), some (.int x2), some (.int x3), some (.int x4), some (.int (x5 + 1))]) rfl (by decide) rfl ?_
      refine sg_goto f175_110 ?_
      exact h

/-! X7_chainsNow ()I -/
theorem fe176 (pc : Nat) : gm_fetch 176 pc = gm_find pc cd_176 := rfl
theorem f176_0 : gm_fetch 176 0 = some (1, .iconst 0, 0, 0, 0, 0) := (fe176 0).trans rfl
theorem f176_1 : gm_fetch 176 1 = some (2, .istore_n 1, 0, 0, 0, 0) := (fe176 1).trans rfl
theorem f176_2 : gm_fetch 176 2 = some (3, .iload_n 1, 0, 0, 0, 0) := (fe176 2).trans rfl
theorem f176_3 : gm_fetch 176 3 = some (5, .bipush 49, 0, 0, 0, 0) := (fe176 3).trans rfl
theorem f176_5 : gm_fetch 176 5 = some (8, .if_icmp .ge 16, 0, 21, 0, 0) := (fe176 5).trans rfl
theorem f176_8 : gm_fetch 176 8 = some (9, .aload_n 0, 0, 0, 0, 0) := (fe176 8).trans rfl
theorem f176_9 : gm_fetch 176 9 = some (12, .getfield 53, 107, 7, 23, 0) := (fe176 9).trans rfl
theorem f176_12 : gm_fetch 176 12 = some (13, .iload_n 1, 0, 0, 0, 0) := (fe176 12).trans rfl
theorem f176_13 : gm_fetch 176 13 = some (14, .iconst 0, 0, 0, 0, 0) := (fe176 13).trans rfl
theorem f176_14 : gm_fetch 176 14 = some (15, .bastore, 0, 0, 0, 0) := (fe176 14).trans rfl
theorem f176_15 : gm_fetch 176 15 = some (18, .iinc 1 1, 0, 0, 0, 0) := (fe176 15).trans rfl
theorem f176_18 : gm_fetch 176 18 = some (21, .goto (-16), 0, 2, 0, 0) := (fe176 18).trans rfl
theorem f176_21 : gm_fetch 176 21 = some (22, .iconst 0, 0, 0, 0, 0) := (fe176 21).trans rfl
theorem f176_22 : gm_fetch 176 22 = some (23, .istore_n 1, 0, 0, 0, 0) := (fe176 22).trans rfl
theorem f176_23 : gm_fetch 176 23 = some (24, .iload_n 1, 0, 0, 0, 0) := (fe176 23).trans rfl
theorem f176_24 : gm_fetch 176 24 = some (27, .sipush 196, 0, 0, 0, 0) := (fe176 24).trans rfl
theorem f176_27 : gm_fetch 176 27 = some (30, .if_icmp .ge 16, 0, 43, 0, 0) := (fe176 27).trans rfl
theorem f176_30 : gm_fetch 176 30 = some (31, .aload_n 0, 0, 0, 0, 0) := (fe176 30).trans rfl
theorem f176_31 : gm_fetch 176 31 = some (34, .getfield 56, 108, 7, 24, 0) := (fe176 31).trans rfl
theorem f176_34 : gm_fetch 176 34 = some (35, .iload_n 1, 0, 0, 0, 0) := (fe176 34).trans rfl
theorem f176_35 : gm_fetch 176 35 = some (36, .iconst 0, 0, 0, 0, 0) := (fe176 35).trans rfl
theorem f176_36 : gm_fetch 176 36 = some (37, .bastore, 0, 0, 0, 0) := (fe176 36).trans rfl
theorem f176_37 : gm_fetch 176 37 = some (40, .iinc 1 1, 0, 0, 0, 0) := (fe176 37).trans rfl
theorem f176_40 : gm_fetch 176 40 = some (43, .goto (-17), 0, 23, 0, 0) := (fe176 40).trans rfl
theorem f176_43 : gm_fetch 176 43 = some (44, .iconst 0, 0, 0, 0, 0) := (fe176 43).trans rfl
theorem f176_44 : gm_fetch 176 44 = some (45, .istore_n 1, 0, 0, 0, 0) := (fe176 44).trans rfl
theorem f176_45 : gm_fetch 176 45 = some (46, .aload_n 0, 0, 0, 0, 0) := (fe176 45).trans rfl
theorem f176_46 : gm_fetch 176 46 = some (49, .invokevirtual 247, 213, 174, 0, 0) := (fe176 46).trans rfl
theorem f176_49 : gm_fetch 176 49 = some (50, .istore_n 2, 0, 0, 0, 0) := (fe176 49).trans rfl
theorem f176_50 : gm_fetch 176 50 = some (51, .iconst 0, 0, 0, 0, 0) := (fe176 50).trans rfl
theorem f176_51 : gm_fetch 176 51 = some (52, .istore_n 3, 0, 0, 0, 0) := (fe176 51).trans rfl
theorem f176_52 : gm_fetch 176 52 = some (53, .iload_n 3, 0, 0, 0, 0) := (fe176 52).trans rfl
theorem f176_53 : gm_fetch 176 53 = some (55, .bipush 50, 0, 0, 0, 0) := (fe176 53).trans rfl
theorem f176_55 : gm_fetch 176 55 = some (58, .if_icmp .ge 74, 0, 129, 0, 0) := (fe176 55).trans rfl
theorem f176_58 : gm_fetch 176 58 = some (59, .iload_n 2, 0, 0, 0, 0) := (fe176 58).trans rfl
theorem f176_59 : gm_fetch 176 59 = some (60, .iconst (-1), 0, 0, 0, 0) := (fe176 59).trans rfl
theorem f176_60 : gm_fetch 176 60 = some (63, .if_icmp .eq 69, 0, 129, 0, 0) := (fe176 60).trans rfl
theorem f176_63 : gm_fetch 176 63 = some (64, .iload_n 2, 0, 0, 0, 0) := (fe176 63).trans rfl
theorem f176_64 : gm_fetch 176 64 = some (66, .istore 4, 0, 0, 0, 0) := (fe176 64).trans rfl
theorem f176_66 : gm_fetch 176 66 = some (67, .iconst 0, 0, 0, 0, 0) := (fe176 66).trans rfl
theorem f176_67 : gm_fetch 176 67 = some (69, .istore 5, 0, 0, 0, 0) := (fe176 67).trans rfl
theorem f176_69 : gm_fetch 176 69 = some (71, .iload 5, 0, 0, 0, 0) := (fe176 69).trans rfl
theorem f176_71 : gm_fetch 176 71 = some (73, .bipush 98, 0, 0, 0, 0) := (fe176 71).trans rfl
theorem f176_73 : gm_fetch 176 73 = some (76, .if_icmp .ge 42, 0, 115, 0, 0) := (fe176 73).trans rfl
theorem f176_76 : gm_fetch 176 76 = some (77, .aload_n 0, 0, 0, 0, 0) := (fe176 76).trans rfl
theorem f176_77 : gm_fetch 176 77 = some (80, .getfield 59, 109, 7, 25, 0) := (fe176 77).trans rfl
theorem f176_80 : gm_fetch 176 80 = some (82, .iload 4, 0, 0, 0, 0) := (fe176 80).trans rfl
theorem f176_82 : gm_fetch 176 82 = some (83, .iaload, 0, 0, 0, 0) := (fe176 82).trans rfl
theorem f176_83 : gm_fetch 176 83 = some (84, .iconst (-1), 0, 0, 0, 0) := (fe176 83).trans rfl
theorem f176_84 : gm_fetch 176 84 = some (87, .if_icmp .eq 31, 0, 115, 0, 0) := (fe176 84).trans rfl
theorem f176_87 : gm_fetch 176 87 = some (88, .aload_n 0, 0, 0, 0, 0) := (fe176 87).trans rfl
theorem f176_88 : gm_fetch 176 88 = some (89, .aload_n 0, 0, 0, 0, 0) := (fe176 88).trans rfl
theorem f176_89 : gm_fetch 176 89 = some (92, .getfield 59, 109, 7, 25, 0) := (fe176 89).trans rfl
theorem f176_92 : gm_fetch 176 92 = some (94, .iload 4, 0, 0, 0, 0) := (fe176 92).trans rfl
theorem f176_94 : gm_fetch 176 94 = some (95, .iaload, 0, 0, 0, 0) := (fe176 94).trans rfl
theorem f176_95 : gm_fetch 176 95 = some (97, .iload 4, 0, 0, 0, 0) := (fe176 95).trans rfl
theorem f176_97 : gm_fetch 176 97 = some (100, .invokevirtual 250, 219, 175, 0, 0) := (fe176 97).trans rfl
theorem f176_100 : gm_fetch 176 100 = some (101, .aload_n 0, 0, 0, 0, 0) := (fe176 100).trans rfl
theorem f176_101 : gm_fetch 176 101 = some (104, .getfield 59, 109, 7, 25, 0) := (fe176 101).trans rfl
theorem f176_104 : gm_fetch 176 104 = some (106, .iload 4, 0, 0, 0, 0) := (fe176 104).trans rfl
theorem f176_106 : gm_fetch 176 106 = some (107, .iaload, 0, 0, 0, 0) := (fe176 106).trans rfl
theorem f176_107 : gm_fetch 176 107 = some (109, .istore 4, 0, 0, 0, 0) := (fe176 107).trans rfl
theorem f176_109 : gm_fetch 176 109 = some (112, .iinc 5 1, 0, 0, 0, 0) := (fe176 109).trans rfl
theorem f176_112 : gm_fetch 176 112 = some (115, .goto (-43), 0, 69, 0, 0) := (fe176 112).trans rfl
theorem f176_115 : gm_fetch 176 115 = some (118, .iinc 1 1, 0, 0, 0, 0) := (fe176 115).trans rfl
theorem f176_118 : gm_fetch 176 118 = some (119, .aload_n 0, 0, 0, 0, 0) := (fe176 118).trans rfl
theorem f176_119 : gm_fetch 176 119 = some (122, .invokevirtual 247, 213, 174, 0, 0) := (fe176 119).trans rfl
theorem f176_122 : gm_fetch 176 122 = some (123, .istore_n 2, 0, 0, 0, 0) := (fe176 122).trans rfl
theorem f176_123 : gm_fetch 176 123 = some (126, .iinc 3 1, 0, 0, 0, 0) := (fe176 123).trans rfl
theorem f176_126 : gm_fetch 176 126 = some (129, .goto (-74), 0, 52, 0, 0) := (fe176 126).trans rfl
theorem f176_129 : gm_fetch 176 129 = some (130, .iload_n 1, 0, 0, 0, 0) := (fe176 129).trans rfl
theorem f176_130 : gm_fetch 176 130 = some (131, .ireturn, 0, 0, 0, 0) := (fe176 130).trans rfl
set_option maxRecDepth 10000 in
theorem rg176_0 {mi : Mi} {ml : Ml} {F : Int32 → Mi → Ml → Prop}   (h : Sg 176 2 [some (.ref 47), some (.int 0), none, none, none, none] [] mi ml (qi F)) : Sg 176 0 [some (.ref 47), none, none, none, none, none] [] mi ml (qi F) := by
  refine sg_psh f176_0 (v := .int 0) (by decide) ?_
  refine sg_st1 f176_1 (ls' := [some (.ref 47), some (.int 0), none, none, none, none]) rfl rfl rfl rfl ?_
  exact h

set_option maxRecDepth 10000 in
theorem rg176_2 {mi : Mi} {ml : Ml} {F : Int32 → Mi → Ml → Prop} {x1 : Int32}  (h : ((49 ≤ x1) → Sg 176 23 [some (.ref 47), some (.int 0), none, none, none, none] [] mi ml (qi F)) ∧ (¬ (49 ≤ x1) → (vp_in x1 49) ∧ (Sg 176 2 [some (.ref 47), some (.int (x1 + 1)), none, none, none, none] [] (va_up mi 62 (va_up (mi 62) (Int32.toNatClampNeg x1) 0)) ml (qi F)))) : Sg 176 2 [some (.ref 47), some (.int x1), none, none, none, none] [] mi ml (qi F) := by
  refine sg_ld f176_2 (v := .int x1) rfl rfl ?_
  refine sg_psh f176_3 (v := .int 49) (by decide) ?_
  refine sg_icmp f176_5 (fun c => ?_) (fun c => ?_)
  · have h := h.1 c
    refine sg_psh f176_21 (v := .int 0) (by decide) ?_
    refine sg_st1 f176_22 (ls' := [some (.ref 47), some (.int 0), none, none, none, none]) rfl rfl rfl rfl ?_
    exact h
  · have h := h.2 c
    refine sg_ld f176_8 (v := .ref 47) rfl rfl ?_
    refine sg_getr f176_9 rfl rfl (w := 62) rfl ?_
    refine sg_ld f176_12 (v := .int x1) rfl rfl ?_
    refine sg_psh f176_13 (v := .int 0) (by decide) ?_
    obtain ⟨e1, h⟩ := h
    refine sg_zast f176_14 rfl e1 (by decide) ?_
    refine sg_inc f176_15 (d := 1) (ls' := [some (.ref 47), some (.int (x1 + 1)), none, none, none, none]) rfl (by decide) rfl ?_
    refine sg_goto f176_18 ?_
    exact h

set_option maxRecDepth 10000 in
theorem rg176_23 {mi : Mi} {ml : Ml} {F : Int32 → Mi → Ml → Prop} {x1 : Int32}  (h : ((196 ≤ x1) → Sg 174 0 [some (.ref 47), none, none] [] mi ml (qi fun y1 mi2 ml3 => Sg 176 52 [some (.ref 47), some (.int 0), some (.int y1), some (.int 0), none, none] [] mi2 ml3 (qi F))) ∧ (¬ (196 ≤ x1) → (vp_in x1 196) ∧ (Sg 176 23 [some (.ref 47), some (.int (x1 + 1)), none, none, none, none] [] (va_up mi 63 (va_up (mi 63) (Int32.toNatClampNeg x1) 0)) ml (qi F)))) : Sg 176 23 [some (.ref 47), some (.int x1), none, none, none, none] [] mi ml (qi F) := by
  refine sg_ld f176_23 (v := .int x1) rfl rfl ?_
  refine sg_psh f176_24 (v := .int 196) (by decide) ?_
  refine sg_icmp f176_27 (fun c => ?_) (fun c => ?_)
  · have h := h.1 c
    refine sg_psh f176_43 (v := .int 0) (by decide) ?_
    refine sg_st1 f176_44 (ls' := [some (.ref 47), some (.int 0), none, none, none, none]) rfl rfl rfl rfl ?_
    refine sg_ld f176_45 (v := .ref 47) rfl rfl ?_
    refine sg_cV f176_46 (vs := []) (r := 47) (rest := []) (en := [some (.ref 47), none, none]) pq174 ⟨rfl, rfl⟩ rfl rfl rfl rfl rfl rfl h ?_
    rintro _ mi2 ml3 ⟨y1, rfl, h⟩
    refine sg_st1 f176_49 (ls' := [some (.ref 47), some (.int 0), some (.int y1), none, none, none]) rfl rfl rfl rfl ?_
    refine sg_psh f176_50 (v := .int 0) (by decide) ?_
    refine sg_st1 f176_51 (ls' := [some (.ref 47), some (.int 0), some (.int y1), some (.int 0), none, none]) rfl rfl rfl rfl ?_
    exact h
  · have h := h.2 c
    refine sg_ld f176_30 (v := .ref 47) rfl rfl ?_
    refine sg_getr f176_31 rfl rfl (w := 63) rfl ?_
    refine sg_ld f176_34 (v := .int x1) rfl rfl ?_
    refine sg_psh f176_35 (v := .int 0) (by decide) ?_
    obtain ⟨e4, h⟩ := h
    refine sg_zast f176_36 rfl e4 (by decide) ?_
    refine sg_inc f176_37 (d := 1) (ls' := [some (.ref 47), some (.int (x1 + 1)), none, none, none, none]) rfl (by decide) rfl ?_
    refine sg_goto f176_40 ?_
    exact h

set_option maxRecDepth 10000 in
theorem rg176_52 {mi : Mi} {ml : Ml} {F : Int32 → Mi → Ml → Prop} {x1 : Int32} {x2 : Int32} {x3 : Int32}  (h : ((50 ≤ x3) → F x1 mi ml) ∧ (¬ (50 ≤ x3) → ((x2 = (-1)) → F x1 mi ml) ∧ (¬ (x2 = (-1)) → Sg 176 69 [some (.ref 47), some (.int x1), some (.int x2), some (.int x3), some (.int x2), some (.int 0)] [] mi ml (qi F)))) : Sg 176 52 [some (.ref 47), some (.int x1), some (.int x2), some (.int x3), none, none] [] mi ml (qi F) := by
  refine sg_ld f176_52 (v := .int x3) rfl rfl ?_
  refine sg_psh f176_53 (v := .int 50) (by decide) ?_
  refine sg_icmp f176_55 (fun c => ?_) (fun c => ?_)
  · have h := h.1 c
    refine sg_ld f176_129 (v := .int x1) rfl rfl ?_
    exact sg_iret f176_130 pq176 rfl rfl ⟨_, rfl, h⟩
  · have h := h.2 c
    refine sg_ld f176_58 (v := .int x2) rfl rfl ?_
    refine sg_psh f176_59 (v := .int (-1)) (by decide) ?_
    refine sg_icmp f176_60 (fun c => ?_) (fun c => ?_)
    · have h := h.1 c
      refine sg_ld f176_129 (v := .int x1) rfl rfl ?_
      exact sg_iret f176_130 pq176 rfl rfl ⟨_, rfl, h⟩
    · have h := h.2 c
      refine sg_ld f176_63 (v := .int x2) rfl rfl ?_
      refine sg_st1 f176_64 (ls' := [some (.ref 47), some (.int x1), some (.int x2), some (.int x3), some (.int x2), none]) rfl rfl rfl rfl ?_
      refine sg_psh f176_66 (v := .int 0) (by decide) ?_
      refine sg_st1 f176_67 (ls' := [some (.ref 47), some (.int x1), some (.int x2), some (.int x3), some (.int x2), some (.int 0)]) rfl rfl rfl rfl ?_
      exact h

set_option maxRecDepth 10000 in
theorem rg176_69 {mi : Mi} {ml : Ml} {F : Int32 → Mi → Ml → Prop} {x1 : Int32} {x2 : Int32} {x3 : Int32} {x4 : Int32} {x5 : Int32}  (h : ((98 ≤ x5) → Sg 176 115 [some (.ref 47), some (.int x1), some (.int x2), some (.int x3), some (.int x4), some (.int x5)] [] mi ml (qi F)) ∧ (¬ (98 ≤ x5) → (vp_in x4 98) ∧ ((((mi 64 (Int32.toNatClampNeg x4)) = (-1)) → Sg 176 115 [some (.ref 47), some (.int x1), some (.int x2), some (.int x3), some (.int x4), some (.int x5)] [] mi ml (qi F)) ∧ (¬ ((mi 64 (Int32.toNatClampNeg x4)) = (-1)) → Sg 175 0 [some (.ref 47), some (.int (mi 64 (Int32.toNatClampNeg x4))), some (.int x4), none, none, none] [] mi ml (qv fun mi3 ml4 => Sg 176 69 [some (.ref 47), some (.int x1), some (.int x2), some (.int x3), some (.int (mi3 64 (Int32.toNatClampNeg x4))), some (.int (x5 + 1))] [] mi3 ml4 (qi F)))))) : Sg 176 69 [some (.ref 47), some (.int x1), some (.int x2), some (.int x3), some (.int x4), some (.int x5)] [] mi ml (qi F) := by
  refine sg_ld f176_69 (v := .int x5) rfl rfl ?_
  refine sg_psh f176_71 (v := .int 98) (by decide) ?_
  refine sg_icmp f176_73 (fun c => ?_) (fun c => ?_)
  · have h := h.1 c
    exact h
  · have h := h.2 c
    refine sg_ld f176_76 (v := .ref 47) rfl rfl ?_
    refine sg_getr f176_77 rfl rfl (w := 64) rfl ?_
    refine sg_ld f176_80 (v := .int x4) rfl rfl ?_
    obtain ⟨e1, h⟩ := h
    refine sg_iald f176_82 rfl e1 (x := (mi 64 (Int32.toNatClampNeg x4))) rfl ?_
    refine sg_psh f176_83 (v := .int (-1)) (by decide) ?_
    refine sg_icmp f176_84 (fun c => ?_) (fun c => ?_)
    · have h := h.1 c
      exact h
    · have h := h.2 c
      refine sg_ld f176_87 (v := .ref 47) rfl rfl ?_
      refine sg_ld f176_88 (v := .ref 47) rfl rfl ?_
      refine sg_getr f176_89 rfl rfl (w := 64) rfl ?_
      refine sg_ld f176_92 (v := .int x4) rfl rfl ?_
      refine sg_iald f176_94 rfl e1 (x := (mi 64 (Int32.toNatClampNeg x4))) rfl ?_
      refine sg_ld f176_95 (v := .int x4) rfl rfl ?_
      refine sg_cV f176_97 (vs := [.int (mi 64 (Int32.toNatClampNeg x4)), .int x4]) (r := 47) (rest := []) (en := [some (.ref 47), some (.int (mi 64 (Int32.toNatClampNeg x4))), some (.int x4), none, none, none]) pq175 ⟨rfl, rfl⟩ rfl rfl rfl rfl rfl rfl h ?_
      intro _ mi3 ml4 h
      have h := gm_qv h
      refine sg_ld f176_100 (v := .ref 47) rfl rfl ?_
      refine sg_getr f176_101 rfl rfl (w := 64) rfl ?_
      refine sg_ld f176_104 (v := .int x4) rfl rfl ?_
      refine sg_iald f176_106 rfl e1 (x := (mi3 64 (Int32.toNatClampNeg x4))) rfl ?_
      refine sg_st1 f176_107 (ls' := [some (.ref 47), some (.int x1), some (.int x2), some (.int x3), some (.int (mi3 64 (Int32.toNatClampNeg x4))), some (.int x5)]) rfl rfl rfl rfl ?_
      refine sg_inc f176_109 (d := 1) (ls' := [some (.ref 47), some (.int x1), some (.int x2), some (.int x3), some (.int (mi3 64 (Int32.toNatClampNeg x4))), some (.int (x5 + 1))]) rfl (by decide) rfl ?_
      refine sg_goto f176_112 ?_
      exact h

set_option maxRecDepth 10000 in
theorem rg176_115 {mi : Mi} {ml : Ml} {F : Int32 → Mi → Ml → Prop} {x1 : Int32} {x2 : Int32} {x3 : Int32} {x4 : Int32} {x5 : Int32}  (h : Sg 174 0 [some (.ref 47), none, none] [] mi ml (qi fun y1 mi2 ml3 => Sg 176 52 [some (.ref 47), some (.int (x1 + 1)), some (.int y1), some (.int (x3 + 1)), none, none] [] mi2 ml3 (qi F))) : Sg 176 115 [some (.ref 47), some (.int x1), some (.int x2), some (.int x3), some (.int x4), some (.int x5)] [] mi ml (qi F) := by
  refine sg_inc f176_115 (d := 1) (ls' := [some (.ref 47), some (.int (x1 + 1)), some (.int x2), some (.int x3), some (.int x4), some (.int x5)]) rfl (by decide) rfl ?_
  refine sg_ld f176_118 (v := .ref 47) rfl rfl ?_
  refine sg_cV f176_119 (vs := []) (r := 47) (rest := []) (en := [some (.ref 47), none, none]) pq174 ⟨rfl, rfl⟩ rfl rfl rfl rfl rfl rfl h ?_
  rintro _ mi2 ml3 ⟨y1, rfl, h⟩
  refine sg_st1 f176_122 (ls' := [some (.ref 47), some (.int (x1 + 1)), some (.int y1), some (.int x3), some (.int x4), some (.int x5)]) rfl rfl rfl rfl ?_
  refine sg_inc f176_123 (d := 1) (ls' := [some (.ref 47), some (.int (x1 + 1)), some (.int y1), some (.int (x3 + 1)), some (.int x4), some (.int x5)]) rfl (by decide) rfl ?_
  refine sg_goto f176_126 ?_
  exact sg_drop [4, 5] rfl h

/-! X7_chains ()I -/
theorem fe177 (pc : Nat) : gm_fetch 177 pc = gm_find pc cd_177 := rfl
theorem f177_0 : gm_fetch 177 0 = some (1, .aload_n 0, 0, 0, 0, 0) := (fe177 0).trans rfl
theorem f177_1 : gm_fetch 177 1 = some (4, .invokevirtual 253, 212, 176, 0, 0) := (fe177 1).trans rfl
theorem f177_4 : gm_fetch 177 4 = some (5, .ireturn, 0, 0, 0, 0) := (fe177 4).trans rfl
set_option maxRecDepth 10000 in
theorem rg177_0 {mi : Mi} {ml : Ml} {F : Int32 → Mi → Ml → Prop}   (h : Sg 176 0 [some (.ref 47), none, none, none, none, none] [] mi ml (qi fun y1 mi2 ml3 => F y1 mi2 ml3)) : Sg 177 0 [some (.ref 47)] [] mi ml (qi F) := by
  refine sg_ld f177_0 (v := .ref 47) rfl rfl ?_
  refine sg_cV f177_1 (vs := []) (r := 47) (rest := []) (en := [some (.ref 47), none, none, none, none, none]) pq176 ⟨rfl, rfl⟩ rfl rfl rfl rfl rfl rfl h ?_
  rintro _ mi2 ml3 ⟨y1, rfl, h⟩
  exact sg_iret f177_4 pq177 rfl rfl ⟨_, rfl, h⟩

/-! X7_cutNow ()J -/
theorem fe178 (pc : Nat) : gm_fetch 178 pc = gm_find pc cd_178 := rfl
theorem f178_0 : gm_fetch 178 0 = some (1, .aload_n 0, 0, 0, 0, 0) := (fe178 0).trans rfl
theorem f178_1 : gm_fetch 178 1 = some (4, .invokevirtual 253, 212, 176, 0, 0) := (fe178 1).trans rfl
theorem f178_4 : gm_fetch 178 4 = some (5, .pop, 0, 0, 0, 0) := (fe178 4).trans rfl
theorem f178_5 : gm_fetch 178 5 = some (6, .lconst 0, 0, 0, 0, 0) := (fe178 5).trans rfl
theorem f178_6 : gm_fetch 178 6 = some (7, .lstore_n 1, 0, 0, 0, 0) := (fe178 6).trans rfl
theorem f178_7 : gm_fetch 178 7 = some (8, .iconst 0, 0, 0, 0, 0) := (fe178 7).trans rfl
theorem f178_8 : gm_fetch 178 8 = some (9, .istore_n 3, 0, 0, 0, 0) := (fe178 8).trans rfl
theorem f178_9 : gm_fetch 178 9 = some (10, .iload_n 3, 0, 0, 0, 0) := (fe178 9).trans rfl
theorem f178_10 : gm_fetch 178 10 = some (11, .aload_n 0, 0, 0, 0, 0) := (fe178 10).trans rfl
theorem f178_11 : gm_fetch 178 11 = some (14, .getfield 77, 89, 7, 5, 0) := (fe178 11).trans rfl
theorem f178_14 : gm_fetch 178 14 = some (15, .aload_n 0, 0, 0, 0, 0) := (fe178 14).trans rfl
theorem f178_15 : gm_fetch 178 15 = some (18, .getfield 81, 90, 7, 6, 0) := (fe178 15).trans rfl
theorem f178_18 : gm_fetch 178 18 = some (19, .imul, 0, 0, 0, 0) := (fe178 18).trans rfl
theorem f178_19 : gm_fetch 178 19 = some (22, .if_icmp .ge 47, 0, 66, 0, 0) := (fe178 19).trans rfl
theorem f178_22 : gm_fetch 178 22 = some (23, .lload_n 1, 0, 0, 0, 0) := (fe178 22).trans rfl
theorem f178_23 : gm_fetch 178 23 = some (24, .aload_n 0, 0, 0, 0, 0) := (fe178 23).trans rfl
theorem f178_24 : gm_fetch 178 24 = some (27, .getfield 59, 109, 7, 25, 0) := (fe178 24).trans rfl
theorem f178_27 : gm_fetch 178 27 = some (28, .iconst 2, 0, 0, 0, 0) := (fe178 27).trans rfl
theorem f178_28 : gm_fetch 178 28 = some (29, .iload_n 3, 0, 0, 0, 0) := (fe178 28).trans rfl
theorem f178_29 : gm_fetch 178 29 = some (30, .imul, 0, 0, 0, 0) := (fe178 29).trans rfl
theorem f178_30 : gm_fetch 178 30 = some (31, .iaload, 0, 0, 0, 0) := (fe178 30).trans rfl
theorem f178_31 : gm_fetch 178 31 = some (33, .bipush (-2), 0, 0, 0, 0) := (fe178 31).trans rfl
theorem f178_33 : gm_fetch 178 33 = some (36, .if_icmp .eq 24, 0, 57, 0, 0) := (fe178 33).trans rfl
theorem f178_36 : gm_fetch 178 36 = some (37, .aload_n 0, 0, 0, 0, 0) := (fe178 36).trans rfl
theorem f178_37 : gm_fetch 178 37 = some (40, .getfield 59, 109, 7, 25, 0) := (fe178 37).trans rfl
theorem f178_40 : gm_fetch 178 40 = some (41, .iconst 2, 0, 0, 0, 0) := (fe178 40).trans rfl
theorem f178_41 : gm_fetch 178 41 = some (42, .iload_n 3, 0, 0, 0, 0) := (fe178 41).trans rfl
theorem f178_42 : gm_fetch 178 42 = some (43, .imul, 0, 0, 0, 0) := (fe178 42).trans rfl
theorem f178_43 : gm_fetch 178 43 = some (44, .iconst 1, 0, 0, 0, 0) := (fe178 43).trans rfl
theorem f178_44 : gm_fetch 178 44 = some (45, .iadd, 0, 0, 0, 0) := (fe178 44).trans rfl
theorem f178_45 : gm_fetch 178 45 = some (46, .iaload, 0, 0, 0, 0) := (fe178 45).trans rfl
theorem f178_46 : gm_fetch 178 46 = some (48, .bipush (-2), 0, 0, 0, 0) := (fe178 46).trans rfl
theorem f178_48 : gm_fetch 178 48 = some (51, .if_icmp .ne 9, 0, 57, 0, 0) := (fe178 48).trans rfl
theorem f178_51 : gm_fetch 178 51 = some (52, .lconst 1, 0, 0, 0, 0) := (fe178 51).trans rfl
theorem f178_52 : gm_fetch 178 52 = some (53, .iload_n 3, 0, 0, 0, 0) := (fe178 52).trans rfl
theorem f178_53 : gm_fetch 178 53 = some (54, .lshl, 0, 0, 0, 0) := (fe178 53).trans rfl
theorem f178_54 : gm_fetch 178 54 = some (57, .goto 4, 0, 58, 0, 0) := (fe178 54).trans rfl
theorem f178_57 : gm_fetch 178 57 = some (58, .lconst 0, 0, 0, 0, 0) := (fe178 57).trans rfl
theorem f178_58 : gm_fetch 178 58 = some (59, .lor, 0, 0, 0, 0) := (fe178 58).trans rfl
theorem f178_59 : gm_fetch 178 59 = some (60, .lstore_n 1, 0, 0, 0, 0) := (fe178 59).trans rfl
theorem f178_60 : gm_fetch 178 60 = some (63, .iinc 3 1, 0, 0, 0, 0) := (fe178 60).trans rfl
theorem f178_63 : gm_fetch 178 63 = some (66, .goto (-54), 0, 9, 0, 0) := (fe178 63).trans rfl
theorem f178_66 : gm_fetch 178 66 = some (67, .lload_n 1, 0, 0, 0, 0) := (fe178 66).trans rfl
theorem f178_67 : gm_fetch 178 67 = some (68, .lreturn, 0, 0, 0, 0) := (fe178 67).trans rfl
set_option maxRecDepth 10000 in
theorem rg178_0 {mi : Mi} {ml : Ml} {F : Int64 → Mi → Ml → Prop}   (h : Sg 176 0 [some (.ref 47), none, none, none, none, none] [] mi ml (qi fun y1 mi2 ml3 => Sg 178 9 [some (.ref 47), some (.long 0), none, some (.int 0)] [] mi2 ml3 (ql F))) : Sg 178 0 [some (.ref 47), none, none, none] [] mi ml (ql F) := by
  refine sg_ld f178_0 (v := .ref 47) rfl rfl ?_
  refine sg_cV f178_1 (vs := []) (r := 47) (rest := []) (en := [some (.ref 47), none, none, none, none, none]) pq176 ⟨rfl, rfl⟩ rfl rfl rfl rfl rfl rfl h ?_
  rintro _ mi2 ml3 ⟨y1, rfl, h⟩
  refine sg_pop f178_4 rfl ?_
  refine sg_psh f178_5 (v := .long 0) (by decide) ?_
  refine sg_st2 f178_6 (ls' := [some (.ref 47), some (.long 0), none, none]) rfl rfl rfl ?_
  refine sg_psh f178_7 (v := .int 0) (by decide) ?_
  refine sg_st1 f178_8 (ls' := [some (.ref 47), some (.long 0), none, some (.int 0)]) rfl rfl rfl rfl ?_
  exact h

set_option maxRecDepth 10000 in
theorem rg178_9 {mi : Mi} {ml : Ml} {F : Int64 → Mi → Ml → Prop} {x1 : Int64} {x3 : Int32}  (h : ((((mi 47 5) * (mi 47 6)) ≤ x3) → F x1 mi ml) ∧ (¬ (((mi 47 5) * (mi 47 6)) ≤ x3) → (vp_in (2 * x3) 98) ∧ ((((mi 64 (Int32.toNatClampNeg (2 * x3))) = (-2)) → Sg 178 9 [some (.ref 47), some (.long (x1 ||| 0)), none, some (.int (x3 + 1))] [] mi ml (ql F)) ∧ (¬ ((mi 64 (Int32.toNatClampNeg (2 * x3))) = (-2)) → (vp_in ((2 * x3) + 1) 98) ∧ (((¬ (mi 64 (Int32.toNatClampNeg ((2 * x3) + 1))) = (-2)) → Sg 178 9 [some (.ref 47), some (.long (x1 ||| 0)), none, some (.int (x3 + 1))] [] mi ml (ql F)) ∧ (¬ (¬ (mi 64 (Int32.toNatClampNeg ((2 * x3) + 1))) = (-2)) → Sg 178 9 [some (.ref 47), some (.long (x1 ||| (lshl 1 x3))), none, some (.int (x3 + 1))] [] mi ml (ql F))))))) : Sg 178 9 [some (.ref 47), some (.long x1), none, some (.int x3)] [] mi ml (ql F) := by
  refine sg_ld f178_9 (v := .int x3) rfl rfl ?_
  refine sg_ld f178_10 (v := .ref 47) rfl rfl ?_
  refine sg_geti f178_11 rfl rfl (x := (mi 47 5)) rfl ?_
  refine sg_ld f178_14 (v := .ref 47) rfl rfl ?_
  refine sg_geti f178_15 rfl rfl (x := (mi 47 6)) rfl ?_
  refine sg_bin f178_18 rfl ?_
  refine sg_icmp f178_19 (fun c => ?_) (fun c => ?_)
  · have h := h.1 c
    refine sg_ld f178_66 (v := .long x1) rfl rfl ?_
    exact sg_lret f178_67 pq178 rfl ⟨_, rfl, h⟩
  · have h := h.2 c
    refine sg_ld f178_22 (v := .long x1) rfl rfl ?_
    refine sg_ld f178_23 (v := .ref 47) rfl rfl ?_
    refine sg_getr f178_24 rfl rfl (w := 64) rfl ?_
    refine sg_psh f178_27 (v := .int 2) (by decide) ?_
    refine sg_ld f178_28 (v := .int x3) rfl rfl ?_
    refine sg_bin f178_29 rfl ?_
    obtain ⟨e1, h⟩ := h
    refine sg_iald f178_30 rfl e1 (x := (mi 64 (Int32.toNatClampNeg (2 * x3)))) rfl ?_
    refine sg_psh f178_31 (v := .int (-2)) (by decide) ?_
    refine sg_icmp f178_33 (fun c => ?_) (fun c => ?_)
    · have h := h.1 c
      refine sg_psh f178_57 (v := .long 0) (by decide) ?_
      refine sg_binl f178_58 rfl ?_
      refine sg_st2 f178_59 (ls' := [some (.ref 47), some (.long (x1 ||| 0)), none, some (.int x3)]) rfl rfl rfl ?_
      refine sg_inc f178_60 (d := 1) (ls' := [some (.ref 47), some (.long (x1 ||| 0)), none, some (.int (x3 + 1))]) rfl (by decide) rfl ?_
      refine sg_goto f178_63 ?_
      exact h
    · have h := h.2 c
      refine sg_ld f178_36 (v := .ref 47) rfl rfl ?_
      refine sg_getr f178_37 rfl rfl (w := 64) rfl ?_
      refine sg_psh f178_40 (v := .int 2) (by decide) ?_
      refine sg_ld f178_41 (v := .int x3) rfl rfl ?_
      refine sg_bin f178_42 rfl ?_
      refine sg_psh f178_43 (v := .int 1) (by decide) ?_
      refine sg_bin f178_44 rfl ?_
      obtain ⟨e2, h⟩ := h
      refine sg_iald f178_45 rfl e2 (x := (mi 64 (Int32.toNatClampNeg ((2 * x3) + 1)))) rfl ?_
      refine sg_psh f178_46 (v := .int (-2)) (by decide) ?_
      refine sg_icmp f178_48 (fun c => ?_) (fun c => ?_)
      · have h := h.1 c
        refine sg_psh f178_57 (v := .long 0) (by decide) ?_
        refine sg_binl f178_58 rfl ?_
        refine sg_st2 f178_59 (ls' := [some (.ref 47), some (.long (x1 ||| 0)), none, some (.int x3)]) rfl rfl rfl ?_
        refine sg_inc f178_60 (d := 1) (ls' := [some (.ref 47), some (.long (x1 ||| 0)), none, some (.int (x3 + 1))]) rfl (by decide) rfl ?_
        refine sg_goto f178_63 ?_
        exact h
      · have h := h.2 c
        refine sg_psh f178_51 (v := .long 1) (by decide) ?_
        refine sg_ld f178_52 (v := .int x3) rfl rfl ?_
        refine sg_shl f178_53 rfl ?_
        refine sg_goto f178_54 ?_
        refine sg_binl f178_58 rfl ?_
        refine sg_st2 f178_59 (ls' := [some (.ref 47), some (.long (x1 ||| (lshl 1 x3))), none, some (.int x3)]) rfl rfl rfl ?_
        refine sg_inc f178_60 (d := 1) (ls' := [some (.ref 47), some (.long (x1 ||| (lshl 1 x3))), none, some (.int (x3 + 1))]) rfl (by decide) rfl ?_
        refine sg_goto f178_63 ?_
        exact h

/-! X7_cut ()J -/
theorem fe179 (pc : Nat) : gm_fetch 179 pc = gm_find pc cd_179 := rfl
theorem f179_0 : gm_fetch 179 0 = some (1, .aload_n 0, 0, 0, 0, 0) := (fe179 0).trans rfl
theorem f179_1 : gm_fetch 179 1 = some (4, .invokevirtual 256, 221, 178, 0, 0) := (fe179 1).trans rfl
theorem f179_4 : gm_fetch 179 4 = some (5, .lreturn, 0, 0, 0, 0) := (fe179 4).trans rfl
set_option maxRecDepth 10000 in
theorem rg179_0 {mi : Mi} {ml : Ml} {F : Int64 → Mi → Ml → Prop}   (h : Sg 178 0 [some (.ref 47), none, none, none] [] mi ml (ql fun y1 mi2 ml3 => F y1 mi2 ml3)) : Sg 179 0 [some (.ref 47)] [] mi ml (ql F) := by
  refine sg_ld f179_0 (v := .ref 47) rfl rfl ?_
  refine sg_cV f179_1 (vs := []) (r := 47) (rest := []) (en := [some (.ref 47), none, none, none]) pq178 ⟨rfl, rfl⟩ rfl rfl rfl rfl rfl rfl h ?_
  rintro _ mi2 ml3 ⟨y1, rfl, h⟩
  exact sg_lret f179_4 pq179 rfl ⟨_, rfl, h⟩

/-! X7_taskAt (II)I -/
theorem fe180 (pc : Nat) : gm_fetch 180 pc = gm_find pc cd_180 := rfl
theorem f180_0 : gm_fetch 180 0 = some (1, .iconst 0, 0, 0, 0, 0) := (fe180 0).trans rfl
theorem f180_1 : gm_fetch 180 1 = some (2, .istore_n 3, 0, 0, 0, 0) := (fe180 1).trans rfl
theorem f180_2 : gm_fetch 180 2 = some (3, .iload_n 3, 0, 0, 0, 0) := (fe180 2).trans rfl
theorem f180_3 : gm_fetch 180 3 = some (4, .aload_n 0, 0, 0, 0, 0) := (fe180 3).trans rfl
theorem f180_4 : gm_fetch 180 4 = some (7, .getfield 84, 91, 7, 7, 0) := (fe180 4).trans rfl
theorem f180_7 : gm_fetch 180 7 = some (10, .if_icmp .ge 32, 0, 39, 0, 0) := (fe180 7).trans rfl
theorem f180_10 : gm_fetch 180 10 = some (11, .aload_n 0, 0, 0, 0, 0) := (fe180 10).trans rfl
theorem f180_11 : gm_fetch 180 11 = some (14, .getfield 137, 95, 7, 11, 0) := (fe180 11).trans rfl
theorem f180_14 : gm_fetch 180 14 = some (17, .ifCond .eq 25, 0, 39, 0, 0) := (fe180 14).trans rfl
theorem f180_17 : gm_fetch 180 17 = some (18, .aload_n 0, 0, 0, 0, 0) := (fe180 17).trans rfl
theorem f180_18 : gm_fetch 180 18 = some (21, .getfield 25, 96, 7, 12, 0) := (fe180 18).trans rfl
theorem f180_21 : gm_fetch 180 21 = some (22, .iload_n 2, 0, 0, 0, 0) := (fe180 21).trans rfl
theorem f180_22 : gm_fetch 180 22 = some (23, .iaload, 0, 0, 0, 0) := (fe180 22).trans rfl
theorem f180_23 : gm_fetch 180 23 = some (24, .iload_n 3, 0, 0, 0, 0) := (fe180 23).trans rfl
theorem f180_24 : gm_fetch 180 24 = some (27, .invokestatic 161, 183, 140, 0, 0) := (fe180 24).trans rfl
theorem f180_27 : gm_fetch 180 27 = some (28, .iload_n 1, 0, 0, 0, 0) := (fe180 27).trans rfl
theorem f180_28 : gm_fetch 180 28 = some (31, .if_icmp .ne 5, 0, 33, 0, 0) := (fe180 28).trans rfl
theorem f180_31 : gm_fetch 180 31 = some (32, .iload_n 3, 0, 0, 0, 0) := (fe180 31).trans rfl
theorem f180_32 : gm_fetch 180 32 = some (33, .ireturn, 0, 0, 0, 0) := (fe180 32).trans rfl
theorem f180_33 : gm_fetch 180 33 = some (36, .iinc 3 1, 0, 0, 0, 0) := (fe180 33).trans rfl
theorem f180_36 : gm_fetch 180 36 = some (39, .goto (-34), 0, 2, 0, 0) := (fe180 36).trans rfl
theorem f180_39 : gm_fetch 180 39 = some (40, .iconst (-1), 0, 0, 0, 0) := (fe180 39).trans rfl
theorem f180_40 : gm_fetch 180 40 = some (41, .ireturn, 0, 0, 0, 0) := (fe180 40).trans rfl
set_option maxRecDepth 10000 in
theorem rg180_0 {mi : Mi} {ml : Ml} {F : Int32 → Mi → Ml → Prop} {x1 : Int32} {x2 : Int32}  (h : Sg 180 2 [some (.ref 47), some (.int x1), some (.int x2), some (.int 0)] [] mi ml (qi F)) : Sg 180 0 [some (.ref 47), some (.int x1), some (.int x2), none] [] mi ml (qi F) := by
  refine sg_psh f180_0 (v := .int 0) (by decide) ?_
  refine sg_st1 f180_1 (ls' := [some (.ref 47), some (.int x1), some (.int x2), some (.int 0)]) rfl rfl rfl rfl ?_
  exact h

set_option maxRecDepth 10000 in
theorem rg180_2 {mi : Mi} {ml : Ml} {F : Int32 → Mi → Ml → Prop} {x1 : Int32} {x2 : Int32} {x3 : Int32}  (h : (((mi 47 7) ≤ x3) → F (-1) mi ml) ∧ (¬ ((mi 47 7) ≤ x3) → (((mi 47 11) = 0) → F (-1) mi ml) ∧ (¬ ((mi 47 11) = 0) → (vp_in x2 7) ∧ (Sg 140 0 [some (.int (mi 53 (Int32.toNatClampNeg x2))), some (.int x3), none, none] [] mi ml (qi fun y2 mi3 ml4 => ((¬ y2 = x1) → Sg 180 2 [some (.ref 47), some (.int x1), some (.int x2), some (.int (x3 + 1))] [] mi3 ml4 (qi F)) ∧ (¬ (¬ y2 = x1) → F x3 mi3 ml4)))))) : Sg 180 2 [some (.ref 47), some (.int x1), some (.int x2), some (.int x3)] [] mi ml (qi F) := by
  refine sg_ld f180_2 (v := .int x3) rfl rfl ?_
  refine sg_ld f180_3 (v := .ref 47) rfl rfl ?_
  refine sg_geti f180_4 rfl rfl (x := (mi 47 7)) rfl ?_
  refine sg_icmp f180_7 (fun c => ?_) (fun c => ?_)
  · have h := h.1 c
    refine sg_psh f180_39 (v := .int (-1)) (by decide) ?_
    exact sg_iret f180_40 pq180 rfl rfl ⟨_, rfl, h⟩
  · have h := h.2 c
    refine sg_ld f180_10 (v := .ref 47) rfl rfl ?_
    refine sg_geti f180_11 rfl rfl (x := (mi 47 11)) rfl ?_
    refine sg_if f180_14 (fun c => ?_) (fun c => ?_)
    · have h := h.1 c
      refine sg_psh f180_39 (v := .int (-1)) (by decide) ?_
      exact sg_iret f180_40 pq180 rfl rfl ⟨_, rfl, h⟩
    · have h := h.2 c
      refine sg_ld f180_17 (v := .ref 47) rfl rfl ?_
      refine sg_getr f180_18 rfl rfl (w := 53) rfl ?_
      refine sg_ld f180_21 (v := .int x2) rfl rfl ?_
      obtain ⟨e1, h⟩ := h
      refine sg_iald f180_22 rfl e1 (x := (mi 53 (Int32.toNatClampNeg x2))) rfl ?_
      refine sg_ld f180_23 (v := .int x3) rfl rfl ?_
      refine sg_cS f180_24 (vs := [.int (mi 53 (Int32.toNatClampNeg x2)), .int x3]) (rest := []) (en := [some (.int (mi 53 (Int32.toNatClampNeg x2))), some (.int x3), none, none]) (by decide) pq140 ⟨rfl, rfl⟩ rfl rfl rfl rfl rfl h ?_
      rintro _ mi3 ml4 ⟨y2, rfl, h⟩
      refine sg_ld f180_27 (v := .int x1) rfl rfl ?_
      refine sg_icmp f180_28 (fun c => ?_) (fun c => ?_)
      · have h := h.1 c
        refine sg_inc f180_33 (d := 1) (ls' := [some (.ref 47), some (.int x1), some (.int x2), some (.int (x3 + 1))]) rfl (by decide) rfl ?_
        refine sg_goto f180_36 ?_
        exact h
      · have h := h.2 c
        refine sg_ld f180_31 (v := .int x3) rfl rfl ?_
        exact sg_iret f180_32 pq180 rfl rfl ⟨_, rfl, h⟩

/-! X7_cellBy (IIJ)I -/
theorem fe181 (pc : Nat) : gm_fetch 181 pc = gm_find pc cd_181 := rfl
theorem f181_0 : gm_fetch 181 0 = some (1, .iload_n 2, 0, 0, 0, 0) := (fe181 0).trans rfl
theorem f181_1 : gm_fetch 181 1 = some (4, .ifCond .ne 19, 0, 20, 0, 0) := (fe181 1).trans rfl
theorem f181_4 : gm_fetch 181 4 = some (5, .aload_n 0, 0, 0, 0, 0) := (fe181 4).trans rfl
theorem f181_5 : gm_fetch 181 5 = some (6, .iload_n 1, 0, 0, 0, 0) := (fe181 5).trans rfl
theorem f181_6 : gm_fetch 181 6 = some (9, .invokevirtual 238, 214, 170, 0, 0) := (fe181 6).trans rfl
theorem f181_9 : gm_fetch 181 9 = some (12, .ifCond .eq 7, 0, 16, 0, 0) := (fe181 9).trans rfl
theorem f181_12 : gm_fetch 181 12 = some (13, .iconst 1, 0, 0, 0, 0) := (fe181 12).trans rfl
theorem f181_13 : gm_fetch 181 13 = some (16, .goto 44, 0, 57, 0, 0) := (fe181 13).trans rfl
theorem f181_16 : gm_fetch 181 16 = some (17, .iconst 0, 0, 0, 0, 0) := (fe181 16).trans rfl
theorem f181_17 : gm_fetch 181 17 = some (20, .goto 40, 0, 57, 0, 0) := (fe181 17).trans rfl
theorem f181_20 : gm_fetch 181 20 = some (21, .iload_n 2, 0, 0, 0, 0) := (fe181 20).trans rfl
theorem f181_21 : gm_fetch 181 21 = some (22, .iconst 1, 0, 0, 0, 0) := (fe181 21).trans rfl
theorem f181_22 : gm_fetch 181 22 = some (25, .if_icmp .ne 22, 0, 44, 0, 0) := (fe181 22).trans rfl
theorem f181_25 : gm_fetch 181 25 = some (26, .aload_n 0, 0, 0, 0, 0) := (fe181 25).trans rfl
theorem f181_26 : gm_fetch 181 26 = some (27, .iload_n 1, 0, 0, 0, 0) := (fe181 26).trans rfl
theorem f181_27 : gm_fetch 181 27 = some (28, .aload_n 0, 0, 0, 0, 0) := (fe181 27).trans rfl
theorem f181_28 : gm_fetch 181 28 = some (31, .getfield 81, 90, 7, 6, 0) := (fe181 28).trans rfl
theorem f181_31 : gm_fetch 181 31 = some (32, .irem, 0, 0, 0, 0) := (fe181 31).trans rfl
theorem f181_32 : gm_fetch 181 32 = some (33, .iload_n 1, 0, 0, 0, 0) := (fe181 32).trans rfl
theorem f181_33 : gm_fetch 181 33 = some (34, .aload_n 0, 0, 0, 0, 0) := (fe181 33).trans rfl
theorem f181_34 : gm_fetch 181 34 = some (37, .getfield 81, 90, 7, 6, 0) := (fe181 34).trans rfl
theorem f181_37 : gm_fetch 181 37 = some (38, .idiv, 0, 0, 0, 0) := (fe181 37).trans rfl
theorem f181_38 : gm_fetch 181 38 = some (41, .invokevirtual 259, 224, 180, 0, 0) := (fe181 38).trans rfl
theorem f181_41 : gm_fetch 181 41 = some (44, .goto 16, 0, 57, 0, 0) := (fe181 41).trans rfl
theorem f181_44 : gm_fetch 181 44 = some (45, .lload_n 3, 0, 0, 0, 0) := (fe181 44).trans rfl
theorem f181_45 : gm_fetch 181 45 = some (46, .iload_n 1, 0, 0, 0, 0) := (fe181 45).trans rfl
theorem f181_46 : gm_fetch 181 46 = some (49, .invokestatic 97, 176, 116, 0, 0) := (fe181 46).trans rfl
theorem f181_49 : gm_fetch 181 49 = some (52, .ifCond .eq 7, 0, 56, 0, 0) := (fe181 49).trans rfl
theorem f181_52 : gm_fetch 181 52 = some (53, .iconst 1, 0, 0, 0, 0) := (fe181 52).trans rfl
theorem f181_53 : gm_fetch 181 53 = some (56, .goto 4, 0, 57, 0, 0) := (fe181 53).trans rfl
theorem f181_56 : gm_fetch 181 56 = some (57, .iconst 0, 0, 0, 0, 0) := (fe181 56).trans rfl
theorem f181_57 : gm_fetch 181 57 = some (58, .ireturn, 0, 0, 0, 0) := (fe181 57).trans rfl
set_option maxRecDepth 10000 in
theorem rg181_0 {mi : Mi} {ml : Ml} {F : Int32 → Mi → Ml → Prop} {x1 : Int32} {x2 : Int32} {x3 : Int64}  (h : ((¬ x2 = 0) → ((¬ x2 = 1) → Sg 116 0 [some (.long x3), none, some (.int x1)] [] mi ml (qi fun y1 mi2 ml3 => ((y1 = 0) → F 0 mi2 ml3) ∧ (¬ (y1 = 0) → F 1 mi2 ml3))) ∧ (¬ (¬ x2 = 1) → (¬ (mi 47 6) = 0) ∧ (Sg 180 0 [some (.ref 47), some (.int (x1 - x1 / (mi 47 6) * (mi 47 6))), some (.int (x1 / (mi 47 6))), none] [] mi ml (qi fun y5 mi6 ml7 => F y5 mi6 ml7)))) ∧ (¬ (¬ x2 = 0) → Sg 170 0 [some (.ref 47), some (.int x1)] [] mi ml (qi fun y8 mi9 ml10 => ((y8 = 0) → F 0 mi9 ml10) ∧ (¬ (y8 = 0) → F 1 mi9 ml10)))) : Sg 181 0 [some (.ref 47), some (.int x1), some (.int x2), some (.long x3), none] [] mi ml (qi F) := by
  refine sg_ld f181_0 (v := .int x2) rfl rfl ?_
  refine sg_if f181_1 (fun c => ?_) (fun c => ?_)
  · have h := h.1 c
    refine sg_ld f181_20 (v := .int x2) rfl rfl ?_
    refine sg_psh f181_21 (v := .int 1) (by decide) ?_
    refine sg_icmp f181_22 (fun c => ?_) (fun c => ?_)
    · have h := h.1 c
      refine sg_ld f181_44 (v := .long x3) rfl rfl ?_
      refine sg_ld f181_45 (v := .int x1) rfl rfl ?_
      refine sg_cS f181_46 (vs := [.long x3, .int x1]) (rest := []) (en := [some (.long x3), none, some (.int x1)]) (by decide) pq116 ⟨rfl, rfl⟩ rfl rfl rfl rfl rfl h ?_
      rintro _ mi2 ml3 ⟨y1, rfl, h⟩
      refine sg_if f181_49 (fun c => ?_) (fun c => ?_)
      · have h := h.1 c
        refine sg_psh f181_56 (v := .int 0) (by decide) ?_
        exact sg_iret f181_57 pq181 rfl rfl ⟨_, rfl, h⟩
      · have h := h.2 c
        refine sg_psh f181_52 (v := .int 1) (by decide) ?_
        refine sg_goto f181_53 ?_
        exact sg_iret f181_57 pq181 rfl rfl ⟨_, rfl, h⟩
    · have h := h.2 c
      refine sg_ld f181_25 (v := .ref 47) rfl rfl ?_
      refine sg_ld f181_26 (v := .int x1) rfl rfl ?_
      refine sg_ld f181_27 (v := .ref 47) rfl rfl ?_
      refine sg_geti f181_28 rfl rfl (x := (mi 47 6)) rfl ?_
      obtain ⟨e4, h⟩ := h
      refine sg_rem f181_31 e4 ?_
      refine sg_ld f181_32 (v := .int x1) rfl rfl ?_
      refine sg_ld f181_33 (v := .ref 47) rfl rfl ?_
      refine sg_geti f181_34 rfl rfl (x := (mi 47 6)) rfl ?_
      refine sg_div f181_37 e4 ?_
      refine sg_cV f181_38 (vs := [.int (x1 - x1 / (mi 47 6) * (mi 47 6)), .int (x1 / (mi 47 6))]) (r := 47) (rest := []) (en := [some (.ref 47), some (.int (x1 - x1 / (mi 47 6) * (mi 47 6))), some (.int (x1 / (mi 47 6))), none]) pq180 ⟨rfl, rfl⟩ rfl rfl rfl rfl rfl rfl h ?_
      rintro _ mi6 ml7 ⟨y5, rfl, h⟩
      refine sg_goto f181_41 ?_
      exact sg_iret f181_57 pq181 rfl rfl ⟨_, rfl, h⟩
  · have h := h.2 c
    refine sg_ld f181_4 (v := .ref 47) rfl rfl ?_
    refine sg_ld f181_5 (v := .int x1) rfl rfl ?_
    refine sg_cV f181_6 (vs := [.int x1]) (r := 47) (rest := []) (en := [some (.ref 47), some (.int x1)]) pq170 ⟨rfl, rfl⟩ rfl rfl rfl rfl rfl rfl h ?_
    rintro _ mi9 ml10 ⟨y8, rfl, h⟩
    refine sg_if f181_9 (fun c => ?_) (fun c => ?_)
    · have h := h.1 c
      refine sg_psh f181_16 (v := .int 0) (by decide) ?_
      refine sg_goto f181_17 ?_
      exact sg_iret f181_57 pq181 rfl rfl ⟨_, rfl, h⟩
    · have h := h.2 c
      refine sg_psh f181_12 (v := .int 1) (by decide) ?_
      refine sg_goto f181_13 ?_
      exact sg_iret f181_57 pq181 rfl rfl ⟨_, rfl, h⟩

/-! X7_cell (III)I -/
theorem fe182 (pc : Nat) : gm_fetch 182 pc = gm_find pc cd_182 := rfl
theorem f182_0 : gm_fetch 182 0 = some (1, .aload_n 0, 0, 0, 0, 0) := (fe182 0).trans rfl
theorem f182_1 : gm_fetch 182 1 = some (2, .iload_n 1, 0, 0, 0, 0) := (fe182 1).trans rfl
theorem f182_2 : gm_fetch 182 2 = some (3, .iload_n 2, 0, 0, 0, 0) := (fe182 2).trans rfl
theorem f182_3 : gm_fetch 182 3 = some (6, .invokevirtual 143, 172, 130, 0, 0) := (fe182 3).trans rfl
theorem f182_6 : gm_fetch 182 6 = some (9, .ifCond .eq 15, 0, 21, 0, 0) := (fe182 6).trans rfl
theorem f182_9 : gm_fetch 182 9 = some (10, .iload_n 3, 0, 0, 0, 0) := (fe182 9).trans rfl
theorem f182_10 : gm_fetch 182 10 = some (11, .i2l, 0, 0, 0, 0) := (fe182 10).trans rfl
theorem f182_11 : gm_fetch 182 11 = some (12, .lconst 0, 0, 0, 0, 0) := (fe182 11).trans rfl
theorem f182_12 : gm_fetch 182 12 = some (15, .ldc2_w 262, 10, 0, 0, 4) := (fe182 12).trans rfl
theorem f182_15 : gm_fetch 182 15 = some (18, .invokestatic 93, 158, 114, 0, 0) := (fe182 15).trans rfl
theorem f182_18 : gm_fetch 182 18 = some (21, .ifCond .ne 6, 0, 24, 0, 0) := (fe182 18).trans rfl
theorem f182_21 : gm_fetch 182 21 = some (23, .bipush (-2), 0, 0, 0, 0) := (fe182 21).trans rfl
theorem f182_23 : gm_fetch 182 23 = some (24, .ireturn, 0, 0, 0, 0) := (fe182 23).trans rfl
theorem f182_24 : gm_fetch 182 24 = some (25, .aload_n 0, 0, 0, 0, 0) := (fe182 24).trans rfl
theorem f182_25 : gm_fetch 182 25 = some (28, .invokevirtual 177, 181, 142, 0, 0) := (fe182 25).trans rfl
theorem f182_28 : gm_fetch 182 28 = some (29, .iload_n 3, 0, 0, 0, 0) := (fe182 28).trans rfl
theorem f182_29 : gm_fetch 182 29 = some (30, .iconst 2, 0, 0, 0, 0) := (fe182 29).trans rfl
theorem f182_30 : gm_fetch 182 30 = some (33, .if_icmp .ne 10, 0, 40, 0, 0) := (fe182 30).trans rfl
theorem f182_33 : gm_fetch 182 33 = some (34, .aload_n 0, 0, 0, 0, 0) := (fe182 33).trans rfl
theorem f182_34 : gm_fetch 182 34 = some (37, .invokevirtual 223, 208, 164, 0, 0) := (fe182 34).trans rfl
theorem f182_37 : gm_fetch 182 37 = some (40, .goto 28, 0, 65, 0, 0) := (fe182 37).trans rfl
theorem f182_40 : gm_fetch 182 40 = some (41, .iload_n 3, 0, 0, 0, 0) := (fe182 40).trans rfl
theorem f182_41 : gm_fetch 182 41 = some (42, .iconst 3, 0, 0, 0, 0) := (fe182 41).trans rfl
theorem f182_42 : gm_fetch 182 42 = some (45, .if_icmp .ne 10, 0, 52, 0, 0) := (fe182 42).trans rfl
theorem f182_45 : gm_fetch 182 45 = some (46, .aload_n 0, 0, 0, 0, 0) := (fe182 45).trans rfl
theorem f182_46 : gm_fetch 182 46 = some (49, .invokevirtual 219, 206, 163, 0, 0) := (fe182 46).trans rfl
theorem f182_49 : gm_fetch 182 49 = some (52, .goto 16, 0, 65, 0, 0) := (fe182 49).trans rfl
theorem f182_52 : gm_fetch 182 52 = some (53, .iload_n 3, 0, 0, 0, 0) := (fe182 52).trans rfl
theorem f182_53 : gm_fetch 182 53 = some (54, .iconst 4, 0, 0, 0, 0) := (fe182 53).trans rfl
theorem f182_54 : gm_fetch 182 54 = some (57, .if_icmp .ne 10, 0, 64, 0, 0) := (fe182 54).trans rfl
theorem f182_57 : gm_fetch 182 57 = some (58, .aload_n 0, 0, 0, 0, 0) := (fe182 57).trans rfl
theorem f182_58 : gm_fetch 182 58 = some (61, .invokevirtual 256, 221, 178, 0, 0) := (fe182 58).trans rfl
theorem f182_61 : gm_fetch 182 61 = some (64, .goto 4, 0, 65, 0, 0) := (fe182 61).trans rfl
theorem f182_64 : gm_fetch 182 64 = some (65, .lconst 0, 0, 0, 0, 0) := (fe182 64).trans rfl
theorem f182_65 : gm_fetch 182 65 = some (67, .lstore 4, 0, 0, 0, 0) := (fe182 65).trans rfl
theorem f182_67 : gm_fetch 182 67 = some (68, .aload_n 0, 0, 0, 0, 0) := (fe182 67).trans rfl
theorem f182_68 : gm_fetch 182 68 = some (69, .iload_n 2, 0, 0, 0, 0) := (fe182 68).trans rfl
theorem f182_69 : gm_fetch 182 69 = some (70, .aload_n 0, 0, 0, 0, 0) := (fe182 69).trans rfl
theorem f182_70 : gm_fetch 182 70 = some (73, .getfield 81, 90, 7, 6, 0) := (fe182 70).trans rfl
theorem f182_73 : gm_fetch 182 73 = some (74, .imul, 0, 0, 0, 0) := (fe182 73).trans rfl
theorem f182_74 : gm_fetch 182 74 = some (75, .iload_n 1, 0, 0, 0, 0) := (fe182 74).trans rfl
theorem f182_75 : gm_fetch 182 75 = some (76, .iadd, 0, 0, 0, 0) := (fe182 75).trans rfl
theorem f182_76 : gm_fetch 182 76 = some (77, .iload_n 3, 0, 0, 0, 0) := (fe182 76).trans rfl
theorem f182_77 : gm_fetch 182 77 = some (79, .lload 4, 0, 0, 0, 0) := (fe182 77).trans rfl
theorem f182_79 : gm_fetch 182 79 = some (82, .invokevirtual 264, 223, 181, 0, 0) := (fe182 79).trans rfl
theorem f182_82 : gm_fetch 182 82 = some (83, .ireturn, 0, 0, 0, 0) := (fe182 82).trans rfl
set_option maxRecDepth 10000 in
theorem rg182_0 {mi : Mi} {ml : Ml} {F : Int32 → Mi → Ml → Prop} {x1 : Int32} {x2 : Int32} {x3 : Int32}  (h : Sg 130 0 [some (.ref 47), some (.int x1), some (.int x2)] [] mi ml (qi fun y1 mi2 ml3 => ((y1 = 0) → F (-2) mi2 ml3) ∧ (¬ (y1 = 0) → Sg 114 0 [some (.long (Int32.toInt64 x3)), none, some (.long 0), none, some (.long 4), none] [] mi2 ml3 (qi fun y4 mi5 ml6 => ((¬ y4 = 0) → Sg 142 0 [some (.ref 47)] [] mi5 ml6 (qv fun mi8 ml9 => ((¬ x3 = 2) → ((¬ x3 = 3) → ((¬ x3 = 4) → Sg 182 65 [some (.ref 47), some (.int x1), some (.int x2), some (.int x3), none, none] [.long 0] mi8 ml9 (qi F)) ∧ (¬ (¬ x3 = 4) → Sg 178 0 [some (.ref 47), none, none, none] [] mi8 ml9 (ql fun y10 mi11 ml12 => Sg 182 65 [some (.ref 47), some (.int x1), some (.int x2), some (.int x3), none, none] [.long y10] mi11 ml12 (qi F)))) ∧ (¬ (¬ x3 = 3) → Sg 163 0 [some (.ref 47), none, none, none, none, none, none, none, none] [] mi8 ml9 (ql fun y13 mi14 ml15 => Sg 182 65 [some (.ref 47), some (.int x1), some (.int x2), some (.int x3), none, none] [.long y13] mi14 ml15 (qi F)))) ∧ (¬ (¬ x3 = 2) → Sg 164 0 [some (.ref 47), none, none, none, none, none] [] mi8 ml9 (ql fun y16 mi17 ml18 => Sg 182 65 [some (.ref 47), some (.int x1), some (.int x2), some (.int x3), none, none] [.long y16] mi17 ml18 (qi F))))) ∧ (¬ (¬ y4 = 0) → F (-2) mi5 ml6))))) : Sg 182 0 [some (.ref 47), some (.int x1), some (.int x2), some (.int x3), none, none] [] mi ml (qi F) := by
  refine sg_ld f182_0 (v := .ref 47) rfl rfl ?_
  refine sg_ld f182_1 (v := .int x1) rfl rfl ?_
  refine sg_ld f182_2 (v := .int x2) rfl rfl ?_
  refine sg_cV f182_3 (vs := [.int x1, .int x2]) (r := 47) (rest := []) (en := [some (.ref 47), some (.int x1), some (.int x2)]) pq130 ⟨rfl, rfl⟩ rfl rfl rfl rfl rfl rfl h ?_
  rintro _ mi2 ml3 ⟨y1, rfl, h⟩
  refine sg_if f182_6 (fun c => ?_) (fun c => ?_)
  · have h := h.1 c
    refine sg_psh f182_21 (v := .int (-2)) (by decide) ?_
    exact sg_iret f182_23 pq182 rfl rfl ⟨_, rfl, h⟩
  · have h := h.2 c
    refine sg_ld f182_9 (v := .int x3) rfl rfl ?_
    refine sg_i2l f182_10 ?_
    refine sg_psh f182_11 (v := .long 0) (by decide) ?_
    refine sg_psh f182_12 (v := .long 4) (by decide) ?_
    refine sg_cS f182_15 (vs := [.long (Int32.toInt64 x3), .long 0, .long 4]) (rest := []) (en := [some (.long (Int32.toInt64 x3)), none, some (.long 0), none, some (.long 4), none]) (by decide) pq114 ⟨rfl, rfl⟩ rfl rfl rfl rfl rfl h ?_
    rintro _ mi5 ml6 ⟨y4, rfl, h⟩
    refine sg_if f182_18 (fun c => ?_) (fun c => ?_)
    · have h := h.1 c
      refine sg_ld f182_24 (v := .ref 47) rfl rfl ?_
      refine sg_cV f182_25 (vs := []) (r := 47) (rest := []) (en := [some (.ref 47)]) pq142 ⟨rfl, rfl⟩ rfl rfl rfl rfl rfl rfl h ?_
      intro _ mi8 ml9 h
      have h := gm_qv h
      refine sg_ld f182_28 (v := .int x3) rfl rfl ?_
      refine sg_psh f182_29 (v := .int 2) (by decide) ?_
      refine sg_icmp f182_30 (fun c => ?_) (fun c => ?_)
      · have h := h.1 c
        refine sg_ld f182_40 (v := .int x3) rfl rfl ?_
        refine sg_psh f182_41 (v := .int 3) (by decide) ?_
        refine sg_icmp f182_42 (fun c => ?_) (fun c => ?_)
        · have h := h.1 c
          refine sg_ld f182_52 (v := .int x3) rfl rfl ?_
          refine sg_psh f182_53 (v := .int 4) (by decide) ?_
          refine sg_icmp f182_54 (fun c => ?_) (fun c => ?_)
          · have h := h.1 c
            refine sg_psh f182_64 (v := .long 0) (by decide) ?_
            exact h
          · have h := h.2 c
            refine sg_ld f182_57 (v := .ref 47) rfl rfl ?_
            refine sg_cV f182_58 (vs := []) (r := 47) (rest := []) (en := [some (.ref 47), none, none, none]) pq178 ⟨rfl, rfl⟩ rfl rfl rfl rfl rfl rfl h ?_
            rintro _ mi11 ml12 ⟨y10, rfl, h⟩
            refine sg_goto f182_61 ?_
            exact h
        · have h := h.2 c
          refine sg_ld f182_45 (v := .ref 47) rfl rfl ?_
          refine sg_cV f182_46 (vs := []) (r := 47) (rest := []) (en := [some (.ref 47), none, none, none, none, none, none, none, none]) pq163 ⟨rfl, rfl⟩ rfl rfl rfl rfl rfl rfl h ?_
          rintro _ mi14 ml15 ⟨y13, rfl, h⟩
          refine sg_goto f182_49 ?_
          exact h
      · have h := h.2 c
        refine sg_ld f182_33 (v := .ref 47) rfl rfl ?_
        refine sg_cV f182_34 (vs := []) (r := 47) (rest := []) (en := [some (.ref 47), none, none, none, none, none]) pq164 ⟨rfl, rfl⟩ rfl rfl rfl rfl rfl rfl h ?_
        rintro _ mi17 ml18 ⟨y16, rfl, h⟩
        refine sg_goto f182_37 ?_
        exact h
    · have h := h.2 c
      refine sg_psh f182_21 (v := .int (-2)) (by decide) ?_
      exact sg_iret f182_23 pq182 rfl rfl ⟨_, rfl, h⟩

set_option maxRecDepth 10000 in
theorem rg182_65 {mi : Mi} {ml : Ml} {F : Int32 → Mi → Ml → Prop} {x1 : Int32} {x2 : Int32} {x3 : Int32} {s0 : Int64}  (h : Sg 181 0 [some (.ref 47), some (.int ((x2 * (mi 47 6)) + x1)), some (.int x3), some (.long s0), none] [] mi ml (qi fun y1 mi2 ml3 => F y1 mi2 ml3)) : Sg 182 65 [some (.ref 47), some (.int x1), some (.int x2), some (.int x3), none, none] [.long s0] mi ml (qi F) := by
  refine sg_st2 f182_65 (ls' := [some (.ref 47), some (.int x1), some (.int x2), some (.int x3), some (.long s0), none]) rfl rfl rfl ?_
  refine sg_ld f182_67 (v := .ref 47) rfl rfl ?_
  refine sg_ld f182_68 (v := .int x2) rfl rfl ?_
  refine sg_ld f182_69 (v := .ref 47) rfl rfl ?_
  refine sg_geti f182_70 rfl rfl (x := (mi 47 6)) rfl ?_
  refine sg_bin f182_73 rfl ?_
  refine sg_ld f182_74 (v := .int x1) rfl rfl ?_
  refine sg_bin f182_75 rfl ?_
  refine sg_ld f182_76 (v := .int x3) rfl rfl ?_
  refine sg_ld f182_77 (v := .long s0) rfl rfl ?_
  refine sg_cV f182_79 (vs := [.int ((x2 * (mi 47 6)) + x1), .int x3, .long s0]) (r := 47) (rest := []) (en := [some (.ref 47), some (.int ((x2 * (mi 47 6)) + x1)), some (.int x3), some (.long s0), none]) pq181 ⟨rfl, rfl⟩ rfl rfl rfl rfl rfl rfl h ?_
  rintro _ mi2 ml3 ⟨y1, rfl, h⟩
  exact sg_iret f182_82 pq182 rfl rfl ⟨_, rfl, h⟩

/-! X7_isSlot (I)Z -/
theorem fe183 (pc : Nat) : gm_fetch 183 pc = gm_find pc cd_183 := rfl
theorem f183_0 : gm_fetch 183 0 = some (1, .iload_n 0, 0, 0, 0, 0) := (fe183 0).trans rfl
theorem f183_1 : gm_fetch 183 1 = some (2, .i2l, 0, 0, 0, 0) := (fe183 1).trans rfl
theorem f183_2 : gm_fetch 183 2 = some (3, .lconst 0, 0, 0, 0, 0) := (fe183 2).trans rfl
theorem f183_3 : gm_fetch 183 3 = some (6, .ldc2_w 268, 11, 0, 0, 5) := (fe183 3).trans rfl
theorem f183_6 : gm_fetch 183 6 = some (9, .invokestatic 93, 158, 114, 0, 0) := (fe183 6).trans rfl
theorem f183_9 : gm_fetch 183 9 = some (10, .ireturn, 0, 0, 0, 0) := (fe183 9).trans rfl
set_option maxRecDepth 10000 in
theorem rg183_0 {mi : Mi} {ml : Ml} {F : Int32 → Mi → Ml → Prop} {x0 : Int32}  (h : Sg 114 0 [some (.long (Int32.toInt64 x0)), none, some (.long 0), none, some (.long 5), none] [] mi ml (qi fun y1 mi2 ml3 => (y1 = 0 ∨ y1 = 1) ∧ F y1 mi2 ml3)) : Sg 183 0 [some (.int x0)] [] mi ml (qi F) := by
  refine sg_ld f183_0 (v := .int x0) rfl rfl ?_
  refine sg_i2l f183_1 ?_
  refine sg_psh f183_2 (v := .long 0) (by decide) ?_
  refine sg_psh f183_3 (v := .long 5) (by decide) ?_
  refine sg_cS f183_6 (vs := [.long (Int32.toInt64 x0), .long 0, .long 5]) (rest := []) (en := [some (.long (Int32.toInt64 x0)), none, some (.long 0), none, some (.long 5), none]) (by decide) pq114 ⟨rfl, rfl⟩ rfl rfl rfl rfl rfl h ?_
  rintro _ mi2 ml3 ⟨y1, rfl, h⟩
  exact sg_iret f183_9 pq183 rfl (gm_nz h.1) ⟨_, rfl, h.2⟩

/-! X7_keep (I)I -/
theorem fe184 (pc : Nat) : gm_fetch 184 pc = gm_find pc cd_184 := rfl
theorem f184_0 : gm_fetch 184 0 = some (1, .iload_n 1, 0, 0, 0, 0) := (fe184 0).trans rfl
theorem f184_1 : gm_fetch 184 1 = some (4, .invokestatic 270, 226, 183, 0, 0) := (fe184 1).trans rfl
theorem f184_4 : gm_fetch 184 4 = some (7, .ifCond .ne 9, 0, 13, 0, 0) := (fe184 4).trans rfl
theorem f184_7 : gm_fetch 184 7 = some (8, .aload_n 0, 0, 0, 0, 0) := (fe184 7).trans rfl
theorem f184_8 : gm_fetch 184 8 = some (9, .iconst 2, 0, 0, 0, 0) := (fe184 8).trans rfl
theorem f184_9 : gm_fetch 184 9 = some (12, .invokevirtual 112, 159, 120, 0, 0) := (fe184 9).trans rfl
theorem f184_12 : gm_fetch 184 12 = some (13, .ireturn, 0, 0, 0, 0) := (fe184 12).trans rfl
theorem f184_13 : gm_fetch 184 13 = some (14, .aload_n 0, 0, 0, 0, 0) := (fe184 13).trans rfl
theorem f184_14 : gm_fetch 184 14 = some (17, .getfield 137, 95, 7, 11, 0) := (fe184 14).trans rfl
theorem f184_17 : gm_fetch 184 17 = some (20, .ifCond .ne 6, 0, 23, 0, 0) := (fe184 17).trans rfl
theorem f184_20 : gm_fetch 184 20 = some (22, .bipush (-3), 0, 0, 0, 0) := (fe184 20).trans rfl
theorem f184_22 : gm_fetch 184 22 = some (23, .ireturn, 0, 0, 0, 0) := (fe184 22).trans rfl
theorem f184_23 : gm_fetch 184 23 = some (24, .iconst 0, 0, 0, 0, 0) := (fe184 23).trans rfl
theorem f184_24 : gm_fetch 184 24 = some (25, .istore_n 2, 0, 0, 0, 0) := (fe184 24).trans rfl
theorem f184_25 : gm_fetch 184 25 = some (26, .iload_n 2, 0, 0, 0, 0) := (fe184 25).trans rfl
theorem f184_26 : gm_fetch 184 26 = some (28, .bipush 7, 0, 0, 0, 0) := (fe184 26).trans rfl
theorem f184_28 : gm_fetch 184 28 = some (31, .if_icmp .ge 26, 0, 54, 0, 0) := (fe184 28).trans rfl
theorem f184_31 : gm_fetch 184 31 = some (32, .aload_n 0, 0, 0, 0, 0) := (fe184 31).trans rfl
theorem f184_32 : gm_fetch 184 32 = some (35, .getfield 65, 113, 7, 29, 0) := (fe184 32).trans rfl
theorem f184_35 : gm_fetch 184 35 = some (37, .bipush 7, 0, 0, 0, 0) := (fe184 35).trans rfl
theorem f184_37 : gm_fetch 184 37 = some (38, .iload_n 1, 0, 0, 0, 0) := (fe184 37).trans rfl
theorem f184_38 : gm_fetch 184 38 = some (39, .imul, 0, 0, 0, 0) := (fe184 38).trans rfl
theorem f184_39 : gm_fetch 184 39 = some (40, .iload_n 2, 0, 0, 0, 0) := (fe184 39).trans rfl
theorem f184_40 : gm_fetch 184 40 = some (41, .iadd, 0, 0, 0, 0) := (fe184 40).trans rfl
theorem f184_41 : gm_fetch 184 41 = some (42, .aload_n 0, 0, 0, 0, 0) := (fe184 41).trans rfl
theorem f184_42 : gm_fetch 184 42 = some (45, .getfield 25, 96, 7, 12, 0) := (fe184 42).trans rfl
theorem f184_45 : gm_fetch 184 45 = some (46, .iload_n 2, 0, 0, 0, 0) := (fe184 45).trans rfl
theorem f184_46 : gm_fetch 184 46 = some (47, .iaload, 0, 0, 0, 0) := (fe184 46).trans rfl
theorem f184_47 : gm_fetch 184 47 = some (48, .iastore, 0, 0, 0, 0) := (fe184 47).trans rfl
theorem f184_48 : gm_fetch 184 48 = some (51, .iinc 2 1, 0, 0, 0, 0) := (fe184 48).trans rfl
theorem f184_51 : gm_fetch 184 51 = some (54, .goto (-26), 0, 25, 0, 0) := (fe184 51).trans rfl
theorem f184_54 : gm_fetch 184 54 = some (55, .aload_n 0, 0, 0, 0, 0) := (fe184 54).trans rfl
theorem f184_55 : gm_fetch 184 55 = some (58, .getfield 68, 114, 7, 30, 0) := (fe184 55).trans rfl
theorem f184_58 : gm_fetch 184 58 = some (59, .iload_n 1, 0, 0, 0, 0) := (fe184 58).trans rfl
theorem f184_59 : gm_fetch 184 59 = some (60, .aload_n 0, 0, 0, 0, 0) := (fe184 59).trans rfl
theorem f184_60 : gm_fetch 184 60 = some (63, .getfield 77, 89, 7, 5, 0) := (fe184 60).trans rfl
theorem f184_63 : gm_fetch 184 63 = some (64, .iastore, 0, 0, 0, 0) := (fe184 63).trans rfl
theorem f184_64 : gm_fetch 184 64 = some (65, .aload_n 0, 0, 0, 0, 0) := (fe184 64).trans rfl
theorem f184_65 : gm_fetch 184 65 = some (68, .getfield 71, 115, 7, 31, 0) := (fe184 65).trans rfl
theorem f184_68 : gm_fetch 184 68 = some (69, .iload_n 1, 0, 0, 0, 0) := (fe184 68).trans rfl
theorem f184_69 : gm_fetch 184 69 = some (70, .aload_n 0, 0, 0, 0, 0) := (fe184 69).trans rfl
theorem f184_70 : gm_fetch 184 70 = some (73, .getfield 81, 90, 7, 6, 0) := (fe184 70).trans rfl
theorem f184_73 : gm_fetch 184 73 = some (74, .iastore, 0, 0, 0, 0) := (fe184 73).trans rfl
theorem f184_74 : gm_fetch 184 74 = some (75, .aload_n 0, 0, 0, 0, 0) := (fe184 74).trans rfl
theorem f184_75 : gm_fetch 184 75 = some (78, .getfield 74, 116, 7, 32, 0) := (fe184 75).trans rfl
theorem f184_78 : gm_fetch 184 78 = some (79, .iload_n 1, 0, 0, 0, 0) := (fe184 78).trans rfl
theorem f184_79 : gm_fetch 184 79 = some (80, .aload_n 0, 0, 0, 0, 0) := (fe184 79).trans rfl
theorem f184_80 : gm_fetch 184 80 = some (83, .getfield 84, 91, 7, 7, 0) := (fe184 80).trans rfl
theorem f184_83 : gm_fetch 184 83 = some (84, .iastore, 0, 0, 0, 0) := (fe184 83).trans rfl
theorem f184_84 : gm_fetch 184 84 = some (85, .aload_n 0, 0, 0, 0, 0) := (fe184 84).trans rfl
theorem f184_85 : gm_fetch 184 85 = some (86, .dup, 0, 0, 0, 0) := (fe184 85).trans rfl
theorem f184_86 : gm_fetch 184 86 = some (89, .getfield 273, 112, 7, 28, 0) := (fe184 86).trans rfl
theorem f184_89 : gm_fetch 184 89 = some (90, .iconst 1, 0, 0, 0, 0) := (fe184 89).trans rfl
theorem f184_90 : gm_fetch 184 90 = some (91, .iload_n 1, 0, 0, 0, 0) := (fe184 90).trans rfl
theorem f184_91 : gm_fetch 184 91 = some (92, .ishl, 0, 0, 0, 0) := (fe184 91).trans rfl
theorem f184_92 : gm_fetch 184 92 = some (93, .ior, 0, 0, 0, 0) := (fe184 92).trans rfl
theorem f184_93 : gm_fetch 184 93 = some (96, .putfield 273, 112, 7, 28, 0) := (fe184 93).trans rfl
theorem f184_96 : gm_fetch 184 96 = some (97, .aload_n 0, 0, 0, 0, 0) := (fe184 96).trans rfl
theorem f184_97 : gm_fetch 184 97 = some (100, .getfield 273, 112, 7, 28, 0) := (fe184 97).trans rfl
theorem f184_100 : gm_fetch 184 100 = some (101, .i2l, 0, 0, 0, 0) := (fe184 100).trans rfl
theorem f184_101 : gm_fetch 184 101 = some (104, .invokestatic 128, 175, 119, 0, 0) := (fe184 101).trans rfl
theorem f184_104 : gm_fetch 184 104 = some (105, .ireturn, 0, 0, 0, 0) := (fe184 104).trans rfl
set_option maxRecDepth 10000 in
theorem rg184_0 {mi : Mi} {ml : Ml} {F : Int32 → Mi → Ml → Prop} {x1 : Int32}  (h : Sg 183 0 [some (.int x1)] [] mi ml (qi fun y1 mi2 ml3 => ((¬ y1 = 0) → ((¬ (mi2 47 11) = 0) → Sg 184 25 [some (.ref 47), some (.int x1), some (.int 0)] [] mi2 ml3 (qi F)) ∧ (¬ (¬ (mi2 47 11) = 0) → F (-3) mi2 ml3)) ∧ (¬ (¬ y1 = 0) → Sg 120 0 [some (.ref 47), some (.int 2)] [] mi2 ml3 (qi fun y4 mi5 ml6 => F y4 mi5 ml6)))) : Sg 184 0 [some (.ref 47), some (.int x1), none] [] mi ml (qi F) := by
  refine sg_ld f184_0 (v := .int x1) rfl rfl ?_
  refine sg_cS f184_1 (vs := [.int x1]) (rest := []) (en := [some (.int x1)]) (by decide) pq183 ⟨rfl, rfl⟩ rfl rfl rfl rfl rfl h ?_
  rintro _ mi2 ml3 ⟨y1, rfl, h⟩
  refine sg_if f184_4 (fun c => ?_) (fun c => ?_)
  · have h := h.1 c
    refine sg_ld f184_13 (v := .ref 47) rfl rfl ?_
    refine sg_geti f184_14 rfl rfl (x := (mi2 47 11)) rfl ?_
    refine sg_if f184_17 (fun c => ?_) (fun c => ?_)
    · have h := h.1 c
      refine sg_psh f184_23 (v := .int 0) (by decide) ?_
      refine sg_st1 f184_24 (ls' := [some (.ref 47), some (.int x1), some (.int 0)]) rfl rfl rfl rfl ?_
      exact h
    · have h := h.2 c
      refine sg_psh f184_20 (v := .int (-3)) (by decide) ?_
      exact sg_iret f184_22 pq184 rfl rfl ⟨_, rfl, h⟩
  · have h := h.2 c
    refine sg_ld f184_7 (v := .ref 47) rfl rfl ?_
    refine sg_psh f184_8 (v := .int 2) (by decide) ?_
    refine sg_cV f184_9 (vs := [.int 2]) (r := 47) (rest := []) (en := [some (.ref 47), some (.int 2)]) pq120 ⟨rfl, rfl⟩ rfl rfl rfl rfl rfl rfl h ?_
    rintro _ mi5 ml6 ⟨y4, rfl, h⟩
    exact sg_iret f184_12 pq184 rfl rfl ⟨_, rfl, h⟩

set_option maxRecDepth 10000 in
theorem rg184_25 {mi : Mi} {ml : Ml} {F : Int32 → Mi → Ml → Prop} {x1 : Int32} {x2 : Int32}  (h : ((7 ≤ x2) → (vp_in x1 6) ∧ (Sg 119 0 [some (.long (Int32.toInt64 ((mi 47 28) ||| (1 <<< (x1 &&& 31))))), none, none, none] [] (va_up (va_up (va_up (va_up mi 67 (va_up (mi 67) (Int32.toNatClampNeg x1) (mi 47 5))) 68 (va_up (mi 68) (Int32.toNatClampNeg x1) (mi 47 6))) 69 (va_up (mi 69) (Int32.toNatClampNeg x1) (mi 47 7))) 47 (va_up (mi 47) 28 ((mi 47 28) ||| (1 <<< (x1 &&& 31))))) ml (qi fun y2 mi3 ml4 => F y2 mi3 ml4))) ∧ (¬ (7 ≤ x2) → (vp_in x2 7) ∧ ((vp_in ((7 * x1) + x2) 42) ∧ (Sg 184 25 [some (.ref 47), some (.int x1), some (.int (x2 + 1))] [] (va_up mi 66 (va_up (mi 66) (Int32.toNatClampNeg ((7 * x1) + x2)) (mi 53 (Int32.toNatClampNeg x2)))) ml (qi F))))) : Sg 184 25 [some (.ref 47), some (.int x1), some (.int x2)] [] mi ml (qi F) := by
  refine sg_ld f184_25 (v := .int x2) rfl rfl ?_
  refine sg_psh f184_26 (v := .int 7) (by decide) ?_
  refine sg_icmp f184_28 (fun c => ?_) (fun c => ?_)
  · have h := h.1 c
    refine sg_ld f184_54 (v := .ref 47) rfl rfl ?_
    refine sg_getr f184_55 rfl rfl (w := 67) rfl ?_
    refine sg_ld f184_58 (v := .int x1) rfl rfl ?_
    refine sg_ld f184_59 (v := .ref 47) rfl rfl ?_
    refine sg_geti f184_60 rfl rfl (x := (mi 47 5)) rfl ?_
    obtain ⟨e1, h⟩ := h
    refine sg_iast f184_63 rfl e1 ?_
    refine sg_ld f184_64 (v := .ref 47) rfl rfl ?_
    refine sg_getr f184_65 rfl rfl (w := 68) rfl ?_
    refine sg_ld f184_68 (v := .int x1) rfl rfl ?_
    refine sg_ld f184_69 (v := .ref 47) rfl rfl ?_
    refine sg_geti f184_70 rfl rfl (x := (mi 47 6)) rfl ?_
    refine sg_iast f184_73 rfl e1 ?_
    refine sg_ld f184_74 (v := .ref 47) rfl rfl ?_
    refine sg_getr f184_75 rfl rfl (w := 69) rfl ?_
    refine sg_ld f184_78 (v := .int x1) rfl rfl ?_
    refine sg_ld f184_79 (v := .ref 47) rfl rfl ?_
    refine sg_geti f184_80 rfl rfl (x := (mi 47 7)) rfl ?_
    refine sg_iast f184_83 rfl e1 ?_
    refine sg_ld f184_84 (v := .ref 47) rfl rfl ?_
    refine sg_dup f184_85 rfl ?_
    refine sg_geti f184_86 rfl rfl (x := (mi 47 28)) rfl ?_
    refine sg_psh f184_89 (v := .int 1) (by decide) ?_
    refine sg_ld f184_90 (v := .int x1) rfl rfl ?_
    refine sg_bin f184_91 rfl ?_
    refine sg_bin f184_92 rfl ?_
    refine sg_puti f184_93 rfl rfl rfl (fun hz => by cases hz) ?_
    refine sg_ld f184_96 (v := .ref 47) rfl rfl ?_
    refine sg_geti f184_97 rfl rfl (x := ((mi 47 28) ||| (1 <<< (x1 &&& 31)))) rfl ?_
    refine sg_i2l f184_100 ?_
    refine sg_cS f184_101 (vs := [.long (Int32.toInt64 ((mi 47 28) ||| (1 <<< (x1 &&& 31))))]) (rest := []) (en := [some (.long (Int32.toInt64 ((mi 47 28) ||| (1 <<< (x1 &&& 31))))), none, none, none]) (by decide) pq119 ⟨rfl, rfl⟩ rfl rfl rfl rfl rfl h ?_
    rintro _ mi3 ml4 ⟨y2, rfl, h⟩
    exact sg_iret f184_104 pq184 rfl rfl ⟨_, rfl, h⟩
  · have h := h.2 c
    refine sg_ld f184_31 (v := .ref 47) rfl rfl ?_
    refine sg_getr f184_32 rfl rfl (w := 66) rfl ?_
    refine sg_psh f184_35 (v := .int 7) (by decide) ?_
    refine sg_ld f184_37 (v := .int x1) rfl rfl ?_
    refine sg_bin f184_38 rfl ?_
    refine sg_ld f184_39 (v := .int x2) rfl rfl ?_
    refine sg_bin f184_40 rfl ?_
    refine sg_ld f184_41 (v := .ref 47) rfl rfl ?_
    refine sg_getr f184_42 rfl rfl (w := 53) rfl ?_
    refine sg_ld f184_45 (v := .int x2) rfl rfl ?_
    obtain ⟨e5, h⟩ := h
    refine sg_iald f184_46 rfl e5 (x := (mi 53 (Int32.toNatClampNeg x2))) rfl ?_
    obtain ⟨e6, h⟩ := h
    refine sg_iast f184_47 rfl e6 ?_
    refine sg_inc f184_48 (d := 1) (ls' := [some (.ref 47), some (.int x1), some (.int (x2 + 1))]) rfl (by decide) rfl ?_
    refine sg_goto f184_51 ?_
    exact h

/-! X7_lacksSlot (I)I -/
theorem fe185 (pc : Nat) : gm_fetch 185 pc = gm_find pc cd_185 := rfl
theorem f185_0 : gm_fetch 185 0 = some (1, .iload_n 1, 0, 0, 0, 0) := (fe185 0).trans rfl
theorem f185_1 : gm_fetch 185 1 = some (4, .invokestatic 270, 226, 183, 0, 0) := (fe185 1).trans rfl
theorem f185_4 : gm_fetch 185 4 = some (7, .ifCond .ne 9, 0, 13, 0, 0) := (fe185 4).trans rfl
theorem f185_7 : gm_fetch 185 7 = some (8, .aload_n 0, 0, 0, 0, 0) := (fe185 7).trans rfl
theorem f185_8 : gm_fetch 185 8 = some (9, .iconst 2, 0, 0, 0, 0) := (fe185 8).trans rfl
theorem f185_9 : gm_fetch 185 9 = some (12, .invokevirtual 112, 159, 120, 0, 0) := (fe185 9).trans rfl
theorem f185_12 : gm_fetch 185 12 = some (13, .ireturn, 0, 0, 0, 0) := (fe185 12).trans rfl
theorem f185_13 : gm_fetch 185 13 = some (14, .aload_n 0, 0, 0, 0, 0) := (fe185 13).trans rfl
theorem f185_14 : gm_fetch 185 14 = some (17, .getfield 273, 112, 7, 28, 0) := (fe185 14).trans rfl
theorem f185_17 : gm_fetch 185 17 = some (18, .i2l, 0, 0, 0, 0) := (fe185 17).trans rfl
theorem f185_18 : gm_fetch 185 18 = some (19, .iload_n 1, 0, 0, 0, 0) := (fe185 18).trans rfl
theorem f185_19 : gm_fetch 185 19 = some (22, .invokestatic 97, 176, 116, 0, 0) := (fe185 19).trans rfl
theorem f185_22 : gm_fetch 185 22 = some (25, .ifCond .ne 9, 0, 31, 0, 0) := (fe185 22).trans rfl
theorem f185_25 : gm_fetch 185 25 = some (26, .aload_n 0, 0, 0, 0, 0) := (fe185 25).trans rfl
theorem f185_26 : gm_fetch 185 26 = some (27, .iconst 1, 0, 0, 0, 0) := (fe185 26).trans rfl
theorem f185_27 : gm_fetch 185 27 = some (30, .invokevirtual 112, 159, 120, 0, 0) := (fe185 27).trans rfl
theorem f185_30 : gm_fetch 185 30 = some (31, .ireturn, 0, 0, 0, 0) := (fe185 30).trans rfl
theorem f185_31 : gm_fetch 185 31 = some (32, .aload_n 0, 0, 0, 0, 0) := (fe185 31).trans rfl
theorem f185_32 : gm_fetch 185 32 = some (35, .getfield 68, 114, 7, 30, 0) := (fe185 32).trans rfl
theorem f185_35 : gm_fetch 185 35 = some (36, .iload_n 1, 0, 0, 0, 0) := (fe185 35).trans rfl
theorem f185_36 : gm_fetch 185 36 = some (37, .iaload, 0, 0, 0, 0) := (fe185 36).trans rfl
theorem f185_37 : gm_fetch 185 37 = some (38, .aload_n 0, 0, 0, 0, 0) := (fe185 37).trans rfl
theorem f185_38 : gm_fetch 185 38 = some (41, .getfield 77, 89, 7, 5, 0) := (fe185 38).trans rfl
theorem f185_41 : gm_fetch 185 41 = some (44, .if_icmp .ne 33, 0, 74, 0, 0) := (fe185 41).trans rfl
theorem f185_44 : gm_fetch 185 44 = some (45, .aload_n 0, 0, 0, 0, 0) := (fe185 44).trans rfl
theorem f185_45 : gm_fetch 185 45 = some (48, .getfield 71, 115, 7, 31, 0) := (fe185 45).trans rfl
theorem f185_48 : gm_fetch 185 48 = some (49, .iload_n 1, 0, 0, 0, 0) := (fe185 48).trans rfl
theorem f185_49 : gm_fetch 185 49 = some (50, .iaload, 0, 0, 0, 0) := (fe185 49).trans rfl
theorem f185_50 : gm_fetch 185 50 = some (51, .aload_n 0, 0, 0, 0, 0) := (fe185 50).trans rfl
theorem f185_51 : gm_fetch 185 51 = some (54, .getfield 81, 90, 7, 6, 0) := (fe185 51).trans rfl
theorem f185_54 : gm_fetch 185 54 = some (57, .if_icmp .ne 20, 0, 74, 0, 0) := (fe185 54).trans rfl
theorem f185_57 : gm_fetch 185 57 = some (58, .aload_n 0, 0, 0, 0, 0) := (fe185 57).trans rfl
theorem f185_58 : gm_fetch 185 58 = some (61, .getfield 74, 116, 7, 32, 0) := (fe185 58).trans rfl
theorem f185_61 : gm_fetch 185 61 = some (62, .iload_n 1, 0, 0, 0, 0) := (fe185 61).trans rfl
theorem f185_62 : gm_fetch 185 62 = some (63, .iaload, 0, 0, 0, 0) := (fe185 62).trans rfl
theorem f185_63 : gm_fetch 185 63 = some (64, .aload_n 0, 0, 0, 0, 0) := (fe185 63).trans rfl
theorem f185_64 : gm_fetch 185 64 = some (67, .getfield 84, 91, 7, 7, 0) := (fe185 64).trans rfl
theorem f185_67 : gm_fetch 185 67 = some (70, .if_icmp .ne 7, 0, 74, 0, 0) := (fe185 67).trans rfl
theorem f185_70 : gm_fetch 185 70 = some (71, .iconst 0, 0, 0, 0, 0) := (fe185 70).trans rfl
theorem f185_71 : gm_fetch 185 71 = some (74, .goto 5, 0, 76, 0, 0) := (fe185 71).trans rfl
theorem f185_74 : gm_fetch 185 74 = some (76, .bipush (-3), 0, 0, 0, 0) := (fe185 74).trans rfl
theorem f185_76 : gm_fetch 185 76 = some (77, .ireturn, 0, 0, 0, 0) := (fe185 76).trans rfl
set_option maxRecDepth 10000 in
theorem rg185_0 {mi : Mi} {ml : Ml} {F : Int32 → Mi → Ml → Prop} {x1 : Int32}  (h : Sg 183 0 [some (.int x1)] [] mi ml (qi fun y1 mi2 ml3 => ((¬ y1 = 0) → Sg 116 0 [some (.long (Int32.toInt64 (mi2 47 28))), none, some (.int x1)] [] mi2 ml3 (qi fun y4 mi5 ml6 => ((¬ y4 = 0) → (vp_in x1 6) ∧ (((¬ (mi5 67 (Int32.toNatClampNeg x1)) = (mi5 47 5)) → F (-3) mi5 ml6) ∧ (¬ (¬ (mi5 67 (Int32.toNatClampNeg x1)) = (mi5 47 5)) → ((¬ (mi5 68 (Int32.toNatClampNeg x1)) = (mi5 47 6)) → F (-3) mi5 ml6) ∧ (¬ (¬ (mi5 68 (Int32.toNatClampNeg x1)) = (mi5 47 6)) → ((¬ (mi5 69 (Int32.toNatClampNeg x1)) = (mi5 47 7)) → F (-3) mi5 ml6) ∧ (¬ (¬ (mi5 69 (Int32.toNatClampNeg x1)) = (mi5 47 7)) → F 0 mi5 ml6))))) ∧ (¬ (¬ y4 = 0) → Sg 120 0 [some (.ref 47), some (.int 1)] [] mi5 ml6 (qi fun y8 mi9 ml10 => F y8 mi9 ml10)))) ∧ (¬ (¬ y1 = 0) → Sg 120 0 [some (.ref 47), some (.int 2)] [] mi2 ml3 (qi fun y11 mi12 ml13 => F y11 mi12 ml13)))) : Sg 185 0 [some (.ref 47), some (.int x1)] [] mi ml (qi F) := by
  refine sg_ld f185_0 (v := .int x1) rfl rfl ?_
  refine sg_cS f185_1 (vs := [.int x1]) (rest := []) (en := [some (.int x1)]) (by decide) pq183 ⟨rfl, rfl⟩ rfl rfl rfl rfl rfl h ?_
  rintro _ mi2 ml3 ⟨y1, rfl, h⟩
  refine sg_if f185_4 (fun c => ?_) (fun c => ?_)
  · have h := h.1 c
    refine sg_ld f185_13 (v := .ref 47) rfl rfl ?_
    refine sg_geti f185_14 rfl rfl (x := (mi2 47 28)) rfl ?_
    refine sg_i2l f185_17 ?_
    refine sg_ld f185_18 (v := .int x1) rfl rfl ?_
    refine sg_cS f185_19 (vs := [.long (Int32.toInt64 (mi2 47 28)), .int x1]) (rest := []) (en := [some (.long (Int32.toInt64 (mi2 47 28))), none, some (.int x1)]) (by decide) pq116 ⟨rfl, rfl⟩ rfl rfl rfl rfl rfl h ?_
    rintro _ mi5 ml6 ⟨y4, rfl, h⟩
    refine sg_if f185_22 (fun c => ?_) (fun c => ?_)
    · have h := h.1 c
      refine sg_ld f185_31 (v := .ref 47) rfl rfl ?_
      refine sg_getr f185_32 rfl rfl (w := 67) rfl ?_
      refine sg_ld f185_35 (v := .int x1) rfl rfl ?_
      obtain ⟨e7, h⟩ := h
      refine sg_iald f185_36 rfl e7 (x := (mi5 67 (Int32.toNatClampNeg x1))) rfl ?_
      refine sg_ld f185_37 (v := .ref 47) rfl rfl ?_
      refine sg_geti f185_38 rfl rfl (x := (mi5 47 5)) rfl ?_
      refine sg_icmp f185_41 (fun c => ?_) (fun c => ?_)
      · have h := h.1 c
        refine sg_psh f185_74 (v := .int (-3)) (by decide) ?_
        exact sg_iret f185_76 pq185 rfl rfl ⟨_, rfl, h⟩
      · have h := h.2 c
        refine sg_ld f185_44 (v := .ref 47) rfl rfl ?_
        refine sg_getr f185_45 rfl rfl (w := 68) rfl ?_
        refine sg_ld f185_48 (v := .int x1) rfl rfl ?_
        refine sg_iald f185_49 rfl e7 (x := (mi5 68 (Int32.toNatClampNeg x1))) rfl ?_
        refine sg_ld f185_50 (v := .ref 47) rfl rfl ?_
        refine sg_geti f185_51 rfl rfl (x := (mi5 47 6)) rfl ?_
        refine sg_icmp f185_54 (fun c => ?_) (fun c => ?_)
        · have h := h.1 c
          refine sg_psh f185_74 (v := .int (-3)) (by decide) ?_
          exact sg_iret f185_76 pq185 rfl rfl ⟨_, rfl, h⟩
        · have h := h.2 c
          refine sg_ld f185_57 (v := .ref 47) rfl rfl ?_
          refine sg_getr f185_58 rfl rfl (w := 69) rfl ?_
          refine sg_ld f185_61 (v := .int x1) rfl rfl ?_
          refine sg_iald f185_62 rfl e7 (x := (mi5 69 (Int32.toNatClampNeg x1))) rfl ?_
          refine sg_ld f185_63 (v := .ref 47) rfl rfl ?_
          refine sg_geti f185_64 rfl rfl (x := (mi5 47 7)) rfl ?_
          refine sg_icmp f185_67 (fun c => ?_) (fun c => ?_)
          · have h := h.1 c
            refine sg_psh f185_74 (v := .int (-3)) (by decide) ?_
            exact sg_iret f185_76 pq185 rfl rfl ⟨_, rfl, h⟩
          · have h := h.2 c
            refine sg_psh f185_70 (v := .int 0) (by decide) ?_
            refine sg_goto f185_71 ?_
            exact sg_iret f185_76 pq185 rfl rfl ⟨_, rfl, h⟩
    · have h := h.2 c
      refine sg_ld f185_25 (v := .ref 47) rfl rfl ?_
      refine sg_psh f185_26 (v := .int 1) (by decide) ?_
      refine sg_cV f185_27 (vs := [.int 1]) (r := 47) (rest := []) (en := [some (.ref 47), some (.int 1)]) pq120 ⟨rfl, rfl⟩ rfl rfl rfl rfl rfl rfl h ?_
      rintro _ mi9 ml10 ⟨y8, rfl, h⟩
      exact sg_iret f185_30 pq185 rfl rfl ⟨_, rfl, h⟩
  · have h := h.2 c
    refine sg_ld f185_7 (v := .ref 47) rfl rfl ?_
    refine sg_psh f185_8 (v := .int 2) (by decide) ?_
    refine sg_cV f185_9 (vs := [.int 2]) (r := 47) (rest := []) (en := [some (.ref 47), some (.int 2)]) pq120 ⟨rfl, rfl⟩ rfl rfl rfl rfl rfl rfl h ?_
    rintro _ mi12 ml13 ⟨y11, rfl, h⟩
    exact sg_iret f185_12 pq185 rfl rfl ⟨_, rfl, h⟩

/-! X7_go (I)I -/
theorem fe186 (pc : Nat) : gm_fetch 186 pc = gm_find pc cd_186 := rfl
theorem f186_0 : gm_fetch 186 0 = some (1, .aload_n 0, 0, 0, 0, 0) := (fe186 0).trans rfl
theorem f186_1 : gm_fetch 186 1 = some (2, .iload_n 1, 0, 0, 0, 0) := (fe186 1).trans rfl
theorem f186_2 : gm_fetch 186 2 = some (5, .invokevirtual 276, 228, 185, 0, 0) := (fe186 2).trans rfl
theorem f186_5 : gm_fetch 186 5 = some (6, .istore_n 2, 0, 0, 0, 0) := (fe186 5).trans rfl
theorem f186_6 : gm_fetch 186 6 = some (7, .iload_n 2, 0, 0, 0, 0) := (fe186 6).trans rfl
theorem f186_7 : gm_fetch 186 7 = some (10, .ifCond .eq 5, 0, 12, 0, 0) := (fe186 7).trans rfl
theorem f186_10 : gm_fetch 186 10 = some (11, .iload_n 2, 0, 0, 0, 0) := (fe186 10).trans rfl
theorem f186_11 : gm_fetch 186 11 = some (12, .ireturn, 0, 0, 0, 0) := (fe186 11).trans rfl
theorem f186_12 : gm_fetch 186 12 = some (13, .iconst 0, 0, 0, 0, 0) := (fe186 12).trans rfl
theorem f186_13 : gm_fetch 186 13 = some (14, .istore_n 3, 0, 0, 0, 0) := (fe186 13).trans rfl
theorem f186_14 : gm_fetch 186 14 = some (15, .iload_n 3, 0, 0, 0, 0) := (fe186 14).trans rfl
theorem f186_15 : gm_fetch 186 15 = some (17, .bipush 7, 0, 0, 0, 0) := (fe186 15).trans rfl
theorem f186_17 : gm_fetch 186 17 = some (20, .if_icmp .ge 26, 0, 43, 0, 0) := (fe186 17).trans rfl
theorem f186_20 : gm_fetch 186 20 = some (21, .aload_n 0, 0, 0, 0, 0) := (fe186 20).trans rfl
theorem f186_21 : gm_fetch 186 21 = some (24, .getfield 25, 96, 7, 12, 0) := (fe186 21).trans rfl
theorem f186_24 : gm_fetch 186 24 = some (25, .iload_n 3, 0, 0, 0, 0) := (fe186 24).trans rfl
theorem f186_25 : gm_fetch 186 25 = some (26, .aload_n 0, 0, 0, 0, 0) := (fe186 25).trans rfl
theorem f186_26 : gm_fetch 186 26 = some (29, .getfield 65, 113, 7, 29, 0) := (fe186 26).trans rfl
theorem f186_29 : gm_fetch 186 29 = some (31, .bipush 7, 0, 0, 0, 0) := (fe186 29).trans rfl
theorem f186_31 : gm_fetch 186 31 = some (32, .iload_n 1, 0, 0, 0, 0) := (fe186 31).trans rfl
theorem f186_32 : gm_fetch 186 32 = some (33, .imul, 0, 0, 0, 0) := (fe186 32).trans rfl
theorem f186_33 : gm_fetch 186 33 = some (34, .iload_n 3, 0, 0, 0, 0) := (fe186 33).trans rfl
theorem f186_34 : gm_fetch 186 34 = some (35, .iadd, 0, 0, 0, 0) := (fe186 34).trans rfl
theorem f186_35 : gm_fetch 186 35 = some (36, .iaload, 0, 0, 0, 0) := (fe186 35).trans rfl
theorem f186_36 : gm_fetch 186 36 = some (37, .iastore, 0, 0, 0, 0) := (fe186 36).trans rfl
theorem f186_37 : gm_fetch 186 37 = some (40, .iinc 3 1, 0, 0, 0, 0) := (fe186 37).trans rfl
theorem f186_40 : gm_fetch 186 40 = some (43, .goto (-26), 0, 14, 0, 0) := (fe186 40).trans rfl
theorem f186_43 : gm_fetch 186 43 = some (44, .aload_n 0, 0, 0, 0, 0) := (fe186 43).trans rfl
theorem f186_44 : gm_fetch 186 44 = some (45, .iconst 1, 0, 0, 0, 0) := (fe186 44).trans rfl
theorem f186_45 : gm_fetch 186 45 = some (48, .putfield 137, 95, 7, 11, 0) := (fe186 45).trans rfl
theorem f186_48 : gm_fetch 186 48 = some (49, .aload_n 0, 0, 0, 0, 0) := (fe186 48).trans rfl
theorem f186_49 : gm_fetch 186 49 = some (52, .invokevirtual 210, 201, 159, 0, 0) := (fe186 49).trans rfl
theorem f186_52 : gm_fetch 186 52 = some (53, .ireturn, 0, 0, 0, 0) := (fe186 52).trans rfl
set_option maxRecDepth 10000 in
theorem rg186_0 {mi : Mi} {ml : Ml} {F : Int32 → Mi → Ml → Prop} {x1 : Int32}  (h : Sg 185 0 [some (.ref 47), some (.int x1)] [] mi ml (qi fun y1 mi2 ml3 => ((y1 = 0) → Sg 186 14 [some (.ref 47), some (.int x1), some (.int y1), some (.int 0)] [] mi2 ml3 (qi F)) ∧ (¬ (y1 = 0) → F y1 mi2 ml3))) : Sg 186 0 [some (.ref 47), some (.int x1), none, none] [] mi ml (qi F) := by
  refine sg_ld f186_0 (v := .ref 47) rfl rfl ?_
  refine sg_ld f186_1 (v := .int x1) rfl rfl ?_
  refine sg_cV f186_2 (vs := [.int x1]) (r := 47) (rest := []) (en := [some (.ref 47), some (.int x1)]) pq185 ⟨rfl, rfl⟩ rfl rfl rfl rfl rfl rfl h ?_
  rintro _ mi2 ml3 ⟨y1, rfl, h⟩
  refine sg_st1 f186_5 (ls' := [some (.ref 47), some (.int x1), some (.int y1), none]) rfl rfl rfl rfl ?_
  refine sg_ld f186_6 (v := .int y1) rfl rfl ?_
  refine sg_if f186_7 (fun c => ?_) (fun c => ?_)
  · have h := h.1 c
    refine sg_psh f186_12 (v := .int 0) (by decide) ?_
    refine sg_st1 f186_13 (ls' := [some (.ref 47), some (.int x1), some (.int y1), some (.int 0)]) rfl rfl rfl rfl ?_
    exact h
  · have h := h.2 c
    refine sg_ld f186_10 (v := .int y1) rfl rfl ?_
    exact sg_iret f186_11 pq186 rfl rfl ⟨_, rfl, h⟩

set_option maxRecDepth 10000 in
theorem rg186_14 {mi : Mi} {ml : Ml} {F : Int32 → Mi → Ml → Prop} {x1 : Int32} {x2 : Int32} {x3 : Int32}  (h : ((7 ≤ x3) → Sg 159 0 [some (.ref 47), none, none, none, none] [] (va_up mi 47 (va_up (mi 47) 11 1)) ml (qi fun y1 mi2 ml3 => F y1 mi2 ml3)) ∧ (¬ (7 ≤ x3) → (vp_in ((7 * x1) + x3) 42) ∧ ((vp_in x3 7) ∧ (Sg 186 14 [some (.ref 47), some (.int x1), some (.int x2), some (.int (x3 + 1))] [] (va_up mi 53 (va_up (mi 53) (Int32.toNatClampNeg x3) (mi 66 (Int32.toNatClampNeg ((7 * x1) + x3))))) ml (qi F))))) : Sg 186 14 [some (.ref 47), some (.int x1), some (.int x2), some (.int x3)] [] mi ml (qi F) := by
  refine sg_ld f186_14 (v := .int x3) rfl rfl ?_
  refine sg_psh f186_15 (v := .int 7) (by decide) ?_
  refine sg_icmp f186_17 (fun c => ?_) (fun c => ?_)
  · have h := h.1 c
    refine sg_ld f186_43 (v := .ref 47) rfl rfl ?_
    refine sg_psh f186_44 (v := .int 1) (by decide) ?_
    refine sg_puti f186_45 rfl rfl rfl (fun _ => by decide) ?_
    refine sg_ld f186_48 (v := .ref 47) rfl rfl ?_
    refine sg_cV f186_49 (vs := []) (r := 47) (rest := []) (en := [some (.ref 47), none, none, none, none]) pq159 ⟨rfl, rfl⟩ rfl rfl rfl rfl rfl rfl h ?_
    rintro _ mi2 ml3 ⟨y1, rfl, h⟩
    exact sg_iret f186_52 pq186 rfl rfl ⟨_, rfl, h⟩
  · have h := h.2 c
    refine sg_ld f186_20 (v := .ref 47) rfl rfl ?_
    refine sg_getr f186_21 rfl rfl (w := 53) rfl ?_
    refine sg_ld f186_24 (v := .int x3) rfl rfl ?_
    refine sg_ld f186_25 (v := .ref 47) rfl rfl ?_
    refine sg_getr f186_26 rfl rfl (w := 66) rfl ?_
    refine sg_psh f186_29 (v := .int 7) (by decide) ?_
    refine sg_ld f186_31 (v := .int x1) rfl rfl ?_
    refine sg_bin f186_32 rfl ?_
    refine sg_ld f186_33 (v := .int x3) rfl rfl ?_
    refine sg_bin f186_34 rfl ?_
    obtain ⟨e4, h⟩ := h
    refine sg_iald f186_35 rfl e4 (x := (mi 66 (Int32.toNatClampNeg ((7 * x1) + x3)))) rfl ?_
    obtain ⟨e5, h⟩ := h
    refine sg_iast f186_36 rfl e5 ?_
    refine sg_inc f186_37 (d := 1) (ls' := [some (.ref 47), some (.int x1), some (.int x2), some (.int (x3 + 1))]) rfl (by decide) rfl ?_
    refine sg_goto f186_40 ?_
    exact h

/-! X7_differ (I)I -/
theorem fe187 (pc : Nat) : gm_fetch 187 pc = gm_find pc cd_187 := rfl
theorem f187_0 : gm_fetch 187 0 = some (1, .aload_n 0, 0, 0, 0, 0) := (fe187 0).trans rfl
theorem f187_1 : gm_fetch 187 1 = some (2, .iload_n 1, 0, 0, 0, 0) := (fe187 1).trans rfl
theorem f187_2 : gm_fetch 187 2 = some (5, .invokevirtual 276, 228, 185, 0, 0) := (fe187 2).trans rfl
theorem f187_5 : gm_fetch 187 5 = some (6, .istore_n 2, 0, 0, 0, 0) := (fe187 5).trans rfl
theorem f187_6 : gm_fetch 187 6 = some (7, .iload_n 2, 0, 0, 0, 0) := (fe187 6).trans rfl
theorem f187_7 : gm_fetch 187 7 = some (10, .ifCond .eq 5, 0, 12, 0, 0) := (fe187 7).trans rfl
theorem f187_10 : gm_fetch 187 10 = some (11, .iload_n 2, 0, 0, 0, 0) := (fe187 10).trans rfl
theorem f187_11 : gm_fetch 187 11 = some (12, .ireturn, 0, 0, 0, 0) := (fe187 11).trans rfl
theorem f187_12 : gm_fetch 187 12 = some (13, .iconst 0, 0, 0, 0, 0) := (fe187 12).trans rfl
theorem f187_13 : gm_fetch 187 13 = some (14, .istore_n 3, 0, 0, 0, 0) := (fe187 13).trans rfl
theorem f187_14 : gm_fetch 187 14 = some (15, .iconst 0, 0, 0, 0, 0) := (fe187 14).trans rfl
theorem f187_15 : gm_fetch 187 15 = some (17, .istore 4, 0, 0, 0, 0) := (fe187 15).trans rfl
theorem f187_17 : gm_fetch 187 17 = some (19, .iload 4, 0, 0, 0, 0) := (fe187 17).trans rfl
theorem f187_19 : gm_fetch 187 19 = some (20, .aload_n 0, 0, 0, 0, 0) := (fe187 19).trans rfl
theorem f187_20 : gm_fetch 187 20 = some (23, .getfield 77, 89, 7, 5, 0) := (fe187 20).trans rfl
theorem f187_23 : gm_fetch 187 23 = some (26, .if_icmp .ge 30, 0, 53, 0, 0) := (fe187 23).trans rfl
theorem f187_26 : gm_fetch 187 26 = some (27, .iload_n 3, 0, 0, 0, 0) := (fe187 26).trans rfl
theorem f187_27 : gm_fetch 187 27 = some (28, .aload_n 0, 0, 0, 0, 0) := (fe187 27).trans rfl
theorem f187_28 : gm_fetch 187 28 = some (30, .iload 4, 0, 0, 0, 0) := (fe187 28).trans rfl
theorem f187_30 : gm_fetch 187 30 = some (31, .aload_n 0, 0, 0, 0, 0) := (fe187 30).trans rfl
theorem f187_31 : gm_fetch 187 31 = some (34, .getfield 65, 113, 7, 29, 0) := (fe187 31).trans rfl
theorem f187_34 : gm_fetch 187 34 = some (36, .bipush 7, 0, 0, 0, 0) := (fe187 34).trans rfl
theorem f187_36 : gm_fetch 187 36 = some (37, .iload_n 1, 0, 0, 0, 0) := (fe187 36).trans rfl
theorem f187_37 : gm_fetch 187 37 = some (38, .imul, 0, 0, 0, 0) := (fe187 37).trans rfl
theorem f187_38 : gm_fetch 187 38 = some (40, .iload 4, 0, 0, 0, 0) := (fe187 38).trans rfl
theorem f187_40 : gm_fetch 187 40 = some (41, .iadd, 0, 0, 0, 0) := (fe187 40).trans rfl
theorem f187_41 : gm_fetch 187 41 = some (42, .iaload, 0, 0, 0, 0) := (fe187 41).trans rfl
theorem f187_42 : gm_fetch 187 42 = some (45, .invokevirtual 188, 190, 148, 0, 0) := (fe187 42).trans rfl
theorem f187_45 : gm_fetch 187 45 = some (46, .iadd, 0, 0, 0, 0) := (fe187 45).trans rfl
theorem f187_46 : gm_fetch 187 46 = some (47, .istore_n 3, 0, 0, 0, 0) := (fe187 46).trans rfl
theorem f187_47 : gm_fetch 187 47 = some (50, .iinc 4 1, 0, 0, 0, 0) := (fe187 47).trans rfl
theorem f187_50 : gm_fetch 187 50 = some (53, .goto (-33), 0, 17, 0, 0) := (fe187 50).trans rfl
theorem f187_53 : gm_fetch 187 53 = some (54, .iload_n 3, 0, 0, 0, 0) := (fe187 53).trans rfl
theorem f187_54 : gm_fetch 187 54 = some (55, .ireturn, 0, 0, 0, 0) := (fe187 54).trans rfl
set_option maxRecDepth 10000 in
theorem rg187_0 {mi : Mi} {ml : Ml} {F : Int32 → Mi → Ml → Prop} {x1 : Int32}  (h : Sg 185 0 [some (.ref 47), some (.int x1)] [] mi ml (qi fun y1 mi2 ml3 => ((y1 = 0) → Sg 187 17 [some (.ref 47), some (.int x1), some (.int y1), some (.int 0), some (.int 0)] [] mi2 ml3 (qi F)) ∧ (¬ (y1 = 0) → F y1 mi2 ml3))) : Sg 187 0 [some (.ref 47), some (.int x1), none, none, none] [] mi ml (qi F) := by
  refine sg_ld f187_0 (v := .ref 47) rfl rfl ?_
  refine sg_ld f187_1 (v := .int x1) rfl rfl ?_
  refine sg_cV f187_2 (vs := [.int x1]) (r := 47) (rest := []) (en := [some (.ref 47), some (.int x1)]) pq185 ⟨rfl, rfl⟩ rfl rfl rfl rfl rfl rfl h ?_
  rintro _ mi2 ml3 ⟨y1, rfl, h⟩
  refine sg_st1 f187_5 (ls' := [some (.ref 47), some (.int x1), some (.int y1), none, none]) rfl rfl rfl rfl ?_
  refine sg_ld f187_6 (v := .int y1) rfl rfl ?_
  refine sg_if f187_7 (fun c => ?_) (fun c => ?_)
  · have h := h.1 c
    refine sg_psh f187_12 (v := .int 0) (by decide) ?_
    refine sg_st1 f187_13 (ls' := [some (.ref 47), some (.int x1), some (.int y1), some (.int 0), none]) rfl rfl rfl rfl ?_
    refine sg_psh f187_14 (v := .int 0) (by decide) ?_
    refine sg_st1 f187_15 (ls' := [some (.ref 47), some (.int x1), some (.int y1), some (.int 0), some (.int 0)]) rfl rfl rfl rfl ?_
    exact h
  · have h := h.2 c
    refine sg_ld f187_10 (v := .int y1) rfl rfl ?_
    exact sg_iret f187_11 pq187 rfl rfl ⟨_, rfl, h⟩

set_option maxRecDepth 10000 in
theorem rg187_17 {mi : Mi} {ml : Ml} {F : Int32 → Mi → Ml → Prop} {x1 : Int32} {x2 : Int32} {x3 : Int32} {x4 : Int32}  (h : (((mi 47 5) ≤ x4) → F x3 mi ml) ∧ (¬ ((mi 47 5) ≤ x4) → (vp_in ((7 * x1) + x4) 42) ∧ (Sg 148 0 [some (.ref 47), some (.int x4), some (.int (mi 66 (Int32.toNatClampNeg ((7 * x1) + x4)))), none, none] [] mi ml (qi fun y2 mi3 ml4 => Sg 187 17 [some (.ref 47), some (.int x1), some (.int x2), some (.int (x3 + y2)), some (.int (x4 + 1))] [] mi3 ml4 (qi F))))) : Sg 187 17 [some (.ref 47), some (.int x1), some (.int x2), some (.int x3), some (.int x4)] [] mi ml (qi F) := by
  refine sg_ld f187_17 (v := .int x4) rfl rfl ?_
  refine sg_ld f187_19 (v := .ref 47) rfl rfl ?_
  refine sg_geti f187_20 rfl rfl (x := (mi 47 5)) rfl ?_
  refine sg_icmp f187_23 (fun c => ?_) (fun c => ?_)
  · have h := h.1 c
    refine sg_ld f187_53 (v := .int x3) rfl rfl ?_
    exact sg_iret f187_54 pq187 rfl rfl ⟨_, rfl, h⟩
  · have h := h.2 c
    refine sg_ld f187_26 (v := .int x3) rfl rfl ?_
    refine sg_ld f187_27 (v := .ref 47) rfl rfl ?_
    refine sg_ld f187_28 (v := .int x4) rfl rfl ?_
    refine sg_ld f187_30 (v := .ref 47) rfl rfl ?_
    refine sg_getr f187_31 rfl rfl (w := 66) rfl ?_
    refine sg_psh f187_34 (v := .int 7) (by decide) ?_
    refine sg_ld f187_36 (v := .int x1) rfl rfl ?_
    refine sg_bin f187_37 rfl ?_
    refine sg_ld f187_38 (v := .int x4) rfl rfl ?_
    refine sg_bin f187_40 rfl ?_
    obtain ⟨e1, h⟩ := h
    refine sg_iald f187_41 rfl e1 (x := (mi 66 (Int32.toNatClampNeg ((7 * x1) + x4)))) rfl ?_
    refine sg_cV f187_42 (vs := [.int x4, .int (mi 66 (Int32.toNatClampNeg ((7 * x1) + x4)))]) (r := 47) (rest := [.int x3]) (en := [some (.ref 47), some (.int x4), some (.int (mi 66 (Int32.toNatClampNeg ((7 * x1) + x4)))), none, none]) pq148 ⟨rfl, rfl⟩ rfl rfl rfl rfl rfl rfl h ?_
    rintro _ mi3 ml4 ⟨y2, rfl, h⟩
    refine sg_bin f187_45 rfl ?_
    refine sg_st1 f187_46 (ls' := [some (.ref 47), some (.int x1), some (.int x2), some (.int (x3 + y2)), some (.int x4)]) rfl rfl rfl rfl ?_
    refine sg_inc f187_47 (d := 1) (ls' := [some (.ref 47), some (.int x1), some (.int x2), some (.int (x3 + y2)), some (.int (x4 + 1))]) rfl (by decide) rfl ?_
    refine sg_goto f187_50 ?_
    exact h

/-! X7_drop (I)I -/
theorem fe188 (pc : Nat) : gm_fetch 188 pc = gm_find pc cd_188 := rfl
theorem f188_0 : gm_fetch 188 0 = some (1, .iload_n 1, 0, 0, 0, 0) := (fe188 0).trans rfl
theorem f188_1 : gm_fetch 188 1 = some (4, .invokestatic 270, 226, 183, 0, 0) := (fe188 1).trans rfl
theorem f188_4 : gm_fetch 188 4 = some (7, .ifCond .ne 9, 0, 13, 0, 0) := (fe188 4).trans rfl
theorem f188_7 : gm_fetch 188 7 = some (8, .aload_n 0, 0, 0, 0, 0) := (fe188 7).trans rfl
theorem f188_8 : gm_fetch 188 8 = some (9, .iconst 2, 0, 0, 0, 0) := (fe188 8).trans rfl
theorem f188_9 : gm_fetch 188 9 = some (12, .invokevirtual 112, 159, 120, 0, 0) := (fe188 9).trans rfl
theorem f188_12 : gm_fetch 188 12 = some (13, .ireturn, 0, 0, 0, 0) := (fe188 12).trans rfl
theorem f188_13 : gm_fetch 188 13 = some (14, .aload_n 0, 0, 0, 0, 0) := (fe188 13).trans rfl
theorem f188_14 : gm_fetch 188 14 = some (17, .getfield 273, 112, 7, 28, 0) := (fe188 14).trans rfl
theorem f188_17 : gm_fetch 188 17 = some (18, .i2l, 0, 0, 0, 0) := (fe188 17).trans rfl
theorem f188_18 : gm_fetch 188 18 = some (19, .iload_n 1, 0, 0, 0, 0) := (fe188 18).trans rfl
theorem f188_19 : gm_fetch 188 19 = some (22, .invokestatic 97, 176, 116, 0, 0) := (fe188 19).trans rfl
theorem f188_22 : gm_fetch 188 22 = some (25, .ifCond .ne 9, 0, 31, 0, 0) := (fe188 22).trans rfl
theorem f188_25 : gm_fetch 188 25 = some (26, .aload_n 0, 0, 0, 0, 0) := (fe188 25).trans rfl
theorem f188_26 : gm_fetch 188 26 = some (27, .iconst 1, 0, 0, 0, 0) := (fe188 26).trans rfl
theorem f188_27 : gm_fetch 188 27 = some (30, .invokevirtual 112, 159, 120, 0, 0) := (fe188 27).trans rfl
theorem f188_30 : gm_fetch 188 30 = some (31, .ireturn, 0, 0, 0, 0) := (fe188 30).trans rfl
theorem f188_31 : gm_fetch 188 31 = some (32, .aload_n 0, 0, 0, 0, 0) := (fe188 31).trans rfl
theorem f188_32 : gm_fetch 188 32 = some (33, .dup, 0, 0, 0, 0) := (fe188 32).trans rfl
theorem f188_33 : gm_fetch 188 33 = some (36, .getfield 273, 112, 7, 28, 0) := (fe188 33).trans rfl
theorem f188_36 : gm_fetch 188 36 = some (37, .iconst 1, 0, 0, 0, 0) := (fe188 36).trans rfl
theorem f188_37 : gm_fetch 188 37 = some (38, .iload_n 1, 0, 0, 0, 0) := (fe188 37).trans rfl
theorem f188_38 : gm_fetch 188 38 = some (39, .ishl, 0, 0, 0, 0) := (fe188 38).trans rfl
theorem f188_39 : gm_fetch 188 39 = some (40, .iconst (-1), 0, 0, 0, 0) := (fe188 39).trans rfl
theorem f188_40 : gm_fetch 188 40 = some (41, .ixor, 0, 0, 0, 0) := (fe188 40).trans rfl
theorem f188_41 : gm_fetch 188 41 = some (42, .iand, 0, 0, 0, 0) := (fe188 41).trans rfl
theorem f188_42 : gm_fetch 188 42 = some (45, .putfield 273, 112, 7, 28, 0) := (fe188 42).trans rfl
theorem f188_45 : gm_fetch 188 45 = some (46, .aload_n 0, 0, 0, 0, 0) := (fe188 45).trans rfl
theorem f188_46 : gm_fetch 188 46 = some (49, .getfield 273, 112, 7, 28, 0) := (fe188 46).trans rfl
theorem f188_49 : gm_fetch 188 49 = some (50, .i2l, 0, 0, 0, 0) := (fe188 49).trans rfl
theorem f188_50 : gm_fetch 188 50 = some (53, .invokestatic 128, 175, 119, 0, 0) := (fe188 50).trans rfl
theorem f188_53 : gm_fetch 188 53 = some (54, .ireturn, 0, 0, 0, 0) := (fe188 53).trans rfl
set_option maxRecDepth 10000 in
theorem rg188_0 {mi : Mi} {ml : Ml} {F : Int32 → Mi → Ml → Prop} {x1 : Int32}  (h : Sg 183 0 [some (.int x1)] [] mi ml (qi fun y1 mi2 ml3 => ((¬ y1 = 0) → Sg 116 0 [some (.long (Int32.toInt64 (mi2 47 28))), none, some (.int x1)] [] mi2 ml3 (qi fun y4 mi5 ml6 => ((¬ y4 = 0) → Sg 119 0 [some (.long (Int32.toInt64 ((mi5 47 28) &&& ((1 <<< (x1 &&& 31)) ^^^ (-1))))), none, none, none] [] (va_up mi5 47 (va_up (mi5 47) 28 ((mi5 47 28) &&& ((1 <<< (x1 &&& 31)) ^^^ (-1))))) ml6 (qi fun y7 mi8 ml9 => F y7 mi8 ml9)) ∧ (¬ (¬ y4 = 0) → Sg 120 0 [some (.ref 47), some (.int 1)] [] mi5 ml6 (qi fun y10 mi11 ml12 => F y10 mi11 ml12)))) ∧ (¬ (¬ y1 = 0) → Sg 120 0 [some (.ref 47), some (.int 2)] [] mi2 ml3 (qi fun y13 mi14 ml15 => F y13 mi14 ml15)))) : Sg 188 0 [some (.ref 47), some (.int x1)] [] mi ml (qi F) := by
  refine sg_ld f188_0 (v := .int x1) rfl rfl ?_
  refine sg_cS f188_1 (vs := [.int x1]) (rest := []) (en := [some (.int x1)]) (by decide) pq183 ⟨rfl, rfl⟩ rfl rfl rfl rfl rfl h ?_
  rintro _ mi2 ml3 ⟨y1, rfl, h⟩
  refine sg_if f188_4 (fun c => ?_) (fun c => ?_)
  · have h := h.1 c
    refine sg_ld f188_13 (v := .ref 47) rfl rfl ?_
    refine sg_geti f188_14 rfl rfl (x := (mi2 47 28)) rfl ?_
    refine sg_i2l f188_17 ?_
    refine sg_ld f188_18 (v := .int x1) rfl rfl ?_
    refine sg_cS f188_19 (vs := [.long (Int32.toInt64 (mi2 47 28)), .int x1]) (rest := []) (en := [some (.long (Int32.toInt64 (mi2 47 28))), none, some (.int x1)]) (by decide) pq116 ⟨rfl, rfl⟩ rfl rfl rfl rfl rfl h ?_
    rintro _ mi5 ml6 ⟨y4, rfl, h⟩
    refine sg_if f188_22 (fun c => ?_) (fun c => ?_)
    · have h := h.1 c
      refine sg_ld f188_31 (v := .ref 47) rfl rfl ?_
      refine sg_dup f188_32 rfl ?_
      refine sg_geti f188_33 rfl rfl (x := (mi5 47 28)) rfl ?_
      refine sg_psh f188_36 (v := .int 1) (by decide) ?_
      refine sg_ld f188_37 (v := .int x1) rfl rfl ?_
      refine sg_bin f188_38 rfl ?_
      refine sg_psh f188_39 (v := .int (-1)) (by decide) ?_
      refine sg_bin f188_40 rfl ?_
      refine sg_bin f188_41 rfl ?_
      refine sg_puti f188_42 rfl rfl rfl (fun hz => by cases hz) ?_
      refine sg_ld f188_45 (v := .ref 47) rfl rfl ?_
      refine sg_geti f188_46 rfl rfl (x := ((mi5 47 28) &&& ((1 <<< (x1 &&& 31)) ^^^ (-1)))) rfl ?_
      refine sg_i2l f188_49 ?_
      refine sg_cS f188_50 (vs := [.long (Int32.toInt64 ((mi5 47 28) &&& ((1 <<< (x1 &&& 31)) ^^^ (-1))))]) (rest := []) (en := [some (.long (Int32.toInt64 ((mi5 47 28) &&& ((1 <<< (x1 &&& 31)) ^^^ (-1))))), none, none, none]) (by decide) pq119 ⟨rfl, rfl⟩ rfl rfl rfl rfl rfl h ?_
      rintro _ mi8 ml9 ⟨y7, rfl, h⟩
      exact sg_iret f188_53 pq188 rfl rfl ⟨_, rfl, h⟩
    · have h := h.2 c
      refine sg_ld f188_25 (v := .ref 47) rfl rfl ?_
      refine sg_psh f188_26 (v := .int 1) (by decide) ?_
      refine sg_cV f188_27 (vs := [.int 1]) (r := 47) (rest := []) (en := [some (.ref 47), some (.int 1)]) pq120 ⟨rfl, rfl⟩ rfl rfl rfl rfl rfl rfl h ?_
      rintro _ mi11 ml12 ⟨y10, rfl, h⟩
      exact sg_iret f188_30 pq188 rfl rfl ⟨_, rfl, h⟩
  · have h := h.2 c
    refine sg_ld f188_7 (v := .ref 47) rfl rfl ?_
    refine sg_psh f188_8 (v := .int 2) (by decide) ?_
    refine sg_cV f188_9 (vs := [.int 2]) (r := 47) (rest := []) (en := [some (.ref 47), some (.int 2)]) pq120 ⟨rfl, rfl⟩ rfl rfl rfl rfl rfl rfl h ?_
    rintro _ mi14 ml15 ⟨y13, rfl, h⟩
    exact sg_iret f188_12 pq188 rfl rfl ⟨_, rfl, h⟩

/-! X7_write (II)I -/
theorem fe189 (pc : Nat) : gm_fetch 189 pc = gm_find pc cd_189 := rfl
theorem f189_0 : gm_fetch 189 0 = some (1, .aload_n 0, 0, 0, 0, 0) := (fe189 0).trans rfl
theorem f189_1 : gm_fetch 189 1 = some (2, .iload_n 1, 0, 0, 0, 0) := (fe189 1).trans rfl
theorem f189_2 : gm_fetch 189 2 = some (5, .invokevirtual 125, 173, 129, 0, 0) := (fe189 2).trans rfl
theorem f189_5 : gm_fetch 189 5 = some (8, .ifCond .eq 10, 0, 15, 0, 0) := (fe189 5).trans rfl
theorem f189_8 : gm_fetch 189 8 = some (9, .iload_n 2, 0, 0, 0, 0) := (fe189 8).trans rfl
theorem f189_9 : gm_fetch 189 9 = some (12, .invokestatic 106, 157, 121, 0, 0) := (fe189 9).trans rfl
theorem f189_12 : gm_fetch 189 12 = some (15, .ifCond .ne 6, 0, 18, 0, 0) := (fe189 12).trans rfl
theorem f189_15 : gm_fetch 189 15 = some (17, .bipush (-2), 0, 0, 0, 0) := (fe189 15).trans rfl
theorem f189_17 : gm_fetch 189 17 = some (18, .ireturn, 0, 0, 0, 0) := (fe189 17).trans rfl
theorem f189_18 : gm_fetch 189 18 = some (19, .aload_n 0, 0, 0, 0, 0) := (fe189 18).trans rfl
theorem f189_19 : gm_fetch 189 19 = some (22, .getfield 7, 84, 7, 0, 0) := (fe189 19).trans rfl
theorem f189_22 : gm_fetch 189 22 = some (23, .iload_n 2, 0, 0, 0, 0) := (fe189 22).trans rfl
theorem f189_23 : gm_fetch 189 23 = some (24, .iaload, 0, 0, 0, 0) := (fe189 23).trans rfl
theorem f189_24 : gm_fetch 189 24 = some (27, .ifCond .ge 9, 0, 33, 0, 0) := (fe189 24).trans rfl
theorem f189_27 : gm_fetch 189 27 = some (28, .aload_n 0, 0, 0, 0, 0) := (fe189 27).trans rfl
theorem f189_28 : gm_fetch 189 28 = some (29, .iconst 1, 0, 0, 0, 0) := (fe189 28).trans rfl
theorem f189_29 : gm_fetch 189 29 = some (32, .invokevirtual 112, 159, 120, 0, 0) := (fe189 29).trans rfl
theorem f189_32 : gm_fetch 189 32 = some (33, .ireturn, 0, 0, 0, 0) := (fe189 32).trans rfl
theorem f189_33 : gm_fetch 189 33 = some (34, .aload_n 0, 0, 0, 0, 0) := (fe189 33).trans rfl
theorem f189_34 : gm_fetch 189 34 = some (37, .getfield 137, 95, 7, 11, 0) := (fe189 34).trans rfl
theorem f189_37 : gm_fetch 189 37 = some (40, .ifCond .eq 19, 0, 56, 0, 0) := (fe189 37).trans rfl
theorem f189_40 : gm_fetch 189 40 = some (41, .aload_n 0, 0, 0, 0, 0) := (fe189 40).trans rfl
theorem f189_41 : gm_fetch 189 41 = some (44, .getfield 13, 85, 7, 1, 0) := (fe189 41).trans rfl
theorem f189_44 : gm_fetch 189 44 = some (45, .iload_n 2, 0, 0, 0, 0) := (fe189 44).trans rfl
theorem f189_45 : gm_fetch 189 45 = some (46, .iaload, 0, 0, 0, 0) := (fe189 45).trans rfl
theorem f189_46 : gm_fetch 189 46 = some (47, .aload_n 0, 0, 0, 0, 0) := (fe189 46).trans rfl
theorem f189_47 : gm_fetch 189 47 = some (50, .getfield 84, 91, 7, 7, 0) := (fe189 47).trans rfl
theorem f189_50 : gm_fetch 189 50 = some (53, .invokestatic 134, 167, 117, 0, 0) := (fe189 50).trans rfl
theorem f189_53 : gm_fetch 189 53 = some (56, .goto 4, 0, 57, 0, 0) := (fe189 53).trans rfl
theorem f189_56 : gm_fetch 189 56 = some (57, .iconst 0, 0, 0, 0, 0) := (fe189 56).trans rfl
theorem f189_57 : gm_fetch 189 57 = some (58, .istore_n 3, 0, 0, 0, 0) := (fe189 57).trans rfl
theorem f189_58 : gm_fetch 189 58 = some (59, .iconst 0, 0, 0, 0, 0) := (fe189 58).trans rfl
theorem f189_59 : gm_fetch 189 59 = some (61, .istore 4, 0, 0, 0, 0) := (fe189 59).trans rfl
theorem f189_61 : gm_fetch 189 61 = some (63, .iload 4, 0, 0, 0, 0) := (fe189 61).trans rfl
theorem f189_63 : gm_fetch 189 63 = some (64, .iload_n 3, 0, 0, 0, 0) := (fe189 63).trans rfl
theorem f189_64 : gm_fetch 189 64 = some (67, .if_icmp .ge 41, 0, 105, 0, 0) := (fe189 64).trans rfl
theorem f189_67 : gm_fetch 189 67 = some (68, .aload_n 0, 0, 0, 0, 0) := (fe189 67).trans rfl
theorem f189_68 : gm_fetch 189 68 = some (71, .getfield 16, 86, 7, 2, 0) := (fe189 68).trans rfl
theorem f189_71 : gm_fetch 189 71 = some (73, .bipush 60, 0, 0, 0, 0) := (fe189 71).trans rfl
theorem f189_73 : gm_fetch 189 73 = some (74, .iload_n 2, 0, 0, 0, 0) := (fe189 73).trans rfl
theorem f189_74 : gm_fetch 189 74 = some (75, .imul, 0, 0, 0, 0) := (fe189 74).trans rfl
theorem f189_75 : gm_fetch 189 75 = some (77, .iload 4, 0, 0, 0, 0) := (fe189 75).trans rfl
theorem f189_77 : gm_fetch 189 77 = some (78, .iadd, 0, 0, 0, 0) := (fe189 77).trans rfl
theorem f189_78 : gm_fetch 189 78 = some (79, .aload_n 0, 0, 0, 0, 0) := (fe189 78).trans rfl
theorem f189_79 : gm_fetch 189 79 = some (82, .getfield 7, 84, 7, 0, 0) := (fe189 79).trans rfl
theorem f189_82 : gm_fetch 189 82 = some (83, .iload_n 2, 0, 0, 0, 0) := (fe189 82).trans rfl
theorem f189_83 : gm_fetch 189 83 = some (84, .iaload, 0, 0, 0, 0) := (fe189 83).trans rfl
theorem f189_84 : gm_fetch 189 84 = some (85, .aload_n 0, 0, 0, 0, 0) := (fe189 84).trans rfl
theorem f189_85 : gm_fetch 189 85 = some (88, .getfield 25, 96, 7, 12, 0) := (fe189 85).trans rfl
theorem f189_88 : gm_fetch 189 88 = some (89, .iload_n 1, 0, 0, 0, 0) := (fe189 88).trans rfl
theorem f189_89 : gm_fetch 189 89 = some (90, .iaload, 0, 0, 0, 0) := (fe189 89).trans rfl
theorem f189_90 : gm_fetch 189 90 = some (92, .iload 4, 0, 0, 0, 0) := (fe189 90).trans rfl
theorem f189_92 : gm_fetch 189 92 = some (95, .invokestatic 161, 183, 140, 0, 0) := (fe189 92).trans rfl
theorem f189_95 : gm_fetch 189 95 = some (98, .invokestatic 120, 163, 125, 0, 0) := (fe189 95).trans rfl
theorem f189_98 : gm_fetch 189 98 = some (99, .iastore, 0, 0, 0, 0) := (fe189 98).trans rfl
theorem f189_99 : gm_fetch 189 99 = some (102, .iinc 4 1, 0, 0, 0, 0) := (fe189 99).trans rfl
theorem f189_102 : gm_fetch 189 102 = some (105, .goto (-41), 0, 61, 0, 0) := (fe189 102).trans rfl
theorem f189_105 : gm_fetch 189 105 = some (106, .iload_n 3, 0, 0, 0, 0) := (fe189 105).trans rfl
theorem f189_106 : gm_fetch 189 106 = some (107, .ireturn, 0, 0, 0, 0) := (fe189 106).trans rfl
set_option maxRecDepth 10000 in
theorem rg189_0 {mi : Mi} {ml : Ml} {F : Int32 → Mi → Ml → Prop} {x1 : Int32} {x2 : Int32}  (h : Sg 129 0 [some (.ref 47), some (.int x1)] [] mi ml (qi fun y1 mi2 ml3 => ((y1 = 0) → F (-2) mi2 ml3) ∧ (¬ (y1 = 0) → Sg 121 0 [some (.int x2)] [] mi2 ml3 (qi fun y4 mi5 ml6 => ((¬ y4 = 0) → (vp_in x2 4) ∧ (((0 ≤ (mi5 48 (Int32.toNatClampNeg x2))) → (((mi5 47 11) = 0) → Sg 189 61 [some (.ref 47), some (.int x1), some (.int x2), some (.int 0), some (.int 0)] [] mi5 ml6 (qi F)) ∧ (¬ ((mi5 47 11) = 0) → Sg 117 0 [some (.int (mi5 49 (Int32.toNatClampNeg x2))), some (.int (mi5 47 7))] [] mi5 ml6 (qi fun y8 mi9 ml10 => Sg 189 61 [some (.ref 47), some (.int x1), some (.int x2), some (.int y8), some (.int 0)] [] mi9 ml10 (qi F)))) ∧ (¬ (0 ≤ (mi5 48 (Int32.toNatClampNeg x2))) → Sg 120 0 [some (.ref 47), some (.int 1)] [] mi5 ml6 (qi fun y11 mi12 ml13 => F y11 mi12 ml13)))) ∧ (¬ (¬ y4 = 0) → F (-2) mi5 ml6))))) : Sg 189 0 [some (.ref 47), some (.int x1), some (.int x2), none, none] [] mi ml (qi F) := by
  refine sg_ld f189_0 (v := .ref 47) rfl rfl ?_
  refine sg_ld f189_1 (v := .int x1) rfl rfl ?_
  refine sg_cV f189_2 (vs := [.int x1]) (r := 47) (rest := []) (en := [some (.ref 47), some (.int x1)]) pq129 ⟨rfl, rfl⟩ rfl rfl rfl rfl rfl rfl h ?_
  rintro _ mi2 ml3 ⟨y1, rfl, h⟩
  refine sg_if f189_5 (fun c => ?_) (fun c => ?_)
  · have h := h.1 c
    refine sg_psh f189_15 (v := .int (-2)) (by decide) ?_
    exact sg_iret f189_17 pq189 rfl rfl ⟨_, rfl, h⟩
  · have h := h.2 c
    refine sg_ld f189_8 (v := .int x2) rfl rfl ?_
    refine sg_cS f189_9 (vs := [.int x2]) (rest := []) (en := [some (.int x2)]) (by decide) pq121 ⟨rfl, rfl⟩ rfl rfl rfl rfl rfl h ?_
    rintro _ mi5 ml6 ⟨y4, rfl, h⟩
    refine sg_if f189_12 (fun c => ?_) (fun c => ?_)
    · have h := h.1 c
      refine sg_ld f189_18 (v := .ref 47) rfl rfl ?_
      refine sg_getr f189_19 rfl rfl (w := 48) rfl ?_
      refine sg_ld f189_22 (v := .int x2) rfl rfl ?_
      obtain ⟨e7, h⟩ := h
      refine sg_iald f189_23 rfl e7 (x := (mi5 48 (Int32.toNatClampNeg x2))) rfl ?_
      refine sg_if f189_24 (fun c => ?_) (fun c => ?_)
      · have h := h.1 c
        refine sg_ld f189_33 (v := .ref 47) rfl rfl ?_
        refine sg_geti f189_34 rfl rfl (x := (mi5 47 11)) rfl ?_
        refine sg_if f189_37 (fun c => ?_) (fun c => ?_)
        · have h := h.1 c
          refine sg_psh f189_56 (v := .int 0) (by decide) ?_
          refine sg_st1 f189_57 (ls' := [some (.ref 47), some (.int x1), some (.int x2), some (.int 0), none]) rfl rfl rfl rfl ?_
          refine sg_psh f189_58 (v := .int 0) (by decide) ?_
          refine sg_st1 f189_59 (ls' := [some (.ref 47), some (.int x1), some (.int x2), some (.int 0), some (.int 0)]) rfl rfl rfl rfl ?_
          exact h
        · have h := h.2 c
          refine sg_ld f189_40 (v := .ref 47) rfl rfl ?_
          refine sg_getr f189_41 rfl rfl (w := 49) rfl ?_
          refine sg_ld f189_44 (v := .int x2) rfl rfl ?_
          refine sg_iald f189_45 rfl e7 (x := (mi5 49 (Int32.toNatClampNeg x2))) rfl ?_
          refine sg_ld f189_46 (v := .ref 47) rfl rfl ?_
          refine sg_geti f189_47 rfl rfl (x := (mi5 47 7)) rfl ?_
          refine sg_cS f189_50 (vs := [.int (mi5 49 (Int32.toNatClampNeg x2)), .int (mi5 47 7)]) (rest := []) (en := [some (.int (mi5 49 (Int32.toNatClampNeg x2))), some (.int (mi5 47 7))]) (by decide) pq117 ⟨rfl, rfl⟩ rfl rfl rfl rfl rfl h ?_
          rintro _ mi9 ml10 ⟨y8, rfl, h⟩
          refine sg_goto f189_53 ?_
          refine sg_st1 f189_57 (ls' := [some (.ref 47), some (.int x1), some (.int x2), some (.int y8), none]) rfl rfl rfl rfl ?_
          refine sg_psh f189_58 (v := .int 0) (by decide) ?_
          refine sg_st1 f189_59 (ls' := [some (.ref 47), some (.int x1), some (.int x2), some (.int y8), some (.int 0)]) rfl rfl rfl rfl ?_
          exact h
      · have h := h.2 c
        refine sg_ld f189_27 (v := .ref 47) rfl rfl ?_
        refine sg_psh f189_28 (v := .int 1) (by decide) ?_
        refine sg_cV f189_29 (vs := [.int 1]) (r := 47) (rest := []) (en := [some (.ref 47), some (.int 1)]) pq120 ⟨rfl, rfl⟩ rfl rfl rfl rfl rfl rfl h ?_
        rintro _ mi12 ml13 ⟨y11, rfl, h⟩
        exact sg_iret f189_32 pq189 rfl rfl ⟨_, rfl, h⟩
    · have h := h.2 c
      refine sg_psh f189_15 (v := .int (-2)) (by decide) ?_
      exact sg_iret f189_17 pq189 rfl rfl ⟨_, rfl, h⟩

set_option maxRecDepth 10000 in
theorem rg189_61 {mi : Mi} {ml : Ml} {F : Int32 → Mi → Ml → Prop} {x1 : Int32} {x2 : Int32} {x3 : Int32} {x4 : Int32}  (h : ((x3 ≤ x4) → F x3 mi ml) ∧ (¬ (x3 ≤ x4) → (vp_in x2 4) ∧ ((vp_in x1 7) ∧ (Sg 140 0 [some (.int (mi 53 (Int32.toNatClampNeg x1))), some (.int x4), none, none] [] mi ml (qi fun y3 mi4 ml5 => Sg 125 0 [some (.int (mi 48 (Int32.toNatClampNeg x2))), some (.int y3)] [] mi4 ml5 (qi fun y6 mi7 ml8 => (vp_in ((60 * x2) + x4) 240) ∧ (Sg 189 61 [some (.ref 47), some (.int x1), some (.int x2), some (.int x3), some (.int (x4 + 1))] [] (va_up mi7 50 (va_up (mi7 50) (Int32.toNatClampNeg ((60 * x2) + x4)) y6)) ml8 (qi F)))))))) : Sg 189 61 [some (.ref 47), some (.int x1), some (.int x2), some (.int x3), some (.int x4)] [] mi ml (qi F) := by
  refine sg_ld f189_61 (v := .int x4) rfl rfl ?_
  refine sg_ld f189_63 (v := .int x3) rfl rfl ?_
  refine sg_icmp f189_64 (fun c => ?_) (fun c => ?_)
  · have h := h.1 c
    refine sg_ld f189_105 (v := .int x3) rfl rfl ?_
    exact sg_iret f189_106 pq189 rfl rfl ⟨_, rfl, h⟩
  · have h := h.2 c
    refine sg_ld f189_67 (v := .ref 47) rfl rfl ?_
    refine sg_getr f189_68 rfl rfl (w := 50) rfl ?_
    refine sg_psh f189_71 (v := .int 60) (by decide) ?_
    refine sg_ld f189_73 (v := .int x2) rfl rfl ?_
    refine sg_bin f189_74 rfl ?_
    refine sg_ld f189_75 (v := .int x4) rfl rfl ?_
    refine sg_bin f189_77 rfl ?_
    refine sg_ld f189_78 (v := .ref 47) rfl rfl ?_
    refine sg_getr f189_79 rfl rfl (w := 48) rfl ?_
    refine sg_ld f189_82 (v := .int x2) rfl rfl ?_
    obtain ⟨e1, h⟩ := h
    refine sg_iald f189_83 rfl e1 (x := (mi 48 (Int32.toNatClampNeg x2))) rfl ?_
    refine sg_ld f189_84 (v := .ref 47) rfl rfl ?_
    refine sg_getr f189_85 rfl rfl (w := 53) rfl ?_
    refine sg_ld f189_88 (v := .int x1) rfl rfl ?_
    obtain ⟨e2, h⟩ := h
    refine sg_iald f189_89 rfl e2 (x := (mi 53 (Int32.toNatClampNeg x1))) rfl ?_
    refine sg_ld f189_90 (v := .int x4) rfl rfl ?_
    refine sg_cS f189_92 (vs := [.int (mi 53 (Int32.toNatClampNeg x1)), .int x4]) (rest := [.int (mi 48 (Int32.toNatClampNeg x2)), .int ((60 * x2) + x4), .ref 50]) (en := [some (.int (mi 53 (Int32.toNatClampNeg x1))), some (.int x4), none, none]) (by decide) pq140 ⟨rfl, rfl⟩ rfl rfl rfl rfl rfl h ?_
    rintro _ mi4 ml5 ⟨y3, rfl, h⟩
    refine sg_cS f189_95 (vs := [.int (mi 48 (Int32.toNatClampNeg x2)), .int y3]) (rest := [.int ((60 * x2) + x4), .ref 50]) (en := [some (.int (mi 48 (Int32.toNatClampNeg x2))), some (.int y3)]) (by decide) pq125 ⟨rfl, rfl⟩ rfl rfl rfl rfl rfl h ?_
    rintro _ mi7 ml8 ⟨y6, rfl, h⟩
    obtain ⟨e9, h⟩ := h
    refine sg_iast f189_98 rfl e9 ?_
    refine sg_inc f189_99 (d := 1) (ls' := [some (.ref 47), some (.int x1), some (.int x2), some (.int x3), some (.int (x4 + 1))]) rfl (by decide) rfl ?_
    refine sg_goto f189_102 ?_
    exact h

/-! X7_countBy (I)I -/
theorem fe190 (pc : Nat) : gm_fetch 190 pc = gm_find pc cd_190 := rfl
theorem f190_0 : gm_fetch 190 0 = some (1, .iload_n 1, 0, 0, 0, 0) := (fe190 0).trans rfl
theorem f190_1 : gm_fetch 190 1 = some (52, .tableswitch 121 0 8 #[51, 61, 66, 79, 84, 93, 106, 111, 116], 0, 0, 0, 0) := (fe190 1).trans rfl
theorem f190_52 : gm_fetch 190 52 = some (53, .aload_n 0, 0, 0, 0, 0) := (fe190 52).trans rfl
theorem f190_53 : gm_fetch 190 53 = some (56, .getfield 77, 89, 7, 5, 0) := (fe190 53).trans rfl
theorem f190_56 : gm_fetch 190 56 = some (57, .aload_n 0, 0, 0, 0, 0) := (fe190 56).trans rfl
theorem f190_57 : gm_fetch 190 57 = some (60, .getfield 81, 90, 7, 6, 0) := (fe190 57).trans rfl
theorem f190_60 : gm_fetch 190 60 = some (61, .imul, 0, 0, 0, 0) := (fe190 60).trans rfl
theorem f190_61 : gm_fetch 190 61 = some (62, .ireturn, 0, 0, 0, 0) := (fe190 61).trans rfl
theorem f190_62 : gm_fetch 190 62 = some (63, .aload_n 0, 0, 0, 0, 0) := (fe190 62).trans rfl
theorem f190_63 : gm_fetch 190 63 = some (66, .invokevirtual 147, 174, 131, 0, 0) := (fe190 63).trans rfl
theorem f190_66 : gm_fetch 190 66 = some (67, .ireturn, 0, 0, 0, 0) := (fe190 66).trans rfl
theorem f190_67 : gm_fetch 190 67 = some (68, .aload_n 0, 0, 0, 0, 0) := (fe190 67).trans rfl
theorem f190_68 : gm_fetch 190 68 = some (71, .invokevirtual 180, 185, 145, 0, 0) := (fe190 68).trans rfl
theorem f190_71 : gm_fetch 190 71 = some (74, .ifCond .eq 7, 0, 78, 0, 0) := (fe190 71).trans rfl
theorem f190_74 : gm_fetch 190 74 = some (75, .iconst 1, 0, 0, 0, 0) := (fe190 74).trans rfl
theorem f190_75 : gm_fetch 190 75 = some (78, .goto 4, 0, 79, 0, 0) := (fe190 75).trans rfl
theorem f190_78 : gm_fetch 190 78 = some (79, .iconst 0, 0, 0, 0, 0) := (fe190 78).trans rfl
theorem f190_79 : gm_fetch 190 79 = some (80, .ireturn, 0, 0, 0, 0) := (fe190 79).trans rfl
theorem f190_80 : gm_fetch 190 80 = some (81, .aload_n 0, 0, 0, 0, 0) := (fe190 80).trans rfl
theorem f190_81 : gm_fetch 190 81 = some (84, .getfield 198, 97, 7, 13, 0) := (fe190 81).trans rfl
theorem f190_84 : gm_fetch 190 84 = some (85, .ireturn, 0, 0, 0, 0) := (fe190 84).trans rfl
theorem f190_85 : gm_fetch 190 85 = some (86, .aload_n 0, 0, 0, 0, 0) := (fe190 85).trans rfl
theorem f190_86 : gm_fetch 190 86 = some (89, .getfield 273, 112, 7, 28, 0) := (fe190 86).trans rfl
theorem f190_89 : gm_fetch 190 89 = some (90, .i2l, 0, 0, 0, 0) := (fe190 89).trans rfl
theorem f190_90 : gm_fetch 190 90 = some (93, .invokestatic 128, 175, 119, 0, 0) := (fe190 90).trans rfl
theorem f190_93 : gm_fetch 190 93 = some (94, .ireturn, 0, 0, 0, 0) := (fe190 93).trans rfl
theorem f190_94 : gm_fetch 190 94 = some (95, .aload_n 0, 0, 0, 0, 0) := (fe190 94).trans rfl
theorem f190_95 : gm_fetch 190 95 = some (98, .getfield 137, 95, 7, 11, 0) := (fe190 95).trans rfl
theorem f190_98 : gm_fetch 190 98 = some (101, .ifCond .eq 7, 0, 105, 0, 0) := (fe190 98).trans rfl
theorem f190_101 : gm_fetch 190 101 = some (102, .iconst 1, 0, 0, 0, 0) := (fe190 101).trans rfl
theorem f190_102 : gm_fetch 190 102 = some (105, .goto 4, 0, 106, 0, 0) := (fe190 102).trans rfl
theorem f190_105 : gm_fetch 190 105 = some (106, .iconst 0, 0, 0, 0, 0) := (fe190 105).trans rfl
theorem f190_106 : gm_fetch 190 106 = some (107, .ireturn, 0, 0, 0, 0) := (fe190 106).trans rfl
theorem f190_107 : gm_fetch 190 107 = some (108, .aload_n 0, 0, 0, 0, 0) := (fe190 107).trans rfl
theorem f190_108 : gm_fetch 190 108 = some (111, .invokevirtual 253, 212, 176, 0, 0) := (fe190 108).trans rfl
theorem f190_111 : gm_fetch 190 111 = some (112, .ireturn, 0, 0, 0, 0) := (fe190 111).trans rfl
theorem f190_112 : gm_fetch 190 112 = some (113, .aload_n 0, 0, 0, 0, 0) := (fe190 112).trans rfl
theorem f190_113 : gm_fetch 190 113 = some (116, .invokevirtual 279, 234, 191, 0, 0) := (fe190 113).trans rfl
theorem f190_116 : gm_fetch 190 116 = some (117, .ireturn, 0, 0, 0, 0) := (fe190 116).trans rfl
theorem f190_117 : gm_fetch 190 117 = some (118, .aload_n 0, 0, 0, 0, 0) := (fe190 117).trans rfl
theorem f190_118 : gm_fetch 190 118 = some (121, .getfield 101, 88, 7, 4, 0) := (fe190 118).trans rfl
theorem f190_121 : gm_fetch 190 121 = some (122, .ireturn, 0, 0, 0, 0) := (fe190 121).trans rfl
theorem f190_122 : gm_fetch 190 122 = some (124, .bipush (-2), 0, 0, 0, 0) := (fe190 122).trans rfl
theorem f190_124 : gm_fetch 190 124 = some (125, .ireturn, 0, 0, 0, 0) := (fe190 124).trans rfl
set_option maxRecDepth 10000 in
theorem rg190_0 {mi : Mi} {ml : Ml} {F : Int32 → Mi → Ml → Prop} {x1 : Int32}  (h : ((Int32.toInt x1 < 0 ∨ 8 < Int32.toInt x1) → F (-2) mi ml) ∧ (x1 = nI 0 → F ((mi 47 5) * (mi 47 6)) mi ml) ∧ (x1 = nI 1 → Sg 131 0 [some (.ref 47), none, none] [] mi ml (qi fun y1 mi2 ml3 => F y1 mi2 ml3)) ∧ (x1 = nI 2 → Sg 145 0 [some (.ref 47)] [] mi ml (qi fun y4 mi5 ml6 => ((y4 = 0) → F 0 mi5 ml6) ∧ (¬ (y4 = 0) → F 1 mi5 ml6))) ∧ (x1 = nI 3 → F (mi 47 13) mi ml) ∧ (x1 = nI 4 → Sg 119 0 [some (.long (Int32.toInt64 (mi 47 28))), none, none, none] [] mi ml (qi fun y7 mi8 ml9 => F y7 mi8 ml9)) ∧ (x1 = nI 5 → (((mi 47 11) = 0) → F 0 mi ml) ∧ (¬ ((mi 47 11) = 0) → F 1 mi ml)) ∧ (x1 = nI 6 → Sg 176 0 [some (.ref 47), none, none, none, none, none] [] mi ml (qi fun y10 mi11 ml12 => F y10 mi11 ml12)) ∧ (x1 = nI 7 → Sg 191 0 [some (.ref 47), none, none] [] mi ml (qi fun y13 mi14 ml15 => F y13 mi14 ml15)) ∧ (x1 = nI 8 → F (mi 47 4) mi ml)) : Sg 190 0 [some (.ref 47), some (.int x1)] [] mi ml (qi F) := by
  refine sg_ld f190_0 (v := .int x1) rfl rfl ?_
  by_cases c : Int32.toInt x1 < 0 ∨ 8 < Int32.toInt x1
  · have h := h.1 c
    refine sg_tabO f190_1 c (t := 122) (by decide) ?_
    refine sg_psh f190_122 (v := .int (-2)) (by decide) ?_
    exact sg_iret f190_124 pq190 rfl rfl ⟨_, rfl, h⟩
  · have h := h.2
    obtain ⟨kk, hk, hx⟩ := gm_swk (n := 8) c
    rcases (show kk = 0 ∨ kk = 1 ∨ kk = 2 ∨ kk = 3 ∨ kk = 4 ∨ kk = 5 ∨ kk = 6 ∨ kk = 7 ∨ kk = 8 by omega) with rfl | rfl | rfl | rfl | rfl | rfl | rfl | rfl | rfl
    · have h := h.1 hx
      refine sg_tabI f190_1 (by rw [hx]; decide) (by rw [hx]; decide) (off := 51) (t := 52) (by rw [hx]; decide) (by decide) ?_
      refine sg_ld f190_52 (v := .ref 47) rfl rfl ?_
      refine sg_geti f190_53 rfl rfl (x := (mi 47 5)) rfl ?_
      refine sg_ld f190_56 (v := .ref 47) rfl rfl ?_
      refine sg_geti f190_57 rfl rfl (x := (mi 47 6)) rfl ?_
      refine sg_bin f190_60 rfl ?_
      exact sg_iret f190_61 pq190 rfl rfl ⟨_, rfl, h⟩
    · have h := h.2.1 hx
      refine sg_tabI f190_1 (by rw [hx]; decide) (by rw [hx]; decide) (off := 61) (t := 62) (by rw [hx]; decide) (by decide) ?_
      refine sg_ld f190_62 (v := .ref 47) rfl rfl ?_
      refine sg_cV f190_63 (vs := []) (r := 47) (rest := []) (en := [some (.ref 47), none, none]) pq131 ⟨rfl, rfl⟩ rfl rfl rfl rfl rfl rfl h ?_
      rintro _ mi2 ml3 ⟨y1, rfl, h⟩
      exact sg_iret f190_66 pq190 rfl rfl ⟨_, rfl, h⟩
    · have h := h.2.2.1 hx
      refine sg_tabI f190_1 (by rw [hx]; decide) (by rw [hx]; decide) (off := 66) (t := 67) (by rw [hx]; decide) (by decide) ?_
      refine sg_ld f190_67 (v := .ref 47) rfl rfl ?_
      refine sg_cV f190_68 (vs := []) (r := 47) (rest := []) (en := [some (.ref 47)]) pq145 ⟨rfl, rfl⟩ rfl rfl rfl rfl rfl rfl h ?_
      rintro _ mi5 ml6 ⟨y4, rfl, h⟩
      refine sg_if f190_71 (fun c => ?_) (fun c => ?_)
      · have h := h.1 c
        refine sg_psh f190_78 (v := .int 0) (by decide) ?_
        exact sg_iret f190_79 pq190 rfl rfl ⟨_, rfl, h⟩
      · have h := h.2 c
        refine sg_psh f190_74 (v := .int 1) (by decide) ?_
        refine sg_goto f190_75 ?_
        exact sg_iret f190_79 pq190 rfl rfl ⟨_, rfl, h⟩
    · have h := h.2.2.2.1 hx
      refine sg_tabI f190_1 (by rw [hx]; decide) (by rw [hx]; decide) (off := 79) (t := 80) (by rw [hx]; decide) (by decide) ?_
      refine sg_ld f190_80 (v := .ref 47) rfl rfl ?_
      refine sg_geti f190_81 rfl rfl (x := (mi 47 13)) rfl ?_
      exact sg_iret f190_84 pq190 rfl rfl ⟨_, rfl, h⟩
    · have h := h.2.2.2.2.1 hx
      refine sg_tabI f190_1 (by rw [hx]; decide) (by rw [hx]; decide) (off := 84) (t := 85) (by rw [hx]; decide) (by decide) ?_
      refine sg_ld f190_85 (v := .ref 47) rfl rfl ?_
      refine sg_geti f190_86 rfl rfl (x := (mi 47 28)) rfl ?_
      refine sg_i2l f190_89 ?_
      refine sg_cS f190_90 (vs := [.long (Int32.toInt64 (mi 47 28))]) (rest := []) (en := [some (.long (Int32.toInt64 (mi 47 28))), none, none, none]) (by decide) pq119 ⟨rfl, rfl⟩ rfl rfl rfl rfl rfl h ?_
      rintro _ mi8 ml9 ⟨y7, rfl, h⟩
      exact sg_iret f190_93 pq190 rfl rfl ⟨_, rfl, h⟩
    · have h := h.2.2.2.2.2.1 hx
      refine sg_tabI f190_1 (by rw [hx]; decide) (by rw [hx]; decide) (off := 93) (t := 94) (by rw [hx]; decide) (by decide) ?_
      refine sg_ld f190_94 (v := .ref 47) rfl rfl ?_
      refine sg_geti f190_95 rfl rfl (x := (mi 47 11)) rfl ?_
      refine sg_if f190_98 (fun c => ?_) (fun c => ?_)
      · have h := h.1 c
        refine sg_psh f190_105 (v := .int 0) (by decide) ?_
        exact sg_iret f190_106 pq190 rfl rfl ⟨_, rfl, h⟩
      · have h := h.2 c
        refine sg_psh f190_101 (v := .int 1) (by decide) ?_
        refine sg_goto f190_102 ?_
        exact sg_iret f190_106 pq190 rfl rfl ⟨_, rfl, h⟩
    · have h := h.2.2.2.2.2.2.1 hx
      refine sg_tabI f190_1 (by rw [hx]; decide) (by rw [hx]; decide) (off := 106) (t := 107) (by rw [hx]; decide) (by decide) ?_
      refine sg_ld f190_107 (v := .ref 47) rfl rfl ?_
      refine sg_cV f190_108 (vs := []) (r := 47) (rest := []) (en := [some (.ref 47), none, none, none, none, none]) pq176 ⟨rfl, rfl⟩ rfl rfl rfl rfl rfl rfl h ?_
      rintro _ mi11 ml12 ⟨y10, rfl, h⟩
      exact sg_iret f190_111 pq190 rfl rfl ⟨_, rfl, h⟩
    · have h := h.2.2.2.2.2.2.2.1 hx
      refine sg_tabI f190_1 (by rw [hx]; decide) (by rw [hx]; decide) (off := 111) (t := 112) (by rw [hx]; decide) (by decide) ?_
      refine sg_ld f190_112 (v := .ref 47) rfl rfl ?_
      refine sg_cV f190_113 (vs := []) (r := 47) (rest := []) (en := [some (.ref 47), none, none]) pq191 ⟨rfl, rfl⟩ rfl rfl rfl rfl rfl rfl h ?_
      rintro _ mi14 ml15 ⟨y13, rfl, h⟩
      exact sg_iret f190_116 pq190 rfl rfl ⟨_, rfl, h⟩
    · have h := h.2.2.2.2.2.2.2.2 hx
      refine sg_tabI f190_1 (by rw [hx]; decide) (by rw [hx]; decide) (off := 116) (t := 117) (by rw [hx]; decide) (by decide) ?_
      refine sg_ld f190_117 (v := .ref 47) rfl rfl ?_
      refine sg_geti f190_118 rfl rfl (x := (mi 47 4)) rfl ?_
      exact sg_iret f190_121 pq190 rfl rfl ⟨_, rfl, h⟩

/-! X7_allSeats ()I -/
theorem fe191 (pc : Nat) : gm_fetch 191 pc = gm_find pc cd_191 := rfl
theorem f191_0 : gm_fetch 191 0 = some (1, .iconst 0, 0, 0, 0, 0) := (fe191 0).trans rfl
theorem f191_1 : gm_fetch 191 1 = some (2, .istore_n 1, 0, 0, 0, 0) := (fe191 1).trans rfl
theorem f191_2 : gm_fetch 191 2 = some (3, .iconst 0, 0, 0, 0, 0) := (fe191 2).trans rfl
theorem f191_3 : gm_fetch 191 3 = some (4, .istore_n 2, 0, 0, 0, 0) := (fe191 3).trans rfl
theorem f191_4 : gm_fetch 191 4 = some (5, .iload_n 2, 0, 0, 0, 0) := (fe191 4).trans rfl
theorem f191_5 : gm_fetch 191 5 = some (6, .aload_n 0, 0, 0, 0, 0) := (fe191 5).trans rfl
theorem f191_6 : gm_fetch 191 6 = some (9, .getfield 77, 89, 7, 5, 0) := (fe191 6).trans rfl
theorem f191_9 : gm_fetch 191 9 = some (12, .if_icmp .ge 17, 0, 26, 0, 0) := (fe191 9).trans rfl
theorem f191_12 : gm_fetch 191 12 = some (13, .iload_n 1, 0, 0, 0, 0) := (fe191 12).trans rfl
theorem f191_13 : gm_fetch 191 13 = some (14, .aload_n 0, 0, 0, 0, 0) := (fe191 13).trans rfl
theorem f191_14 : gm_fetch 191 14 = some (15, .iload_n 2, 0, 0, 0, 0) := (fe191 14).trans rfl
theorem f191_15 : gm_fetch 191 15 = some (18, .invokevirtual 207, 199, 157, 0, 0) := (fe191 15).trans rfl
theorem f191_18 : gm_fetch 191 18 = some (19, .iadd, 0, 0, 0, 0) := (fe191 18).trans rfl
theorem f191_19 : gm_fetch 191 19 = some (20, .istore_n 1, 0, 0, 0, 0) := (fe191 19).trans rfl
theorem f191_20 : gm_fetch 191 20 = some (23, .iinc 2 1, 0, 0, 0, 0) := (fe191 20).trans rfl
theorem f191_23 : gm_fetch 191 23 = some (26, .goto (-19), 0, 4, 0, 0) := (fe191 23).trans rfl
theorem f191_26 : gm_fetch 191 26 = some (27, .iload_n 1, 0, 0, 0, 0) := (fe191 26).trans rfl
theorem f191_27 : gm_fetch 191 27 = some (28, .ireturn, 0, 0, 0, 0) := (fe191 27).trans rfl
set_option maxRecDepth 10000 in
theorem rg191_0 {mi : Mi} {ml : Ml} {F : Int32 → Mi → Ml → Prop}   (h : Sg 191 4 [some (.ref 47), some (.int 0), some (.int 0)] [] mi ml (qi F)) : Sg 191 0 [some (.ref 47), none, none] [] mi ml (qi F) := by
  refine sg_psh f191_0 (v := .int 0) (by decide) ?_
  refine sg_st1 f191_1 (ls' := [some (.ref 47), some (.int 0), none]) rfl rfl rfl rfl ?_
  refine sg_psh f191_2 (v := .int 0) (by decide) ?_
  refine sg_st1 f191_3 (ls' := [some (.ref 47), some (.int 0), some (.int 0)]) rfl rfl rfl rfl ?_
  exact h

set_option maxRecDepth 10000 in
theorem rg191_4 {mi : Mi} {ml : Ml} {F : Int32 → Mi → Ml → Prop} {x1 : Int32} {x2 : Int32}  (h : (((mi 47 5) ≤ x2) → F x1 mi ml) ∧ (¬ ((mi 47 5) ≤ x2) → Sg 157 0 [some (.ref 47), some (.int x2), none, none] [] mi ml (qi fun y1 mi2 ml3 => Sg 191 4 [some (.ref 47), some (.int (x1 + y1)), some (.int (x2 + 1))] [] mi2 ml3 (qi F)))) : Sg 191 4 [some (.ref 47), some (.int x1), some (.int x2)] [] mi ml (qi F) := by
  refine sg_ld f191_4 (v := .int x2) rfl rfl ?_
  refine sg_ld f191_5 (v := .ref 47) rfl rfl ?_
  refine sg_geti f191_6 rfl rfl (x := (mi 47 5)) rfl ?_
  refine sg_icmp f191_9 (fun c => ?_) (fun c => ?_)
  · have h := h.1 c
    refine sg_ld f191_26 (v := .int x1) rfl rfl ?_
    exact sg_iret f191_27 pq191 rfl rfl ⟨_, rfl, h⟩
  · have h := h.2 c
    refine sg_ld f191_12 (v := .int x1) rfl rfl ?_
    refine sg_ld f191_13 (v := .ref 47) rfl rfl ?_
    refine sg_ld f191_14 (v := .int x2) rfl rfl ?_
    refine sg_cV f191_15 (vs := [.int x2]) (r := 47) (rest := [.int x1]) (en := [some (.ref 47), some (.int x2), none, none]) pq157 ⟨rfl, rfl⟩ rfl rfl rfl rfl rfl rfl h ?_
    rintro _ mi2 ml3 ⟨y1, rfl, h⟩
    refine sg_bin f191_18 rfl ?_
    refine sg_st1 f191_19 (ls' := [some (.ref 47), some (.int (x1 + y1)), some (.int x2)]) rfl rfl rfl rfl ?_
    refine sg_inc f191_20 (d := 1) (ls' := [some (.ref 47), some (.int (x1 + y1)), some (.int (x2 + 1))]) rfl (by decide) rfl ?_
    refine sg_goto f191_23 ?_
    exact h

/-! X7_count (I)I -/
theorem fe192 (pc : Nat) : gm_fetch 192 pc = gm_find pc cd_192 := rfl
theorem f192_0 : gm_fetch 192 0 = some (1, .aload_n 0, 0, 0, 0, 0) := (fe192 0).trans rfl
theorem f192_1 : gm_fetch 192 1 = some (4, .invokevirtual 177, 181, 142, 0, 0) := (fe192 1).trans rfl
theorem f192_4 : gm_fetch 192 4 = some (5, .aload_n 0, 0, 0, 0, 0) := (fe192 4).trans rfl
theorem f192_5 : gm_fetch 192 5 = some (6, .iload_n 1, 0, 0, 0, 0) := (fe192 5).trans rfl
theorem f192_6 : gm_fetch 192 6 = some (9, .invokevirtual 282, 233, 190, 0, 0) := (fe192 6).trans rfl
theorem f192_9 : gm_fetch 192 9 = some (10, .ireturn, 0, 0, 0, 0) := (fe192 9).trans rfl
set_option maxRecDepth 10000 in
theorem rg192_0 {mi : Mi} {ml : Ml} {F : Int32 → Mi → Ml → Prop} {x1 : Int32}  (h : Sg 142 0 [some (.ref 47)] [] mi ml (qv fun mi2 ml3 => Sg 190 0 [some (.ref 47), some (.int x1)] [] mi2 ml3 (qi fun y4 mi5 ml6 => F y4 mi5 ml6))) : Sg 192 0 [some (.ref 47), some (.int x1)] [] mi ml (qi F) := by
  refine sg_ld f192_0 (v := .ref 47) rfl rfl ?_
  refine sg_cV f192_1 (vs := []) (r := 47) (rest := []) (en := [some (.ref 47)]) pq142 ⟨rfl, rfl⟩ rfl rfl rfl rfl rfl rfl h ?_
  intro _ mi2 ml3 h
  have h := gm_qv h
  refine sg_ld f192_4 (v := .ref 47) rfl rfl ?_
  refine sg_ld f192_5 (v := .int x1) rfl rfl ?_
  refine sg_cV f192_6 (vs := [.int x1]) (r := 47) (rest := []) (en := [some (.ref 47), some (.int x1)]) pq190 ⟨rfl, rfl⟩ rfl rfl rfl rfl rfl rfl h ?_
  rintro _ mi5 ml6 ⟨y4, rfl, h⟩
  exact sg_iret f192_9 pq192 rfl rfl ⟨_, rfl, h⟩

/-! X7_digest ()J -/
theorem fe193 (pc : Nat) : gm_fetch 193 pc = gm_find pc cd_193 := rfl
set_option maxRecDepth 10000 in
theorem f193_0 : gm_fetch 193 0 = some (3, .ldc2_w 285, 12, 0, 0, 17) := (fe193 0).trans rfl
set_option maxRecDepth 10000 in
theorem f193_3 : gm_fetch 193 3 = some (4, .lstore_n 1, 0, 0, 0, 0) := (fe193 3).trans rfl
set_option maxRecDepth 10000 in
theorem f193_4 : gm_fetch 193 4 = some (5, .aload_n 0, 0, 0, 0, 0) := (fe193 4).trans rfl
set_option maxRecDepth 10000 in
theorem f193_5 : gm_fetch 193 5 = some (8, .invokevirtual 177, 181, 142, 0, 0) := (fe193 5).trans rfl
set_option maxRecDepth 10000 in
theorem f193_8 : gm_fetch 193 8 = some (9, .iconst 0, 0, 0, 0, 0) := (fe193 8).trans rfl
set_option maxRecDepth 10000 in
theorem f193_9 : gm_fetch 193 9 = some (10, .istore_n 3, 0, 0, 0, 0) := (fe193 9).trans rfl
set_option maxRecDepth 10000 in
theorem f193_10 : gm_fetch 193 10 = some (11, .iload_n 3, 0, 0, 0, 0) := (fe193 10).trans rfl
set_option maxRecDepth 10000 in
theorem f193_11 : gm_fetch 193 11 = some (13, .bipush 8, 0, 0, 0, 0) := (fe193 11).trans rfl
set_option maxRecDepth 10000 in
theorem f193_13 : gm_fetch 193 13 = some (16, .if_icmp .ge 22, 0, 35, 0, 0) := (fe193 13).trans rfl
set_option maxRecDepth 10000 in
theorem f193_16 : gm_fetch 193 16 = some (19, .ldc2_w 287, 13, 0, 0, 31) := (fe193 16).trans rfl
set_option maxRecDepth 10000 in
theorem f193_19 : gm_fetch 193 19 = some (20, .lload_n 1, 0, 0, 0, 0) := (fe193 19).trans rfl
set_option maxRecDepth 10000 in
theorem f193_20 : gm_fetch 193 20 = some (21, .lmul, 0, 0, 0, 0) := (fe193 20).trans rfl
set_option maxRecDepth 10000 in
theorem f193_21 : gm_fetch 193 21 = some (22, .aload_n 0, 0, 0, 0, 0) := (fe193 21).trans rfl
set_option maxRecDepth 10000 in
theorem f193_22 : gm_fetch 193 22 = some (23, .iload_n 3, 0, 0, 0, 0) := (fe193 22).trans rfl
set_option maxRecDepth 10000 in
theorem f193_23 : gm_fetch 193 23 = some (26, .invokevirtual 282, 233, 190, 0, 0) := (fe193 23).trans rfl
set_option maxRecDepth 10000 in
theorem f193_26 : gm_fetch 193 26 = some (27, .i2l, 0, 0, 0, 0) := (fe193 26).trans rfl
set_option maxRecDepth 10000 in
theorem f193_27 : gm_fetch 193 27 = some (28, .ladd, 0, 0, 0, 0) := (fe193 27).trans rfl
set_option maxRecDepth 10000 in
theorem f193_28 : gm_fetch 193 28 = some (29, .lstore_n 1, 0, 0, 0, 0) := (fe193 28).trans rfl
set_option maxRecDepth 10000 in
theorem f193_29 : gm_fetch 193 29 = some (32, .iinc 3 1, 0, 0, 0, 0) := (fe193 29).trans rfl
set_option maxRecDepth 10000 in
theorem f193_32 : gm_fetch 193 32 = some (35, .goto (-22), 0, 10, 0, 0) := (fe193 32).trans rfl
set_option maxRecDepth 10000 in
theorem f193_35 : gm_fetch 193 35 = some (36, .aload_n 0, 0, 0, 0, 0) := (fe193 35).trans rfl
set_option maxRecDepth 10000 in
theorem f193_36 : gm_fetch 193 36 = some (39, .invokevirtual 219, 206, 163, 0, 0) := (fe193 36).trans rfl
set_option maxRecDepth 10000 in
theorem f193_39 : gm_fetch 193 39 = some (40, .lstore_n 3, 0, 0, 0, 0) := (fe193 39).trans rfl
set_option maxRecDepth 10000 in
theorem f193_40 : gm_fetch 193 40 = some (41, .aload_n 0, 0, 0, 0, 0) := (fe193 40).trans rfl
set_option maxRecDepth 10000 in
theorem f193_41 : gm_fetch 193 41 = some (44, .invokevirtual 223, 208, 164, 0, 0) := (fe193 41).trans rfl
set_option maxRecDepth 10000 in
theorem f193_44 : gm_fetch 193 44 = some (46, .lstore 5, 0, 0, 0, 0) := (fe193 44).trans rfl
set_option maxRecDepth 10000 in
theorem f193_46 : gm_fetch 193 46 = some (49, .ldc2_w 287, 13, 0, 0, 31) := (fe193 46).trans rfl
set_option maxRecDepth 10000 in
theorem f193_49 : gm_fetch 193 49 = some (50, .lload_n 1, 0, 0, 0, 0) := (fe193 49).trans rfl
set_option maxRecDepth 10000 in
theorem f193_50 : gm_fetch 193 50 = some (51, .lmul, 0, 0, 0, 0) := (fe193 50).trans rfl
set_option maxRecDepth 10000 in
theorem f193_51 : gm_fetch 193 51 = some (52, .aload_n 0, 0, 0, 0, 0) := (fe193 51).trans rfl
set_option maxRecDepth 10000 in
theorem f193_52 : gm_fetch 193 52 = some (55, .invokevirtual 201, 194, 152, 0, 0) := (fe193 52).trans rfl
set_option maxRecDepth 10000 in
theorem f193_55 : gm_fetch 193 55 = some (56, .i2l, 0, 0, 0, 0) := (fe193 55).trans rfl
set_option maxRecDepth 10000 in
theorem f193_56 : gm_fetch 193 56 = some (57, .ladd, 0, 0, 0, 0) := (fe193 56).trans rfl
set_option maxRecDepth 10000 in
theorem f193_57 : gm_fetch 193 57 = some (58, .lstore_n 1, 0, 0, 0, 0) := (fe193 57).trans rfl
set_option maxRecDepth 10000 in
theorem f193_58 : gm_fetch 193 58 = some (61, .ldc2_w 287, 13, 0, 0, 31) := (fe193 58).trans rfl
set_option maxRecDepth 10000 in
theorem f193_61 : gm_fetch 193 61 = some (62, .lload_n 1, 0, 0, 0, 0) := (fe193 61).trans rfl
set_option maxRecDepth 10000 in
theorem f193_62 : gm_fetch 193 62 = some (63, .lmul, 0, 0, 0, 0) := (fe193 62).trans rfl
set_option maxRecDepth 10000 in
theorem f193_63 : gm_fetch 193 63 = some (64, .aload_n 0, 0, 0, 0, 0) := (fe193 63).trans rfl
set_option maxRecDepth 10000 in
theorem f193_64 : gm_fetch 193 64 = some (67, .invokevirtual 210, 201, 159, 0, 0) := (fe193 64).trans rfl
set_option maxRecDepth 10000 in
theorem f193_67 : gm_fetch 193 67 = some (68, .i2l, 0, 0, 0, 0) := (fe193 67).trans rfl
set_option maxRecDepth 10000 in
theorem f193_68 : gm_fetch 193 68 = some (69, .ladd, 0, 0, 0, 0) := (fe193 68).trans rfl
set_option maxRecDepth 10000 in
theorem f193_69 : gm_fetch 193 69 = some (70, .lstore_n 1, 0, 0, 0, 0) := (fe193 69).trans rfl
set_option maxRecDepth 10000 in
theorem f193_70 : gm_fetch 193 70 = some (73, .ldc2_w 287, 13, 0, 0, 31) := (fe193 70).trans rfl
set_option maxRecDepth 10000 in
theorem f193_73 : gm_fetch 193 73 = some (74, .lload_n 1, 0, 0, 0, 0) := (fe193 73).trans rfl
set_option maxRecDepth 10000 in
theorem f193_74 : gm_fetch 193 74 = some (75, .lmul, 0, 0, 0, 0) := (fe193 74).trans rfl
set_option maxRecDepth 10000 in
theorem f193_75 : gm_fetch 193 75 = some (76, .aload_n 0, 0, 0, 0, 0) := (fe193 75).trans rfl
set_option maxRecDepth 10000 in
theorem f193_76 : gm_fetch 193 76 = some (77, .iconst 0, 0, 0, 0, 0) := (fe193 76).trans rfl
set_option maxRecDepth 10000 in
theorem f193_77 : gm_fetch 193 77 = some (80, .invokevirtual 216, 204, 161, 0, 0) := (fe193 77).trans rfl
set_option maxRecDepth 10000 in
theorem f193_80 : gm_fetch 193 80 = some (81, .i2l, 0, 0, 0, 0) := (fe193 80).trans rfl
set_option maxRecDepth 10000 in
theorem f193_81 : gm_fetch 193 81 = some (82, .ladd, 0, 0, 0, 0) := (fe193 81).trans rfl
set_option maxRecDepth 10000 in
theorem f193_82 : gm_fetch 193 82 = some (83, .lstore_n 1, 0, 0, 0, 0) := (fe193 82).trans rfl
set_option maxRecDepth 10000 in
theorem f193_83 : gm_fetch 193 83 = some (86, .ldc2_w 287, 13, 0, 0, 31) := (fe193 83).trans rfl
set_option maxRecDepth 10000 in
theorem f193_86 : gm_fetch 193 86 = some (87, .lload_n 1, 0, 0, 0, 0) := (fe193 86).trans rfl
set_option maxRecDepth 10000 in
theorem f193_87 : gm_fetch 193 87 = some (88, .lmul, 0, 0, 0, 0) := (fe193 87).trans rfl
set_option maxRecDepth 10000 in
theorem f193_88 : gm_fetch 193 88 = some (89, .aload_n 0, 0, 0, 0, 0) := (fe193 88).trans rfl
set_option maxRecDepth 10000 in
theorem f193_89 : gm_fetch 193 89 = some (90, .iconst 1, 0, 0, 0, 0) := (fe193 89).trans rfl
set_option maxRecDepth 10000 in
theorem f193_90 : gm_fetch 193 90 = some (93, .invokevirtual 216, 204, 161, 0, 0) := (fe193 90).trans rfl
set_option maxRecDepth 10000 in
theorem f193_93 : gm_fetch 193 93 = some (94, .i2l, 0, 0, 0, 0) := (fe193 93).trans rfl
set_option maxRecDepth 10000 in
theorem f193_94 : gm_fetch 193 94 = some (95, .ladd, 0, 0, 0, 0) := (fe193 94).trans rfl
set_option maxRecDepth 10000 in
theorem f193_95 : gm_fetch 193 95 = some (96, .lstore_n 1, 0, 0, 0, 0) := (fe193 95).trans rfl
set_option maxRecDepth 10000 in
theorem f193_96 : gm_fetch 193 96 = some (99, .ldc2_w 287, 13, 0, 0, 31) := (fe193 96).trans rfl
set_option maxRecDepth 10000 in
theorem f193_99 : gm_fetch 193 99 = some (100, .lload_n 1, 0, 0, 0, 0) := (fe193 99).trans rfl
set_option maxRecDepth 10000 in
theorem f193_100 : gm_fetch 193 100 = some (101, .lmul, 0, 0, 0, 0) := (fe193 100).trans rfl
set_option maxRecDepth 10000 in
theorem f193_101 : gm_fetch 193 101 = some (102, .lload_n 3, 0, 0, 0, 0) := (fe193 101).trans rfl
set_option maxRecDepth 10000 in
theorem f193_102 : gm_fetch 193 102 = some (105, .invokestatic 128, 175, 119, 0, 0) := (fe193 102).trans rfl
set_option maxRecDepth 10000 in
theorem f193_105 : gm_fetch 193 105 = some (106, .i2l, 0, 0, 0, 0) := (fe193 105).trans rfl
set_option maxRecDepth 10000 in
theorem f193_106 : gm_fetch 193 106 = some (107, .ladd, 0, 0, 0, 0) := (fe193 106).trans rfl
set_option maxRecDepth 10000 in
theorem f193_107 : gm_fetch 193 107 = some (108, .lstore_n 1, 0, 0, 0, 0) := (fe193 107).trans rfl
set_option maxRecDepth 10000 in
theorem f193_108 : gm_fetch 193 108 = some (111, .ldc2_w 287, 13, 0, 0, 31) := (fe193 108).trans rfl
set_option maxRecDepth 10000 in
theorem f193_111 : gm_fetch 193 111 = some (112, .lload_n 1, 0, 0, 0, 0) := (fe193 111).trans rfl
set_option maxRecDepth 10000 in
theorem f193_112 : gm_fetch 193 112 = some (113, .lmul, 0, 0, 0, 0) := (fe193 112).trans rfl
set_option maxRecDepth 10000 in
theorem f193_113 : gm_fetch 193 113 = some (115, .lload 5, 0, 0, 0, 0) := (fe193 113).trans rfl
set_option maxRecDepth 10000 in
theorem f193_115 : gm_fetch 193 115 = some (118, .invokestatic 128, 175, 119, 0, 0) := (fe193 115).trans rfl
set_option maxRecDepth 10000 in
theorem f193_118 : gm_fetch 193 118 = some (119, .i2l, 0, 0, 0, 0) := (fe193 118).trans rfl
set_option maxRecDepth 10000 in
theorem f193_119 : gm_fetch 193 119 = some (120, .ladd, 0, 0, 0, 0) := (fe193 119).trans rfl
set_option maxRecDepth 10000 in
theorem f193_120 : gm_fetch 193 120 = some (121, .lstore_n 1, 0, 0, 0, 0) := (fe193 120).trans rfl
set_option maxRecDepth 10000 in
theorem f193_121 : gm_fetch 193 121 = some (124, .ldc2_w 287, 13, 0, 0, 31) := (fe193 121).trans rfl
set_option maxRecDepth 10000 in
theorem f193_124 : gm_fetch 193 124 = some (125, .lload_n 1, 0, 0, 0, 0) := (fe193 124).trans rfl
set_option maxRecDepth 10000 in
theorem f193_125 : gm_fetch 193 125 = some (126, .lmul, 0, 0, 0, 0) := (fe193 125).trans rfl
set_option maxRecDepth 10000 in
theorem f193_126 : gm_fetch 193 126 = some (127, .aload_n 0, 0, 0, 0, 0) := (fe193 126).trans rfl
set_option maxRecDepth 10000 in
theorem f193_127 : gm_fetch 193 127 = some (128, .iconst 0, 0, 0, 0, 0) := (fe193 127).trans rfl
set_option maxRecDepth 10000 in
theorem f193_128 : gm_fetch 193 128 = some (131, .invokevirtual 226, 210, 167, 0, 0) := (fe193 128).trans rfl
set_option maxRecDepth 10000 in
theorem f193_131 : gm_fetch 193 131 = some (132, .i2l, 0, 0, 0, 0) := (fe193 131).trans rfl
set_option maxRecDepth 10000 in
theorem f193_132 : gm_fetch 193 132 = some (133, .ladd, 0, 0, 0, 0) := (fe193 132).trans rfl
set_option maxRecDepth 10000 in
theorem f193_133 : gm_fetch 193 133 = some (134, .lstore_n 1, 0, 0, 0, 0) := (fe193 133).trans rfl
set_option maxRecDepth 10000 in
theorem f193_134 : gm_fetch 193 134 = some (137, .ldc2_w 287, 13, 0, 0, 31) := (fe193 134).trans rfl
set_option maxRecDepth 10000 in
theorem f193_137 : gm_fetch 193 137 = some (138, .lload_n 1, 0, 0, 0, 0) := (fe193 137).trans rfl
set_option maxRecDepth 10000 in
theorem f193_138 : gm_fetch 193 138 = some (139, .lmul, 0, 0, 0, 0) := (fe193 138).trans rfl
set_option maxRecDepth 10000 in
theorem f193_139 : gm_fetch 193 139 = some (140, .aload_n 0, 0, 0, 0, 0) := (fe193 139).trans rfl
set_option maxRecDepth 10000 in
theorem f193_140 : gm_fetch 193 140 = some (141, .iconst 1, 0, 0, 0, 0) := (fe193 140).trans rfl
set_option maxRecDepth 10000 in
theorem f193_141 : gm_fetch 193 141 = some (144, .invokevirtual 226, 210, 167, 0, 0) := (fe193 141).trans rfl
set_option maxRecDepth 10000 in
theorem f193_144 : gm_fetch 193 144 = some (145, .i2l, 0, 0, 0, 0) := (fe193 144).trans rfl
set_option maxRecDepth 10000 in
theorem f193_145 : gm_fetch 193 145 = some (146, .ladd, 0, 0, 0, 0) := (fe193 145).trans rfl
set_option maxRecDepth 10000 in
theorem f193_146 : gm_fetch 193 146 = some (147, .lstore_n 1, 0, 0, 0, 0) := (fe193 146).trans rfl
set_option maxRecDepth 10000 in
theorem f193_147 : gm_fetch 193 147 = some (148, .aload_n 0, 0, 0, 0, 0) := (fe193 147).trans rfl
set_option maxRecDepth 10000 in
theorem f193_148 : gm_fetch 193 148 = some (151, .invokevirtual 256, 221, 178, 0, 0) := (fe193 148).trans rfl
set_option maxRecDepth 10000 in
theorem f193_151 : gm_fetch 193 151 = some (153, .lstore 7, 0, 0, 0, 0) := (fe193 151).trans rfl
set_option maxRecDepth 10000 in
theorem f193_153 : gm_fetch 193 153 = some (156, .ldc2_w 287, 13, 0, 0, 31) := (fe193 153).trans rfl
set_option maxRecDepth 10000 in
theorem f193_156 : gm_fetch 193 156 = some (157, .lload_n 1, 0, 0, 0, 0) := (fe193 156).trans rfl
set_option maxRecDepth 10000 in
theorem f193_157 : gm_fetch 193 157 = some (158, .lmul, 0, 0, 0, 0) := (fe193 157).trans rfl
set_option maxRecDepth 10000 in
theorem f193_158 : gm_fetch 193 158 = some (160, .lload 7, 0, 0, 0, 0) := (fe193 158).trans rfl
set_option maxRecDepth 10000 in
theorem f193_160 : gm_fetch 193 160 = some (161, .ladd, 0, 0, 0, 0) := (fe193 160).trans rfl
set_option maxRecDepth 10000 in
theorem f193_161 : gm_fetch 193 161 = some (162, .lstore_n 1, 0, 0, 0, 0) := (fe193 161).trans rfl
set_option maxRecDepth 10000 in
theorem f193_162 : gm_fetch 193 162 = some (163, .iconst 0, 0, 0, 0, 0) := (fe193 162).trans rfl
set_option maxRecDepth 10000 in
theorem f193_163 : gm_fetch 193 163 = some (165, .istore 9, 0, 0, 0, 0) := (fe193 163).trans rfl
set_option maxRecDepth 10000 in
theorem f193_165 : gm_fetch 193 165 = some (167, .iload 9, 0, 0, 0, 0) := (fe193 165).trans rfl
set_option maxRecDepth 10000 in
theorem f193_167 : gm_fetch 193 167 = some (168, .aload_n 0, 0, 0, 0, 0) := (fe193 167).trans rfl
set_option maxRecDepth 10000 in
theorem f193_168 : gm_fetch 193 168 = some (171, .getfield 77, 89, 7, 5, 0) := (fe193 168).trans rfl
set_option maxRecDepth 10000 in
theorem f193_171 : gm_fetch 193 171 = some (174, .if_icmp .ge 57, 0, 228, 0, 0) := (fe193 171).trans rfl
set_option maxRecDepth 10000 in
theorem f193_174 : gm_fetch 193 174 = some (177, .ldc2_w 287, 13, 0, 0, 31) := (fe193 174).trans rfl
set_option maxRecDepth 10000 in
theorem f193_177 : gm_fetch 193 177 = some (178, .lload_n 1, 0, 0, 0, 0) := (fe193 177).trans rfl
set_option maxRecDepth 10000 in
theorem f193_178 : gm_fetch 193 178 = some (179, .lmul, 0, 0, 0, 0) := (fe193 178).trans rfl
set_option maxRecDepth 10000 in
theorem f193_179 : gm_fetch 193 179 = some (180, .aload_n 0, 0, 0, 0, 0) := (fe193 179).trans rfl
set_option maxRecDepth 10000 in
theorem f193_180 : gm_fetch 193 180 = some (182, .iload 9, 0, 0, 0, 0) := (fe193 180).trans rfl
set_option maxRecDepth 10000 in
theorem f193_182 : gm_fetch 193 182 = some (185, .invokevirtual 207, 199, 157, 0, 0) := (fe193 182).trans rfl
set_option maxRecDepth 10000 in
theorem f193_185 : gm_fetch 193 185 = some (186, .i2l, 0, 0, 0, 0) := (fe193 185).trans rfl
set_option maxRecDepth 10000 in
theorem f193_186 : gm_fetch 193 186 = some (187, .ladd, 0, 0, 0, 0) := (fe193 186).trans rfl
set_option maxRecDepth 10000 in
theorem f193_187 : gm_fetch 193 187 = some (188, .lstore_n 1, 0, 0, 0, 0) := (fe193 187).trans rfl
set_option maxRecDepth 10000 in
theorem f193_188 : gm_fetch 193 188 = some (189, .iconst 0, 0, 0, 0, 0) := (fe193 188).trans rfl
set_option maxRecDepth 10000 in
theorem f193_189 : gm_fetch 193 189 = some (191, .istore 10, 0, 0, 0, 0) := (fe193 189).trans rfl
set_option maxRecDepth 10000 in
theorem f193_191 : gm_fetch 193 191 = some (193, .iload 10, 0, 0, 0, 0) := (fe193 191).trans rfl
set_option maxRecDepth 10000 in
theorem f193_193 : gm_fetch 193 193 = some (194, .aload_n 0, 0, 0, 0, 0) := (fe193 193).trans rfl
set_option maxRecDepth 10000 in
theorem f193_194 : gm_fetch 193 194 = some (197, .getfield 84, 91, 7, 7, 0) := (fe193 194).trans rfl
set_option maxRecDepth 10000 in
theorem f193_197 : gm_fetch 193 197 = some (200, .if_icmp .ge 25, 0, 222, 0, 0) := (fe193 197).trans rfl
set_option maxRecDepth 10000 in
theorem f193_200 : gm_fetch 193 200 = some (203, .ldc2_w 287, 13, 0, 0, 31) := (fe193 200).trans rfl
set_option maxRecDepth 10000 in
theorem f193_203 : gm_fetch 193 203 = some (204, .lload_n 1, 0, 0, 0, 0) := (fe193 203).trans rfl
set_option maxRecDepth 10000 in
theorem f193_204 : gm_fetch 193 204 = some (205, .lmul, 0, 0, 0, 0) := (fe193 204).trans rfl
set_option maxRecDepth 10000 in
theorem f193_205 : gm_fetch 193 205 = some (206, .aload_n 0, 0, 0, 0, 0) := (fe193 205).trans rfl
set_option maxRecDepth 10000 in
theorem f193_206 : gm_fetch 193 206 = some (208, .iload 9, 0, 0, 0, 0) := (fe193 206).trans rfl
set_option maxRecDepth 10000 in
theorem f193_208 : gm_fetch 193 208 = some (210, .iload 10, 0, 0, 0, 0) := (fe193 208).trans rfl
set_option maxRecDepth 10000 in
theorem f193_210 : gm_fetch 193 210 = some (213, .invokevirtual 204, 197, 155, 0, 0) := (fe193 210).trans rfl
set_option maxRecDepth 10000 in
theorem f193_213 : gm_fetch 193 213 = some (214, .i2l, 0, 0, 0, 0) := (fe193 213).trans rfl
set_option maxRecDepth 10000 in
theorem f193_214 : gm_fetch 193 214 = some (215, .ladd, 0, 0, 0, 0) := (fe193 214).trans rfl
set_option maxRecDepth 10000 in
theorem f193_215 : gm_fetch 193 215 = some (216, .lstore_n 1, 0, 0, 0, 0) := (fe193 215).trans rfl
set_option maxRecDepth 10000 in
theorem f193_216 : gm_fetch 193 216 = some (219, .iinc 10 1, 0, 0, 0, 0) := (fe193 216).trans rfl
set_option maxRecDepth 10000 in
theorem f193_219 : gm_fetch 193 219 = some (222, .goto (-28), 0, 191, 0, 0) := (fe193 219).trans rfl
set_option maxRecDepth 10000 in
theorem f193_222 : gm_fetch 193 222 = some (225, .iinc 9 1, 0, 0, 0, 0) := (fe193 222).trans rfl
set_option maxRecDepth 10000 in
theorem f193_225 : gm_fetch 193 225 = some (228, .goto (-60), 0, 165, 0, 0) := (fe193 225).trans rfl
set_option maxRecDepth 10000 in
theorem f193_228 : gm_fetch 193 228 = some (229, .iconst 0, 0, 0, 0, 0) := (fe193 228).trans rfl
set_option maxRecDepth 10000 in
theorem f193_229 : gm_fetch 193 229 = some (231, .istore 9, 0, 0, 0, 0) := (fe193 229).trans rfl
set_option maxRecDepth 10000 in
theorem f193_231 : gm_fetch 193 231 = some (233, .iload 9, 0, 0, 0, 0) := (fe193 231).trans rfl
set_option maxRecDepth 10000 in
theorem f193_233 : gm_fetch 193 233 = some (234, .aload_n 0, 0, 0, 0, 0) := (fe193 233).trans rfl
set_option maxRecDepth 10000 in
theorem f193_234 : gm_fetch 193 234 = some (237, .getfield 77, 89, 7, 5, 0) := (fe193 234).trans rfl
set_option maxRecDepth 10000 in
theorem f193_237 : gm_fetch 193 237 = some (238, .aload_n 0, 0, 0, 0, 0) := (fe193 237).trans rfl
set_option maxRecDepth 10000 in
theorem f193_238 : gm_fetch 193 238 = some (241, .getfield 81, 90, 7, 6, 0) := (fe193 238).trans rfl
set_option maxRecDepth 10000 in
theorem f193_241 : gm_fetch 193 241 = some (242, .imul, 0, 0, 0, 0) := (fe193 241).trans rfl
set_option maxRecDepth 10000 in
theorem f193_242 : gm_fetch 193 242 = some (245, .if_icmp .ge 63, 0, 305, 0, 0) := (fe193 242).trans rfl
set_option maxRecDepth 10000 in
theorem f193_245 : gm_fetch 193 245 = some (246, .iconst 0, 0, 0, 0, 0) := (fe193 245).trans rfl
set_option maxRecDepth 10000 in
theorem f193_246 : gm_fetch 193 246 = some (248, .istore 10, 0, 0, 0, 0) := (fe193 246).trans rfl
set_option maxRecDepth 10000 in
theorem f193_248 : gm_fetch 193 248 = some (250, .iload 10, 0, 0, 0, 0) := (fe193 248).trans rfl
set_option maxRecDepth 10000 in
theorem f193_250 : gm_fetch 193 250 = some (251, .iconst 5, 0, 0, 0, 0) := (fe193 250).trans rfl
set_option maxRecDepth 10000 in
theorem f193_251 : gm_fetch 193 251 = some (254, .if_icmp .ge 48, 0, 299, 0, 0) := (fe193 251).trans rfl
set_option maxRecDepth 10000 in
theorem f193_254 : gm_fetch 193 254 = some (257, .ldc2_w 287, 13, 0, 0, 31) := (fe193 254).trans rfl
set_option maxRecDepth 10000 in
theorem f193_257 : gm_fetch 193 257 = some (258, .lload_n 1, 0, 0, 0, 0) := (fe193 257).trans rfl
set_option maxRecDepth 10000 in
theorem f193_258 : gm_fetch 193 258 = some (259, .lmul, 0, 0, 0, 0) := (fe193 258).trans rfl
set_option maxRecDepth 10000 in
theorem f193_259 : gm_fetch 193 259 = some (260, .aload_n 0, 0, 0, 0, 0) := (fe193 259).trans rfl
set_option maxRecDepth 10000 in
theorem f193_260 : gm_fetch 193 260 = some (262, .iload 9, 0, 0, 0, 0) := (fe193 260).trans rfl
set_option maxRecDepth 10000 in
theorem f193_262 : gm_fetch 193 262 = some (264, .iload 10, 0, 0, 0, 0) := (fe193 262).trans rfl
set_option maxRecDepth 10000 in
theorem f193_264 : gm_fetch 193 264 = some (266, .iload 10, 0, 0, 0, 0) := (fe193 264).trans rfl
set_option maxRecDepth 10000 in
theorem f193_266 : gm_fetch 193 266 = some (267, .iconst 2, 0, 0, 0, 0) := (fe193 266).trans rfl
set_option maxRecDepth 10000 in
theorem f193_267 : gm_fetch 193 267 = some (270, .if_icmp .ne 8, 0, 275, 0, 0) := (fe193 267).trans rfl
set_option maxRecDepth 10000 in
theorem f193_270 : gm_fetch 193 270 = some (272, .lload 5, 0, 0, 0, 0) := (fe193 270).trans rfl
set_option maxRecDepth 10000 in
theorem f193_272 : gm_fetch 193 272 = some (275, .goto 15, 0, 287, 0, 0) := (fe193 272).trans rfl
set_option maxRecDepth 10000 in
theorem f193_275 : gm_fetch 193 275 = some (277, .iload 10, 0, 0, 0, 0) := (fe193 275).trans rfl
set_option maxRecDepth 10000 in
theorem f193_277 : gm_fetch 193 277 = some (278, .iconst 3, 0, 0, 0, 0) := (fe193 277).trans rfl
set_option maxRecDepth 10000 in
theorem f193_278 : gm_fetch 193 278 = some (281, .if_icmp .ne 7, 0, 285, 0, 0) := (fe193 278).trans rfl
set_option maxRecDepth 10000 in
theorem f193_281 : gm_fetch 193 281 = some (282, .lload_n 3, 0, 0, 0, 0) := (fe193 281).trans rfl
set_option maxRecDepth 10000 in
theorem f193_282 : gm_fetch 193 282 = some (285, .goto 5, 0, 287, 0, 0) := (fe193 282).trans rfl
set_option maxRecDepth 10000 in
theorem f193_285 : gm_fetch 193 285 = some (287, .lload 7, 0, 0, 0, 0) := (fe193 285).trans rfl
set_option maxRecDepth 10000 in
theorem f193_287 : gm_fetch 193 287 = some (290, .invokevirtual 264, 223, 181, 0, 0) := (fe193 287).trans rfl
set_option maxRecDepth 10000 in
theorem f193_290 : gm_fetch 193 290 = some (291, .i2l, 0, 0, 0, 0) := (fe193 290).trans rfl
set_option maxRecDepth 10000 in
theorem f193_291 : gm_fetch 193 291 = some (292, .ladd, 0, 0, 0, 0) := (fe193 291).trans rfl
set_option maxRecDepth 10000 in
theorem f193_292 : gm_fetch 193 292 = some (293, .lstore_n 1, 0, 0, 0, 0) := (fe193 292).trans rfl
set_option maxRecDepth 10000 in
theorem f193_293 : gm_fetch 193 293 = some (296, .iinc 10 1, 0, 0, 0, 0) := (fe193 293).trans rfl
set_option maxRecDepth 10000 in
theorem f193_296 : gm_fetch 193 296 = some (299, .goto (-48), 0, 248, 0, 0) := (fe193 296).trans rfl
set_option maxRecDepth 10000 in
theorem f193_299 : gm_fetch 193 299 = some (302, .iinc 9 1, 0, 0, 0, 0) := (fe193 299).trans rfl
set_option maxRecDepth 10000 in
theorem f193_302 : gm_fetch 193 302 = some (305, .goto (-71), 0, 231, 0, 0) := (fe193 302).trans rfl
set_option maxRecDepth 10000 in
theorem f193_305 : gm_fetch 193 305 = some (306, .iconst 0, 0, 0, 0, 0) := (fe193 305).trans rfl
set_option maxRecDepth 10000 in
theorem f193_306 : gm_fetch 193 306 = some (308, .istore 9, 0, 0, 0, 0) := (fe193 306).trans rfl
set_option maxRecDepth 10000 in
theorem f193_308 : gm_fetch 193 308 = some (310, .iload 9, 0, 0, 0, 0) := (fe193 308).trans rfl
set_option maxRecDepth 10000 in
theorem f193_310 : gm_fetch 193 310 = some (312, .bipush 6, 0, 0, 0, 0) := (fe193 310).trans rfl
set_option maxRecDepth 10000 in
theorem f193_312 : gm_fetch 193 312 = some (315, .if_icmp .ge 36, 0, 348, 0, 0) := (fe193 312).trans rfl
set_option maxRecDepth 10000 in
theorem f193_315 : gm_fetch 193 315 = some (316, .aload_n 0, 0, 0, 0, 0) := (fe193 315).trans rfl
set_option maxRecDepth 10000 in
theorem f193_316 : gm_fetch 193 316 = some (319, .getfield 273, 112, 7, 28, 0) := (fe193 316).trans rfl
set_option maxRecDepth 10000 in
theorem f193_319 : gm_fetch 193 319 = some (320, .i2l, 0, 0, 0, 0) := (fe193 319).trans rfl
set_option maxRecDepth 10000 in
theorem f193_320 : gm_fetch 193 320 = some (322, .iload 9, 0, 0, 0, 0) := (fe193 320).trans rfl
set_option maxRecDepth 10000 in
theorem f193_322 : gm_fetch 193 322 = some (325, .invokestatic 97, 176, 116, 0, 0) := (fe193 322).trans rfl
set_option maxRecDepth 10000 in
theorem f193_325 : gm_fetch 193 325 = some (328, .ifCond .eq 17, 0, 342, 0, 0) := (fe193 325).trans rfl
set_option maxRecDepth 10000 in
theorem f193_328 : gm_fetch 193 328 = some (331, .ldc2_w 287, 13, 0, 0, 31) := (fe193 328).trans rfl
set_option maxRecDepth 10000 in
theorem f193_331 : gm_fetch 193 331 = some (332, .lload_n 1, 0, 0, 0, 0) := (fe193 331).trans rfl
set_option maxRecDepth 10000 in
theorem f193_332 : gm_fetch 193 332 = some (333, .lmul, 0, 0, 0, 0) := (fe193 332).trans rfl
set_option maxRecDepth 10000 in
theorem f193_333 : gm_fetch 193 333 = some (334, .aload_n 0, 0, 0, 0, 0) := (fe193 333).trans rfl
set_option maxRecDepth 10000 in
theorem f193_334 : gm_fetch 193 334 = some (336, .iload 9, 0, 0, 0, 0) := (fe193 334).trans rfl
set_option maxRecDepth 10000 in
theorem f193_336 : gm_fetch 193 336 = some (339, .invokevirtual 289, 236, 187, 0, 0) := (fe193 336).trans rfl
set_option maxRecDepth 10000 in
theorem f193_339 : gm_fetch 193 339 = some (340, .i2l, 0, 0, 0, 0) := (fe193 339).trans rfl
set_option maxRecDepth 10000 in
theorem f193_340 : gm_fetch 193 340 = some (341, .ladd, 0, 0, 0, 0) := (fe193 340).trans rfl
set_option maxRecDepth 10000 in
theorem f193_341 : gm_fetch 193 341 = some (342, .lstore_n 1, 0, 0, 0, 0) := (fe193 341).trans rfl
set_option maxRecDepth 10000 in
theorem f193_342 : gm_fetch 193 342 = some (345, .iinc 9 1, 0, 0, 0, 0) := (fe193 342).trans rfl
set_option maxRecDepth 10000 in
theorem f193_345 : gm_fetch 193 345 = some (348, .goto (-37), 0, 308, 0, 0) := (fe193 345).trans rfl
set_option maxRecDepth 10000 in
theorem f193_348 : gm_fetch 193 348 = some (349, .lload_n 1, 0, 0, 0, 0) := (fe193 348).trans rfl
set_option maxRecDepth 10000 in
theorem f193_349 : gm_fetch 193 349 = some (350, .lreturn, 0, 0, 0, 0) := (fe193 349).trans rfl
set_option maxRecDepth 10000 in
theorem rg193_0 {mi : Mi} {ml : Ml} {F : Int64 → Mi → Ml → Prop}   (h : Sg 142 0 [some (.ref 47)] [] mi ml (qv fun mi2 ml3 => Sg 193 10 [some (.ref 47), some (.long 17), none, some (.int 0), none, none, none, none, none, none, none] [] mi2 ml3 (ql F))) : Sg 193 0 [some (.ref 47), none, none, none, none, none, none, none, none, none, none] [] mi ml (ql F) := by
  refine sg_psh f193_0 (v := .long 17) (by decide) ?_
  refine sg_st2 f193_3 (ls' := [some (.ref 47), some (.long 17), none, none, none, none, none, none, none, none, none]) rfl rfl rfl ?_
  refine sg_ld f193_4 (v := .ref 47) rfl rfl ?_
  refine sg_cV f193_5 (vs := []) (r := 47) (rest := []) (en := [some (.ref 47)]) pq142 ⟨rfl, rfl⟩ rfl rfl rfl rfl rfl rfl h ?_
  intro _ mi2 ml3 h
  have h := gm_qv h
  refine sg_psh f193_8 (v := .int 0) (by decide) ?_
  refine sg_st1 f193_9 (ls' := [some (.ref 47), some (.long 17), none, some (.int 0), none, none, none, none, none, none, none]) rfl rfl rfl rfl ?_
  exact h

set_option maxRecDepth 10000 in
theorem rg193_10 {mi : Mi} {ml : Ml} {F : Int64 → Mi → Ml → Prop} {x1 : Int64} {x3 : Int32}  (h : ((8 ≤ x3) → Sg 163 0 [some (.ref 47), none, none, none, none, none, none, none, none] [] mi ml (ql fun y1 mi2 ml3 => Sg 164 0 [some (.ref 47), none, none, none, none, none] [] mi2 ml3 (ql fun y4 mi5 ml6 => Sg 152 0 [some (.ref 47), none] [] mi5 ml6 (qi fun y7 mi8 ml9 => Sg 159 0 [some (.ref 47), none, none, none, none] [] mi8 ml9 (qi fun y10 mi11 ml12 => Sg 161 0 [some (.ref 47), some (.int 0), none, none] [] mi11 ml12 (qi fun y13 mi14 ml15 => Sg 161 0 [some (.ref 47), some (.int 1), none, none] [] mi14 ml15 (qi fun y16 mi17 ml18 => Sg 119 0 [some (.long y1), none, none, none] [] mi17 ml18 (qi fun y19 mi20 ml21 => Sg 119 0 [some (.long y4), none, none, none] [] mi20 ml21 (qi fun y22 mi23 ml24 => Sg 167 0 [some (.ref 47), some (.int 0), none, none, none] [] mi23 ml24 (qi fun y25 mi26 ml27 => Sg 167 0 [some (.ref 47), some (.int 1), none, none, none] [] mi26 ml27 (qi fun y28 mi29 ml30 => Sg 178 0 [some (.ref 47), none, none, none] [] mi29 ml30 (ql fun y31 mi32 ml33 => Sg 193 165 [some (.ref 47), some (.long ((31 * ((31 * ((31 * ((31 * ((31 * ((31 * ((31 * ((31 * ((31 * x1) + (Int32.toInt64 y7))) + (Int32.toInt64 y10))) + (Int32.toInt64 y13))) + (Int32.toInt64 y16))) + (Int32.toInt64 y19))) + (Int32.toInt64 y22))) + (Int32.toInt64 y25))) + (Int32.toInt64 y28))) + y31)), none, some (.long y1), none, some (.long y4), none, some (.long y31), none, some (.int 0), none] [] mi32 ml33 (ql F))))))))))))) ∧ (¬ (8 ≤ x3) → Sg 190 0 [some (.ref 47), some (.int x3)] [] mi ml (qi fun y34 mi35 ml36 => Sg 193 10 [some (.ref 47), some (.long ((31 * x1) + (Int32.toInt64 y34))), none, some (.int (x3 + 1)), none, none, none, none, none, none, none] [] mi35 ml36 (ql F)))) : Sg 193 10 [some (.ref 47), some (.long x1), none, some (.int x3), none, none, none, none, none, none, none] [] mi ml (ql F) := by
  refine sg_ld f193_10 (v := .int x3) rfl rfl ?_
  refine sg_psh f193_11 (v := .int 8) (by decide) ?_
  refine sg_icmp f193_13 (fun c => ?_) (fun c => ?_)
  · have h := h.1 c
    refine sg_ld f193_35 (v := .ref 47) rfl rfl ?_
    refine sg_cV f193_36 (vs := []) (r := 47) (rest := []) (en := [some (.ref 47), none, none, none, none, none, none, none, none]) pq163 ⟨rfl, rfl⟩ rfl rfl rfl rfl rfl rfl h ?_
    rintro _ mi2 ml3 ⟨y1, rfl, h⟩
    refine sg_st2 f193_39 (ls' := [some (.ref 47), some (.long x1), none, some (.long y1), none, none, none, none, none, none, none]) rfl rfl rfl ?_
    refine sg_ld f193_40 (v := .ref 47) rfl rfl ?_
    refine sg_cV f193_41 (vs := []) (r := 47) (rest := []) (en := [some (.ref 47), none, none, none, none, none]) pq164 ⟨rfl, rfl⟩ rfl rfl rfl rfl rfl rfl h ?_
    rintro _ mi5 ml6 ⟨y4, rfl, h⟩
    refine sg_st2 f193_44 (ls' := [some (.ref 47), some (.long x1), none, some (.long y1), none, some (.long y4), none, none, none, none, none]) rfl rfl rfl ?_
    refine sg_psh f193_46 (v := .long 31) (by decide) ?_
    refine sg_ld f193_49 (v := .long x1) rfl rfl ?_
    refine sg_binl f193_50 rfl ?_
    refine sg_ld f193_51 (v := .ref 47) rfl rfl ?_
    refine sg_cV f193_52 (vs := []) (r := 47) (rest := [.long (31 * x1)]) (en := [some (.ref 47), none]) pq152 ⟨rfl, rfl⟩ rfl rfl rfl rfl rfl rfl h ?_
    rintro _ mi8 ml9 ⟨y7, rfl, h⟩
    refine sg_i2l f193_55 ?_
    refine sg_binl f193_56 rfl ?_
    refine sg_st2 f193_57 (ls' := [some (.ref 47), some (.long ((31 * x1) + (Int32.toInt64 y7))), none, some (.long y1), none, some (.long y4), none, none, none, none, none]) rfl rfl rfl ?_
    refine sg_psh f193_58 (v := .long 31) (by decide) ?_
    refine sg_ld f193_61 (v := .long ((31 * x1) + (Int32.toInt64 y7))) rfl rfl ?_
    refine sg_binl f193_62 rfl ?_
    refine sg_ld f193_63 (v := .ref 47) rfl rfl ?_
    refine sg_cV f193_64 (vs := []) (r := 47) (rest := [.long (31 * ((31 * x1) + (Int32.toInt64 y7)))]) (en := [some (.ref 47), none, none, none, none]) pq159 ⟨rfl, rfl⟩ rfl rfl rfl rfl rfl rfl h ?_
    rintro _ mi11 ml12 ⟨y10, rfl, h⟩
    refine sg_i2l f193_67 ?_
    refine sg_binl f193_68 rfl ?_
    refine sg_st2 f193_69 (ls' := [some (.ref 47), some (.long ((31 * ((31 * x1) + (Int32.toInt64 y7))) + (Int32.toInt64 y10))), none, some (.long y1), none, some (.long y4), none, none, none, none, none]) rfl rfl rfl ?_
    refine sg_psh f193_70 (v := .long 31) (by decide) ?_
    refine sg_ld f193_73 (v := .long ((31 * ((31 * x1) + (Int32.toInt64 y7))) + (Int32.toInt64 y10))) rfl rfl ?_
    refine sg_binl f193_74 rfl ?_
    refine sg_ld f193_75 (v := .ref 47) rfl rfl ?_
    refine sg_psh f193_76 (v := .int 0) (by decide) ?_
    refine sg_cV f193_77 (vs := [.int 0]) (r := 47) (rest := [.long (31 * ((31 * ((31 * x1) + (Int32.toInt64 y7))) + (Int32.toInt64 y10)))]) (en := [some (.ref 47), some (.int 0), none, none]) pq161 ⟨rfl, rfl⟩ rfl rfl rfl rfl rfl rfl h ?_
    rintro _ mi14 ml15 ⟨y13, rfl, h⟩
    refine sg_i2l f193_80 ?_
    refine sg_binl f193_81 rfl ?_
    refine sg_st2 f193_82 (ls' := [some (.ref 47), some (.long ((31 * ((31 * ((31 * x1) + (Int32.toInt64 y7))) + (Int32.toInt64 y10))) + (Int32.toInt64 y13))), none, some (.long y1), none, some (.long y4), none, none, none, none, none]) rfl rfl rfl ?_
    refine sg_psh f193_83 (v := .long 31) (by decide) ?_
    refine sg_ld f193_86 (v := .long ((31 * ((31 * ((31 * x1) + (Int32.toInt64 y7))) + (Int32.toInt64 y10))) + (Int32.toInt64 y13))) rfl rfl ?_
    refine sg_binl f193_87 rfl ?_
    refine sg_ld f193_88 (v := .ref 47) rfl rfl ?_
    refine sg_psh f193_89 (v := .int 1) (by decide) ?_
    refine sg_cV f193_90 (vs := [.int 1]) (r := 47) (rest := [.long (31 * ((31 * ((31 * ((31 * x1) + (Int32.toInt64 y7))) + (Int32.toInt64 y10))) + (Int32.toInt64 y13)))]) (en := [some (.ref 47), some (.int 1), none, none]) pq161 ⟨rfl, rfl⟩ rfl rfl rfl rfl rfl rfl h ?_
    rintro _ mi17 ml18 ⟨y16, rfl, h⟩
    refine sg_i2l f193_93 ?_
    refine sg_binl f193_94 rfl ?_
    refine sg_st2 f193_95 (ls' := [some (.ref 47), some (.long ((31 * ((31 * ((31 * ((31 * x1) + (Int32.toInt64 y7))) + (Int32.toInt64 y10))) + (Int32.toInt64 y13))) + (Int32.toInt64 y16))), none, some (.long y1), none, some (.long y4), none, none, none, none, none]) rfl rfl rfl ?_
    refine sg_psh f193_96 (v := .long 31) (by decide) ?_
    refine sg_ld f193_99 (v := .long ((31 * ((31 * ((31 * ((31 * x1) + (Int32.toInt64 y7))) + (Int32.toInt64 y10))) + (Int32.toInt64 y13))) + (Int32.toInt64 y16))) rfl rfl ?_
    refine sg_binl f193_100 rfl ?_
    refine sg_ld f193_101 (v := .long y1) rfl rfl ?_
    refine sg_cS f193_102 (vs := [.long y1]) (rest := [.long (31 * ((31 * ((31 * ((31 * ((31 * x1) + (Int32.toInt64 y7))) + (Int32.toInt64 y10))) + (Int32.toInt64 y13))) + (Int32.toInt64 y16)))]) (en := [some (.long y1), none, none, none]) (by decide) pq119 ⟨rfl, rfl⟩ rfl rfl rfl rfl rfl h ?_
    rintro _ mi20 ml21 ⟨y19, rfl, h⟩
    refine sg_i2l f193_105 ?_
    refine sg_binl f193_106 rfl ?_
    refine sg_st2 f193_107 (ls' := [some (.ref 47), some (.long ((31 * ((31 * ((31 * ((31 * ((31 * x1) + (Int32.toInt64 y7))) + (Int32.toInt64 y10))) + (Int32.toInt64 y13))) + (Int32.toInt64 y16))) + (Int32.toInt64 y19))), none, some (.long y1), none, some (.long y4), none, none, none, none, none]) rfl rfl rfl ?_
    refine sg_psh f193_108 (v := .long 31) (by decide) ?_
    refine sg_ld f193_111 (v := .long ((31 * ((31 * ((31 * ((31 * ((31 * x1) + (Int32.toInt64 y7))) + (Int32.toInt64 y10))) + (Int32.toInt64 y13))) + (Int32.toInt64 y16))) + (Int32.toInt64 y19))) rfl rfl ?_
    refine sg_binl f193_112 rfl ?_
    refine sg_ld f193_113 (v := .long y4) rfl rfl ?_
    refine sg_cS f193_115 (vs := [.long y4]) (rest := [.long (31 * ((31 * ((31 * ((31 * ((31 * ((31 * x1) + (Int32.toInt64 y7))) + (Int32.toInt64 y10))) + (Int32.toInt64 y13))) + (Int32.toInt64 y16))) + (Int32.toInt64 y19)))]) (en := [some (.long y4), none, none, none]) (by decide) pq119 ⟨rfl, rfl⟩ rfl rfl rfl rfl rfl h ?_
    rintro _ mi23 ml24 ⟨y22, rfl, h⟩
    refine sg_i2l f193_118 ?_
    refine sg_binl f193_119 rfl ?_
    refine sg_st2 f193_120 (ls' := [some (.ref 47), some (.long ((31 * ((31 * ((31 * ((31 * ((31 * ((31 * x1) + (Int32.toInt64 y7))) + (Int32.toInt64 y10))) + (Int32.toInt64 y13))) + (Int32.toInt64 y16))) + (Int32.toInt64 y19))) + (Int32.toInt64 y22))), none, some (.long y1), none, some (.long y4), none, none, none, none, none]) rfl rfl rfl ?_
    refine sg_psh f193_121 (v := .long 31) (by decide) ?_
    refine sg_ld f193_124 (v := .long ((31 * ((31 * ((31 * ((31 * ((31 * ((31 * x1) + (Int32.toInt64 y7))) + (Int32.toInt64 y10))) + (Int32.toInt64 y13))) + (Int32.toInt64 y16))) + (Int32.toInt64 y19))) + (Int32.toInt64 y22))) rfl rfl ?_
    refine sg_binl f193_125 rfl ?_
    refine sg_ld f193_126 (v := .ref 47) rfl rfl ?_
    refine sg_psh f193_127 (v := .int 0) (by decide) ?_
    refine sg_cV f193_128 (vs := [.int 0]) (r := 47) (rest := [.long (31 * ((31 * ((31 * ((31 * ((31 * ((31 * ((31 * x1) + (Int32.toInt64 y7))) + (Int32.toInt64 y10))) + (Int32.toInt64 y13))) + (Int32.toInt64 y16))) + (Int32.toInt64 y19))) + (Int32.toInt64 y22)))]) (en := [some (.ref 47), some (.int 0), none, none, none]) pq167 ⟨rfl, rfl⟩ rfl rfl rfl rfl rfl rfl h ?_
    rintro _ mi26 ml27 ⟨y25, rfl, h⟩
    refine sg_i2l f193_131 ?_
    refine sg_binl f193_132 rfl ?_
    refine sg_st2 f193_133 (ls' := [some (.ref 47), some (.long ((31 * ((31 * ((31 * ((31 * ((31 * ((31 * ((31 * x1) + (Int32.toInt64 y7))) + (Int32.toInt64 y10))) + (Int32.toInt64 y13))) + (Int32.toInt64 y16))) + (Int32.toInt64 y19))) + (Int32.toInt64 y22))) + (Int32.toInt64 y25))), none, some (.long y1), none, some (.long y4), none, none, none, none, none]) rfl rfl rfl ?_
    refine sg_psh f193_134 (v := .long 31) (by decide) ?_
    refine sg_ld f193_137 (v := .long ((31 * ((31 * ((31 * ((31 * ((31 * ((31 * ((31 * x1) + (Int32.toInt64 y7))) + (Int32.toInt64 y10))) + (Int32.toInt64 y13))) + (Int32.toInt64 y16))) + (Int32.toInt64 y19))) + (Int32.toInt64 y22))) + (Int32.toInt64 y25))) rfl rfl ?_
    refine sg_binl f193_138 rfl ?_
    refine sg_ld f193_139 (v := .ref 47) rfl rfl ?_
    refine sg_psh f193_140 (v := .int 1) (by decide) ?_
    refine sg_cV f193_141 (vs := [.int 1]) (r := 47) (rest := [.long (31 * ((31 * ((31 * ((31 * ((31 * ((31 * ((31 * ((31 * x1) + (Int32.toInt64 y7))) + (Int32.toInt64 y10))) + (Int32.toInt64 y13))) + (Int32.toInt64 y16))) + (Int32.toInt64 y19))) + (Int32.toInt64 y22))) + (Int32.toInt64 y25)))]) (en := [some (.ref 47), some (.int 1), none, none, none]) pq167 ⟨rfl, rfl⟩ rfl rfl rfl rfl rfl rfl h ?_
    rintro _ mi29 ml30 ⟨y28, rfl, h⟩
    refine sg_i2l f193_144 ?_
    refine sg_binl f193_145 rfl ?_
    refine sg_st2 f193_146 (ls' := [some (.ref 47), some (.long ((31 * ((31 * ((31 * ((31 * ((31 * ((31 * ((31 * ((31 * x1) + (Int32.toInt64 y7))) + (Int32.toInt64 y10))) + (Int32.toInt64 y13))) + (Int32.toInt64 y16))) + (Int32.toInt64 y19))) + (Int32.toInt64 y22))) + (Int32.toInt64 y25))) + (Int32.toInt64 y28))), none, some (.long y1), none, some (.long y4), none, none, none, none, none]) rfl rfl rfl ?_
    refine sg_ld f193_147 (v := .ref 47) rfl rfl ?_
    refine sg_cV f193_148 (vs := []) (r := 47) (rest := []) (en := [some (.ref 47), none, none, none]) pq178 ⟨rfl, rfl⟩ rfl rfl rfl rfl rfl rfl h ?_
    rintro _ mi32 ml33 ⟨y31, rfl, h⟩
    refine sg_st2 f193_151 (ls' := [some (.ref 47), some (.long ((31 * ((31 * ((31 * ((31 * ((31 * ((31 * ((31 * ((31 * x1) + (Int32.toInt64 y7))) + (Int32.toInt64 y10))) + (Int32.toInt64 y13))) + (Int32.toInt64 y16))) + (Int32.toInt64 y19))) + (Int32.toInt64 y22))) + (Int32.toInt64 y25))) + (Int32.toInt64 y28))), none, some (.long y1), none, some (.long y4), none, some (.long y31), none, none, none]) rfl rfl rfl ?_
    refine sg_psh f193_153 (v := .long 31) (by decide) ?_
    refine sg_ld f193_156 (v := .long ((31 * ((31 * ((31 * ((31 * ((31 * ((31 * ((31 * ((31 * x1) + (Int32.toInt64 y7))) + (Int32.toInt64 y10))) + (Int32.toInt64 y13))) + (Int32.toInt64 y16))) + (Int32.toInt64 y19))) + (Int32.toInt64 y22))) + (Int32.toInt64 y25))) + (Int32.toInt64 y28))) rfl rfl ?_
    refine sg_binl f193_157 rfl ?_
    refine sg_ld f193_158 (v := .long y31) rfl rfl ?_
    refine sg_binl f193_160 rfl ?_
    refine sg_st2 f193_161 (ls' := [some (.ref 47), some (.long ((31 * ((31 * ((31 * ((31 * ((31 * ((31 * ((31 * ((31 * ((31 * x1) + (Int32.toInt64 y7))) + (Int32.toInt64 y10))) + (Int32.toInt64 y13))) + (Int32.toInt64 y16))) + (Int32.toInt64 y19))) + (Int32.toInt64 y22))) + (Int32.toInt64 y25))) + (Int32.toInt64 y28))) + y31)), none, some (.long y1), none, some (.long y4), none, some (.long y31), none, none, none]) rfl rfl rfl ?_
    refine sg_psh f193_162 (v := .int 0) (by decide) ?_
    refine sg_st1 f193_163 (ls' := [some (.ref 47), some (.long ((31 * ((31 * ((31 * ((31 * ((31 * ((31 * ((31 * ((31 * ((31 * x1) + (Int32.toInt64 y7))) + (Int32.toInt64 y10))) + (Int32.toInt64 y13))) + (Int32.toInt64 y16))) + (Int32.toInt64 y19))) + (Int32.toInt64 y22))) + (Int32.toInt64 y25))) + (Int32.toInt64 y28))) + y31)), none, some (.long y1), none, some (.long y4), none, some (.long y31), none, some (.int 0), none]) rfl rfl rfl rfl ?_
    exact h
  · have h := h.2 c
    refine sg_psh f193_16 (v := .long 31) (by decide) ?_
    refine sg_ld f193_19 (v := .long x1) rfl rfl ?_
    refine sg_binl f193_20 rfl ?_
    refine sg_ld f193_21 (v := .ref 47) rfl rfl ?_
    refine sg_ld f193_22 (v := .int x3) rfl rfl ?_
    refine sg_cV f193_23 (vs := [.int x3]) (r := 47) (rest := [.long (31 * x1)]) (en := [some (.ref 47), some (.int x3)]) pq190 ⟨rfl, rfl⟩ rfl rfl rfl rfl rfl rfl h ?_
    rintro _ mi35 ml36 ⟨y34, rfl, h⟩
    refine sg_i2l f193_26 ?_
    refine sg_binl f193_27 rfl ?_
    refine sg_st2 f193_28 (ls' := [some (.ref 47), some (.long ((31 * x1) + (Int32.toInt64 y34))), none, some (.int x3), none, none, none, none, none, none, none]) rfl rfl rfl ?_
    refine sg_inc f193_29 (d := 1) (ls' := [some (.ref 47), some (.long ((31 * x1) + (Int32.toInt64 y34))), none, some (.int (x3 + 1)), none, none, none, none, none, none, none]) rfl (by decide) rfl ?_
    refine sg_goto f193_32 ?_
    exact h

set_option maxRecDepth 10000 in
theorem rg193_165 {mi : Mi} {ml : Ml} {F : Int64 → Mi → Ml → Prop} {x1 : Int64} {x3 : Int64} {x5 : Int64} {x7 : Int64} {x9 : Int32}  (h : (((mi 47 5) ≤ x9) → Sg 193 231 [some (.ref 47), some (.long x1), none, some (.long x3), none, some (.long x5), none, some (.long x7), none, some (.int 0), none] [] mi ml (ql F)) ∧ (¬ ((mi 47 5) ≤ x9) → Sg 157 0 [some (.ref 47), some (.int x9), none, none] [] mi ml (qi fun y1 mi2 ml3 => Sg 193 191 [some (.ref 47), some (.long ((31 * x1) + (Int32.toInt64 y1))), none, some (.long x3), none, some (.long x5), none, some (.long x7), none, some (.int x9), some (.int 0)] [] mi2 ml3 (ql F)))) : Sg 193 165 [some (.ref 47), some (.long x1), none, some (.long x3), none, some (.long x5), none, some (.long x7), none, some (.int x9), none] [] mi ml (ql F) := by
  refine sg_ld f193_165 (v := .int x9) rfl rfl ?_
  refine sg_ld f193_167 (v := .ref 47) rfl rfl ?_
  refine sg_geti f193_168 rfl rfl (x := (mi 47 5)) rfl ?_
  refine sg_icmp f193_171 (fun c => ?_) (fun c => ?_)
  · have h := h.1 c
    refine sg_psh f193_228 (v := .int 0) (by decide) ?_
    refine sg_st1 f193_229 (ls' := [some (.ref 47), some (.long x1), none, some (.long x3), none, some (.long x5), none, some (.long x7), none, some (.int 0), none]) rfl rfl rfl rfl ?_
    exact h
  · have h := h.2 c
    refine sg_psh f193_174 (v := .long 31) (by decide) ?_
    refine sg_ld f193_177 (v := .long x1) rfl rfl ?_
    refine sg_binl f193_178 rfl ?_
    refine sg_ld f193_179 (v := .ref 47) rfl rfl ?_
    refine sg_ld f193_180 (v := .int x9) rfl rfl ?_
    refine sg_cV f193_182 (vs := [.int x9]) (r := 47) (rest := [.long (31 * x1)]) (en := [some (.ref 47), some (.int x9), none, none]) pq157 ⟨rfl, rfl⟩ rfl rfl rfl rfl rfl rfl h ?_
    rintro _ mi2 ml3 ⟨y1, rfl, h⟩
    refine sg_i2l f193_185 ?_
    refine sg_binl f193_186 rfl ?_
    refine sg_st2 f193_187 (ls' := [some (.ref 47), some (.long ((31 * x1) + (Int32.toInt64 y1))), none, some (.long x3), none, some (.long x5), none, some (.long x7), none, some (.int x9), none]) rfl rfl rfl ?_
    refine sg_psh f193_188 (v := .int 0) (by decide) ?_
    refine sg_st1 f193_189 (ls' := [some (.ref 47), some (.long ((31 * x1) + (Int32.toInt64 y1))), none, some (.long x3), none, some (.long x5), none, some (.long x7), none, some (.int x9), some (.int 0)]) rfl rfl rfl rfl ?_
    exact h

set_option maxRecDepth 10000 in
theorem rg193_191 {mi : Mi} {ml : Ml} {F : Int64 → Mi → Ml → Prop} {x1 : Int64} {x3 : Int64} {x5 : Int64} {x7 : Int64} {x9 : Int32} {x10 : Int32}  (h : (((mi 47 7) ≤ x10) → Sg 193 165 [some (.ref 47), some (.long x1), none, some (.long x3), none, some (.long x5), none, some (.long x7), none, some (.int (x9 + 1)), none] [] mi ml (ql F)) ∧ (¬ ((mi 47 7) ≤ x10) → Sg 155 0 [some (.ref 47), some (.int x9), some (.int x10)] [] mi ml (qi fun y1 mi2 ml3 => Sg 193 191 [some (.ref 47), some (.long ((31 * x1) + (Int32.toInt64 y1))), none, some (.long x3), none, some (.long x5), none, some (.long x7), none, some (.int x9), some (.int (x10 + 1))] [] mi2 ml3 (ql F)))) : Sg 193 191 [some (.ref 47), some (.long x1), none, some (.long x3), none, some (.long x5), none, some (.long x7), none, some (.int x9), some (.int x10)] [] mi ml (ql F) := by
  refine sg_ld f193_191 (v := .int x10) rfl rfl ?_
  refine sg_ld f193_193 (v := .ref 47) rfl rfl ?_
  refine sg_geti f193_194 rfl rfl (x := (mi 47 7)) rfl ?_
  refine sg_icmp f193_197 (fun c => ?_) (fun c => ?_)
  · have h := h.1 c
    refine sg_inc f193_222 (d := 1) (ls' := [some (.ref 47), some (.long x1), none, some (.long x3), none, some (.long x5), none, some (.long x7), none, some (.int (x9 + 1)), some (.int x10)]) rfl (by decide) rfl ?_
    refine sg_goto f193_225 ?_
    exact sg_drop [10] rfl h
  · have h := h.2 c
    refine sg_psh f193_200 (v := .long 31) (by decide) ?_
    refine sg_ld f193_203 (v := .long x1) rfl rfl ?_
    refine sg_binl f193_204 rfl ?_
    refine sg_ld f193_205 (v := .ref 47) rfl rfl ?_
    refine sg_ld f193_206 (v := .int x9) rfl rfl ?_
    refine sg_ld f193_208 (v := .int x10) rfl rfl ?_
    refine sg_cV f193_210 (vs := [.int x9, .int x10]) (r := 47) (rest := [.long (31 * x1)]) (en := [some (.ref 47), some (.int x9), some (.int x10)]) pq155 ⟨rfl, rfl⟩ rfl rfl rfl rfl rfl rfl h ?_
    rintro _ mi2 ml3 ⟨y1, rfl, h⟩
    refine sg_i2l f193_213 ?_
    refine sg_binl f193_214 rfl ?_
    refine sg_st2 f193_215 (ls' := [some (.ref 47), some (.long ((31 * x1) + (Int32.toInt64 y1))), none, some (.long x3), none, some (.long x5), none, some (.long x7), none, some (.int x9), some (.int x10)]) rfl rfl rfl ?_
    refine sg_inc f193_216 (d := 1) (ls' := [some (.ref 47), some (.long ((31 * x1) + (Int32.toInt64 y1))), none, some (.long x3), none, some (.long x5), none, some (.long x7), none, some (.int x9), some (.int (x10 + 1))]) rfl (by decide) rfl ?_
    refine sg_goto f193_219 ?_
    exact h

set_option maxRecDepth 10000 in
theorem rg193_231 {mi : Mi} {ml : Ml} {F : Int64 → Mi → Ml → Prop} {x1 : Int64} {x3 : Int64} {x5 : Int64} {x7 : Int64} {x9 : Int32}  (h : ((((mi 47 5) * (mi 47 6)) ≤ x9) → Sg 193 308 [some (.ref 47), some (.long x1), none, some (.long x3), none, some (.long x5), none, some (.long x7), none, some (.int 0), none] [] mi ml (ql F)) ∧ (¬ (((mi 47 5) * (mi 47 6)) ≤ x9) → Sg 193 248 [some (.ref 47), some (.long x1), none, some (.long x3), none, some (.long x5), none, some (.long x7), none, some (.int x9), some (.int 0)] [] mi ml (ql F))) : Sg 193 231 [some (.ref 47), some (.long x1), none, some (.long x3), none, some (.long x5), none, some (.long x7), none, some (.int x9), none] [] mi ml (ql F) := by
  refine sg_ld f193_231 (v := .int x9) rfl rfl ?_
  refine sg_ld f193_233 (v := .ref 47) rfl rfl ?_
  refine sg_geti f193_234 rfl rfl (x := (mi 47 5)) rfl ?_
  refine sg_ld f193_237 (v := .ref 47) rfl rfl ?_
  refine sg_geti f193_238 rfl rfl (x := (mi 47 6)) rfl ?_
  refine sg_bin f193_241 rfl ?_
  refine sg_icmp f193_242 (fun c => ?_) (fun c => ?_)
  · have h := h.1 c
    refine sg_psh f193_305 (v := .int 0) (by decide) ?_
    refine sg_st1 f193_306 (ls' := [some (.ref 47), some (.long x1), none, some (.long x3), none, some (.long x5), none, some (.long x7), none, some (.int 0), none]) rfl rfl rfl rfl ?_
    exact h
  · have h := h.2 c
    refine sg_psh f193_245 (v := .int 0) (by decide) ?_
    refine sg_st1 f193_246 (ls' := [some (.ref 47), some (.long x1), none, some (.long x3), none, some (.long x5), none, some (.long x7), none, some (.int x9), some (.int 0)]) rfl rfl rfl rfl ?_
    exact h

set_option maxRecDepth 10000 in
theorem rg193_248 {mi : Mi} {ml : Ml} {F : Int64 → Mi → Ml → Prop} {x1 : Int64} {x3 : Int64} {x5 : Int64} {x7 : Int64} {x9 : Int32} {x10 : Int32}  (h : ((5 ≤ x10) → Sg 193 231 [some (.ref 47), some (.long x1), none, some (.long x3), none, some (.long x5), none, some (.long x7), none, some (.int (x9 + 1)), none] [] mi ml (ql F)) ∧ (¬ (5 ≤ x10) → ((¬ x10 = 2) → ((¬ x10 = 3) → Sg 193 287 [some (.ref 47), some (.long x1), none, some (.long x3), none, some (.long x5), none, some (.long x7), none, some (.int x9), some (.int x10)] [.long x7, .int x10, .int x9, .ref 47, .long (31 * x1)] mi ml (ql F)) ∧ (¬ (¬ x10 = 3) → Sg 193 287 [some (.ref 47), some (.long x1), none, some (.long x3), none, some (.long x5), none, some (.long x7), none, some (.int x9), some (.int x10)] [.long x3, .int x10, .int x9, .ref 47, .long (31 * x1)] mi ml (ql F))) ∧ (¬ (¬ x10 = 2) → Sg 193 287 [some (.ref 47), some (.long x1), none, some (.long x3), none, some (.long x5), none, some (.long x7), none, some (.int x9), some (.int x10)] [.long x5, .int x10, .int x9, .ref 47, .long (31 * x1)] mi ml (ql F)))) : Sg 193 248 [some (.ref 47), some (.long x1), none, some (.long x3), none, some (.long x5), none, some (.long x7), none, some (.int x9), some (.int x10)] [] mi ml (ql F) := by
  refine sg_ld f193_248 (v := .int x10) rfl rfl ?_
  refine sg_psh f193_250 (v := .int 5) (by decide) ?_
  refine sg_icmp f193_251 (fun c => ?_) (fun c => ?_)
  · have h := h.1 c
    refine sg_inc f193_299 (d := 1) (ls' := [some (.ref 47), some (.long x1), none, some (.long x3), none, some (.long x5), none, some (.long x7), none, some (.int (x9 + 1)), some (.int x10)]) rfl (by decide) rfl ?_
    refine sg_goto f193_302 ?_
    exact sg_drop [10] rfl h
  · have h := h.2 c
    refine sg_psh f193_254 (v := .long 31) (by decide) ?_
    refine sg_ld f193_257 (v := .long x1) rfl rfl ?_
    refine sg_binl f193_258 rfl ?_
    refine sg_ld f193_259 (v := .ref 47) rfl rfl ?_
    refine sg_ld f193_260 (v := .int x9) rfl rfl ?_
    refine sg_ld f193_262 (v := .int x10) rfl rfl ?_
    refine sg_ld f193_264 (v := .int x10) rfl rfl ?_
    refine sg_psh f193_266 (v := .int 2) (by decide) ?_
    refine sg_icmp f193_267 (fun c => ?_) (fun c => ?_)
    · have h := h.1 c
      refine sg_ld f193_275 (v := .int x10) rfl rfl ?_
      refine sg_psh f193_277 (v := .int 3) (by decide) ?_
      refine sg_icmp f193_278 (fun c => ?_) (fun c => ?_)
      · have h := h.1 c
        refine sg_ld f193_285 (v := .long x7) rfl rfl ?_
        exact h
      · have h := h.2 c
        refine sg_ld f193_281 (v := .long x3) rfl rfl ?_
        refine sg_goto f193_282 ?_
        exact h
    · have h := h.2 c
      refine sg_ld f193_270 (v := .long x5) rfl rfl ?_
      refine sg_goto f193_272 ?_
      exact h

set_option maxRecDepth 10000 in
theorem rg193_287 {mi : Mi} {ml : Ml} {F : Int64 → Mi → Ml → Prop} {x1 : Int64} {x3 : Int64} {x5 : Int64} {x7 : Int64} {x9 : Int32} {x10 : Int32} {s0 : Int64} {s1 : Int32} {s2 : Int32} {s4 : Int64}  (h : Sg 181 0 [some (.ref 47), some (.int s2), some (.int s1), some (.long s0), none] [] mi ml (qi fun y1 mi2 ml3 => Sg 193 248 [some (.ref 47), some (.long (s4 + (Int32.toInt64 y1))), none, some (.long x3), none, some (.long x5), none, some (.long x7), none, some (.int x9), some (.int (x10 + 1))] [] mi2 ml3 (ql F))) : Sg 193 287 [some (.ref 47), some (.long x1), none, some (.long x3), none, some (.long x5), none, some (.long x7), none, some (.int x9), some (.int x10)] [.long s0, .int s1, .int s2, .ref 47, .long s4] mi ml (ql F) := by
  refine sg_cV f193_287 (vs := [.int s2, .int s1, .long s0]) (r := 47) (rest := [.long s4]) (en := [some (.ref 47), some (.int s2), some (.int s1), some (.long s0), none]) pq181 ⟨rfl, rfl⟩ rfl rfl rfl rfl rfl rfl h ?_
  rintro _ mi2 ml3 ⟨y1, rfl, h⟩
  refine sg_i2l f193_290 ?_
  refine sg_binl f193_291 rfl ?_
  refine sg_st2 f193_292 (ls' := [some (.ref 47), some (.long (s4 + (Int32.toInt64 y1))), none, some (.long x3), none, some (.long x5), none, some (.long x7), none, some (.int x9), some (.int x10)]) rfl rfl rfl ?_
  refine sg_inc f193_293 (d := 1) (ls' := [some (.ref 47), some (.long (s4 + (Int32.toInt64 y1))), none, some (.long x3), none, some (.long x5), none, some (.long x7), none, some (.int x9), some (.int (x10 + 1))]) rfl (by decide) rfl ?_
  refine sg_goto f193_296 ?_
  exact h

set_option maxRecDepth 10000 in
theorem rg193_308 {mi : Mi} {ml : Ml} {F : Int64 → Mi → Ml → Prop} {x1 : Int64} {x3 : Int64} {x5 : Int64} {x7 : Int64} {x9 : Int32}  (h : ((6 ≤ x9) → F x1 mi ml) ∧ (¬ (6 ≤ x9) → Sg 116 0 [some (.long (Int32.toInt64 (mi 47 28))), none, some (.int x9)] [] mi ml (qi fun y1 mi2 ml3 => ((y1 = 0) → Sg 193 308 [some (.ref 47), some (.long x1), none, some (.long x3), none, some (.long x5), none, some (.long x7), none, some (.int (x9 + 1)), none] [] mi2 ml3 (ql F)) ∧ (¬ (y1 = 0) → Sg 187 0 [some (.ref 47), some (.int x9), none, none, none] [] mi2 ml3 (qi fun y4 mi5 ml6 => Sg 193 308 [some (.ref 47), some (.long ((31 * x1) + (Int32.toInt64 y4))), none, some (.long x3), none, some (.long x5), none, some (.long x7), none, some (.int (x9 + 1)), none] [] mi5 ml6 (ql F)))))) : Sg 193 308 [some (.ref 47), some (.long x1), none, some (.long x3), none, some (.long x5), none, some (.long x7), none, some (.int x9), none] [] mi ml (ql F) := by
  refine sg_ld f193_308 (v := .int x9) rfl rfl ?_
  refine sg_psh f193_310 (v := .int 6) (by decide) ?_
  refine sg_icmp f193_312 (fun c => ?_) (fun c => ?_)
  · have h := h.1 c
    refine sg_ld f193_348 (v := .long x1) rfl rfl ?_
    exact sg_lret f193_349 pq193 rfl ⟨_, rfl, h⟩
  · have h := h.2 c
    refine sg_ld f193_315 (v := .ref 47) rfl rfl ?_
    refine sg_geti f193_316 rfl rfl (x := (mi 47 28)) rfl ?_
    refine sg_i2l f193_319 ?_
    refine sg_ld f193_320 (v := .int x9) rfl rfl ?_
    refine sg_cS f193_322 (vs := [.long (Int32.toInt64 (mi 47 28)), .int x9]) (rest := []) (en := [some (.long (Int32.toInt64 (mi 47 28))), none, some (.int x9)]) (by decide) pq116 ⟨rfl, rfl⟩ rfl rfl rfl rfl rfl h ?_
    rintro _ mi2 ml3 ⟨y1, rfl, h⟩
    refine sg_if f193_325 (fun c => ?_) (fun c => ?_)
    · have h := h.1 c
      refine sg_inc f193_342 (d := 1) (ls' := [some (.ref 47), some (.long x1), none, some (.long x3), none, some (.long x5), none, some (.long x7), none, some (.int (x9 + 1)), none]) rfl (by decide) rfl ?_
      refine sg_goto f193_345 ?_
      exact h
    · have h := h.2 c
      refine sg_psh f193_328 (v := .long 31) (by decide) ?_
      refine sg_ld f193_331 (v := .long x1) rfl rfl ?_
      refine sg_binl f193_332 rfl ?_
      refine sg_ld f193_333 (v := .ref 47) rfl rfl ?_
      refine sg_ld f193_334 (v := .int x9) rfl rfl ?_
      refine sg_cV f193_336 (vs := [.int x9]) (r := 47) (rest := [.long (31 * x1)]) (en := [some (.ref 47), some (.int x9), none, none, none]) pq187 ⟨rfl, rfl⟩ rfl rfl rfl rfl rfl rfl h ?_
      rintro _ mi5 ml6 ⟨y4, rfl, h⟩
      refine sg_i2l f193_339 ?_
      refine sg_binl f193_340 rfl ?_
      refine sg_st2 f193_341 (ls' := [some (.ref 47), some (.long ((31 * x1) + (Int32.toInt64 y4))), none, some (.long x3), none, some (.long x5), none, some (.long x7), none, some (.int x9), none]) rfl rfl rfl ?_
      refine sg_inc f193_342 (d := 1) (ls' := [some (.ref 47), some (.long ((31 * x1) + (Int32.toInt64 y4))), none, some (.long x3), none, some (.long x5), none, some (.long x7), none, some (.int (x9 + 1)), none]) rfl (by decide) rfl ?_
      refine sg_goto f193_345 ?_
      exact h

