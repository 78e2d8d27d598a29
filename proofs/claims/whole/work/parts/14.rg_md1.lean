/-! X7_in (JJJ)Z -/
theorem fe114 (pc : Nat) : gm_fetch 114 pc = gm_find pc cd_114 := rfl
theorem f114_0 : gm_fetch 114 0 = some (1, .lload_n 0, 0, 0, 0, 0) := (fe114 0).trans rfl
theorem f114_1 : gm_fetch 114 1 = some (2, .lload_n 2, 0, 0, 0, 0) := (fe114 1).trans rfl
theorem f114_2 : gm_fetch 114 2 = some (3, .lcmp, 0, 0, 0, 0) := (fe114 2).trans rfl
theorem f114_3 : gm_fetch 114 3 = some (6, .ifCond .lt 14, 0, 17, 0, 0) := (fe114 3).trans rfl
theorem f114_6 : gm_fetch 114 6 = some (7, .lload_n 0, 0, 0, 0, 0) := (fe114 6).trans rfl
theorem f114_7 : gm_fetch 114 7 = some (9, .lload 4, 0, 0, 0, 0) := (fe114 7).trans rfl
theorem f114_9 : gm_fetch 114 9 = some (10, .lcmp, 0, 0, 0, 0) := (fe114 9).trans rfl
theorem f114_10 : gm_fetch 114 10 = some (13, .ifCond .gt 7, 0, 17, 0, 0) := (fe114 10).trans rfl
theorem f114_13 : gm_fetch 114 13 = some (14, .iconst 1, 0, 0, 0, 0) := (fe114 13).trans rfl
theorem f114_14 : gm_fetch 114 14 = some (17, .goto 4, 0, 18, 0, 0) := (fe114 14).trans rfl
theorem f114_17 : gm_fetch 114 17 = some (18, .iconst 0, 0, 0, 0, 0) := (fe114 17).trans rfl
theorem f114_18 : gm_fetch 114 18 = some (19, .ireturn, 0, 0, 0, 0) := (fe114 18).trans rfl
set_option maxRecDepth 10000 in
theorem rg114_0 {mi : Mi} {ml : Ml} {F : Int32 → Mi → Ml → Prop} {x0 : Int64} {x2 : Int64} {x4 : Int64}  (h : (((lg_cmp x0 x2) < 0) → F 0 mi ml) ∧ (¬ ((lg_cmp x0 x2) < 0) → ((0 < (lg_cmp x0 x4)) → F 0 mi ml) ∧ (¬ (0 < (lg_cmp x0 x4)) → F 1 mi ml))) : Sg 114 0 [some (.long x0), none, some (.long x2), none, some (.long x4), none] [] mi ml (qi F) := by
  refine sg_ld f114_0 (v := .long x0) rfl rfl ?_
  refine sg_ld f114_1 (v := .long x2) rfl rfl ?_
  refine sg_lcmp f114_2 ?_
  refine sg_if f114_3 (fun c => ?_) (fun c => ?_)
  · have h := h.1 c
    refine sg_psh f114_17 (v := .int 0) (by decide) ?_
    exact sg_iret f114_18 pq114 rfl (by decide) ⟨_, rfl, h⟩
  · have h := h.2 c
    refine sg_ld f114_6 (v := .long x0) rfl rfl ?_
    refine sg_ld f114_7 (v := .long x4) rfl rfl ?_
    refine sg_lcmp f114_9 ?_
    refine sg_if f114_10 (fun c => ?_) (fun c => ?_)
    · have h := h.1 c
      refine sg_psh f114_17 (v := .int 0) (by decide) ?_
      exact sg_iret f114_18 pq114 rfl (by decide) ⟨_, rfl, h⟩
    · have h := h.2 c
      refine sg_psh f114_13 (v := .int 1) (by decide) ?_
      refine sg_goto f114_14 ?_
      exact sg_iret f114_18 pq114 rfl (by decide) ⟨_, rfl, h⟩

/-! X7_isTwo (I)Z -/
theorem fe115 (pc : Nat) : gm_fetch 115 pc = gm_find pc cd_115 := rfl
theorem f115_0 : gm_fetch 115 0 = some (1, .iload_n 0, 0, 0, 0, 0) := (fe115 0).trans rfl
theorem f115_1 : gm_fetch 115 1 = some (2, .i2l, 0, 0, 0, 0) := (fe115 1).trans rfl
theorem f115_2 : gm_fetch 115 2 = some (3, .lconst 0, 0, 0, 0, 0) := (fe115 2).trans rfl
theorem f115_3 : gm_fetch 115 3 = some (4, .lconst 1, 0, 0, 0, 0) := (fe115 3).trans rfl
theorem f115_4 : gm_fetch 115 4 = some (7, .invokestatic 93, 158, 114, 0, 0) := (fe115 4).trans rfl
theorem f115_7 : gm_fetch 115 7 = some (8, .ireturn, 0, 0, 0, 0) := (fe115 7).trans rfl
set_option maxRecDepth 10000 in
theorem rg115_0 {mi : Mi} {ml : Ml} {F : Int32 → Mi → Ml → Prop} {x0 : Int32}  (h : Sg 114 0 [some (.long (Int32.toInt64 x0)), none, some (.long 0), none, some (.long 1), none] [] mi ml (qi fun y1 mi2 ml3 => (y1 = 0 ∨ y1 = 1) ∧ F y1 mi2 ml3)) : Sg 115 0 [some (.int x0)] [] mi ml (qi F) := by
  refine sg_ld f115_0 (v := .int x0) rfl rfl ?_
  refine sg_i2l f115_1 ?_
  refine sg_psh f115_2 (v := .long 0) (by decide) ?_
  refine sg_psh f115_3 (v := .long 1) (by decide) ?_
  refine sg_cS f115_4 (vs := [.long (Int32.toInt64 x0), .long 0, .long 1]) (rest := []) (en := [some (.long (Int32.toInt64 x0)), none, some (.long 0), none, some (.long 1), none]) (by decide) pq114 ⟨rfl, rfl⟩ rfl rfl rfl rfl rfl h ?_
  rintro _ mi2 ml3 ⟨y1, rfl, h⟩
  exact sg_iret f115_7 pq115 rfl (gm_nz h.1) ⟨_, rfl, h.2⟩

/-! X7_isIn (JI)Z -/
theorem fe116 (pc : Nat) : gm_fetch 116 pc = gm_find pc cd_116 := rfl
theorem f116_0 : gm_fetch 116 0 = some (1, .lload_n 0, 0, 0, 0, 0) := (fe116 0).trans rfl
theorem f116_1 : gm_fetch 116 1 = some (2, .iload_n 2, 0, 0, 0, 0) := (fe116 1).trans rfl
theorem f116_2 : gm_fetch 116 2 = some (3, .lshr, 0, 0, 0, 0) := (fe116 2).trans rfl
theorem f116_3 : gm_fetch 116 3 = some (4, .lconst 1, 0, 0, 0, 0) := (fe116 3).trans rfl
theorem f116_4 : gm_fetch 116 4 = some (5, .land, 0, 0, 0, 0) := (fe116 4).trans rfl
theorem f116_5 : gm_fetch 116 5 = some (6, .lconst 1, 0, 0, 0, 0) := (fe116 5).trans rfl
theorem f116_6 : gm_fetch 116 6 = some (7, .lcmp, 0, 0, 0, 0) := (fe116 6).trans rfl
theorem f116_7 : gm_fetch 116 7 = some (10, .ifCond .ne 7, 0, 14, 0, 0) := (fe116 7).trans rfl
theorem f116_10 : gm_fetch 116 10 = some (11, .iconst 1, 0, 0, 0, 0) := (fe116 10).trans rfl
theorem f116_11 : gm_fetch 116 11 = some (14, .goto 4, 0, 15, 0, 0) := (fe116 11).trans rfl
theorem f116_14 : gm_fetch 116 14 = some (15, .iconst 0, 0, 0, 0, 0) := (fe116 14).trans rfl
theorem f116_15 : gm_fetch 116 15 = some (16, .ireturn, 0, 0, 0, 0) := (fe116 15).trans rfl
set_option maxRecDepth 10000 in
theorem rg116_0 {mi : Mi} {ml : Ml} {F : Int32 → Mi → Ml → Prop} {x0 : Int64} {x2 : Int32}  (h : ((¬ (lg_cmp ((lshr x0 x2) &&& 1) 1) = 0) → F 0 mi ml) ∧ (¬ (¬ (lg_cmp ((lshr x0 x2) &&& 1) 1) = 0) → F 1 mi ml)) : Sg 116 0 [some (.long x0), none, some (.int x2)] [] mi ml (qi F) := by
  refine sg_ld f116_0 (v := .long x0) rfl rfl ?_
  refine sg_ld f116_1 (v := .int x2) rfl rfl ?_
  refine sg_shl f116_2 rfl ?_
  refine sg_psh f116_3 (v := .long 1) (by decide) ?_
  refine sg_binl f116_4 rfl ?_
  refine sg_psh f116_5 (v := .long 1) (by decide) ?_
  refine sg_lcmp f116_6 ?_
  refine sg_if f116_7 (fun c => ?_) (fun c => ?_)
  · have h := h.1 c
    refine sg_psh f116_14 (v := .int 0) (by decide) ?_
    exact sg_iret f116_15 pq116 rfl (by decide) ⟨_, rfl, h⟩
  · have h := h.2 c
    refine sg_psh f116_10 (v := .int 1) (by decide) ?_
    refine sg_goto f116_11 ?_
    exact sg_iret f116_15 pq116 rfl (by decide) ⟨_, rfl, h⟩

/-! X7_lesser (II)I -/
theorem fe117 (pc : Nat) : gm_fetch 117 pc = gm_find pc cd_117 := rfl
theorem f117_0 : gm_fetch 117 0 = some (1, .iload_n 0, 0, 0, 0, 0) := (fe117 0).trans rfl
theorem f117_1 : gm_fetch 117 1 = some (2, .iload_n 1, 0, 0, 0, 0) := (fe117 1).trans rfl
theorem f117_2 : gm_fetch 117 2 = some (5, .if_icmp .ge 7, 0, 9, 0, 0) := (fe117 2).trans rfl
theorem f117_5 : gm_fetch 117 5 = some (6, .iload_n 0, 0, 0, 0, 0) := (fe117 5).trans rfl
theorem f117_6 : gm_fetch 117 6 = some (9, .goto 4, 0, 10, 0, 0) := (fe117 6).trans rfl
theorem f117_9 : gm_fetch 117 9 = some (10, .iload_n 1, 0, 0, 0, 0) := (fe117 9).trans rfl
theorem f117_10 : gm_fetch 117 10 = some (11, .ireturn, 0, 0, 0, 0) := (fe117 10).trans rfl
set_option maxRecDepth 10000 in
theorem rg117_0 {mi : Mi} {ml : Ml} {F : Int32 → Mi → Ml → Prop} {x0 : Int32} {x1 : Int32}  (h : ((x1 ≤ x0) → F x1 mi ml) ∧ (¬ (x1 ≤ x0) → F x0 mi ml)) : Sg 117 0 [some (.int x0), some (.int x1)] [] mi ml (qi F) := by
  refine sg_ld f117_0 (v := .int x0) rfl rfl ?_
  refine sg_ld f117_1 (v := .int x1) rfl rfl ?_
  refine sg_icmp f117_2 (fun c => ?_) (fun c => ?_)
  · have h := h.1 c
    refine sg_ld f117_9 (v := .int x1) rfl rfl ?_
    exact sg_iret f117_10 pq117 rfl rfl ⟨_, rfl, h⟩
  · have h := h.2 c
    refine sg_ld f117_5 (v := .int x0) rfl rfl ?_
    refine sg_goto f117_6 ?_
    exact sg_iret f117_10 pq117 rfl rfl ⟨_, rfl, h⟩

/-! X7_away (I)I -/
theorem fe118 (pc : Nat) : gm_fetch 118 pc = gm_find pc cd_118 := rfl
theorem f118_0 : gm_fetch 118 0 = some (1, .iload_n 0, 0, 0, 0, 0) := (fe118 0).trans rfl
theorem f118_1 : gm_fetch 118 1 = some (4, .ifCond .ge 9, 0, 10, 0, 0) := (fe118 1).trans rfl
theorem f118_4 : gm_fetch 118 4 = some (5, .iconst 0, 0, 0, 0, 0) := (fe118 4).trans rfl
theorem f118_5 : gm_fetch 118 5 = some (6, .iload_n 0, 0, 0, 0, 0) := (fe118 5).trans rfl
theorem f118_6 : gm_fetch 118 6 = some (7, .isub, 0, 0, 0, 0) := (fe118 6).trans rfl
theorem f118_7 : gm_fetch 118 7 = some (10, .goto 4, 0, 11, 0, 0) := (fe118 7).trans rfl
theorem f118_10 : gm_fetch 118 10 = some (11, .iload_n 0, 0, 0, 0, 0) := (fe118 10).trans rfl
theorem f118_11 : gm_fetch 118 11 = some (12, .ireturn, 0, 0, 0, 0) := (fe118 11).trans rfl
set_option maxRecDepth 10000 in
theorem rg118_0 {mi : Mi} {ml : Ml} {F : Int32 → Mi → Ml → Prop} {x0 : Int32}  (h : ((0 ≤ x0) → F x0 mi ml) ∧ (¬ (0 ≤ x0) → F (0 - x0) mi ml)) : Sg 118 0 [some (.int x0)] [] mi ml (qi F) := by
  refine sg_ld f118_0 (v := .int x0) rfl rfl ?_
  refine sg_if f118_1 (fun c => ?_) (fun c => ?_)
  · have h := h.1 c
    refine sg_ld f118_10 (v := .int x0) rfl rfl ?_
    exact sg_iret f118_11 pq118 rfl rfl ⟨_, rfl, h⟩
  · have h := h.2 c
    refine sg_psh f118_4 (v := .int 0) (by decide) ?_
    refine sg_ld f118_5 (v := .int x0) rfl rfl ?_
    refine sg_bin f118_6 rfl ?_
    refine sg_goto f118_7 ?_
    exact sg_iret f118_11 pq118 rfl rfl ⟨_, rfl, h⟩

/-! X7_size (J)I -/
theorem fe119 (pc : Nat) : gm_fetch 119 pc = gm_find pc cd_119 := rfl
theorem f119_0 : gm_fetch 119 0 = some (1, .iconst 0, 0, 0, 0, 0) := (fe119 0).trans rfl
theorem f119_1 : gm_fetch 119 1 = some (2, .istore_n 2, 0, 0, 0, 0) := (fe119 1).trans rfl
theorem f119_2 : gm_fetch 119 2 = some (3, .iconst 0, 0, 0, 0, 0) := (fe119 2).trans rfl
theorem f119_3 : gm_fetch 119 3 = some (4, .istore_n 3, 0, 0, 0, 0) := (fe119 3).trans rfl
theorem f119_4 : gm_fetch 119 4 = some (5, .iload_n 3, 0, 0, 0, 0) := (fe119 4).trans rfl
theorem f119_5 : gm_fetch 119 5 = some (7, .bipush 49, 0, 0, 0, 0) := (fe119 5).trans rfl
theorem f119_7 : gm_fetch 119 7 = some (10, .if_icmp .ge 25, 0, 32, 0, 0) := (fe119 7).trans rfl
theorem f119_10 : gm_fetch 119 10 = some (11, .iload_n 2, 0, 0, 0, 0) := (fe119 10).trans rfl
theorem f119_11 : gm_fetch 119 11 = some (12, .lload_n 0, 0, 0, 0, 0) := (fe119 11).trans rfl
theorem f119_12 : gm_fetch 119 12 = some (13, .iload_n 3, 0, 0, 0, 0) := (fe119 12).trans rfl
theorem f119_13 : gm_fetch 119 13 = some (16, .invokestatic 97, 176, 116, 0, 0) := (fe119 13).trans rfl
theorem f119_16 : gm_fetch 119 16 = some (19, .ifCond .eq 7, 0, 23, 0, 0) := (fe119 16).trans rfl
theorem f119_19 : gm_fetch 119 19 = some (20, .iconst 1, 0, 0, 0, 0) := (fe119 19).trans rfl
theorem f119_20 : gm_fetch 119 20 = some (23, .goto 4, 0, 24, 0, 0) := (fe119 20).trans rfl
theorem f119_23 : gm_fetch 119 23 = some (24, .iconst 0, 0, 0, 0, 0) := (fe119 23).trans rfl
theorem f119_24 : gm_fetch 119 24 = some (25, .iadd, 0, 0, 0, 0) := (fe119 24).trans rfl
theorem f119_25 : gm_fetch 119 25 = some (26, .istore_n 2, 0, 0, 0, 0) := (fe119 25).trans rfl
theorem f119_26 : gm_fetch 119 26 = some (29, .iinc 3 1, 0, 0, 0, 0) := (fe119 26).trans rfl
theorem f119_29 : gm_fetch 119 29 = some (32, .goto (-25), 0, 4, 0, 0) := (fe119 29).trans rfl
theorem f119_32 : gm_fetch 119 32 = some (33, .iload_n 2, 0, 0, 0, 0) := (fe119 32).trans rfl
theorem f119_33 : gm_fetch 119 33 = some (34, .ireturn, 0, 0, 0, 0) := (fe119 33).trans rfl
set_option maxRecDepth 10000 in
theorem rg119_0 {mi : Mi} {ml : Ml} {F : Int32 → Mi → Ml → Prop} {x0 : Int64}  (h : Sg 119 4 [some (.long x0), none, some (.int 0), some (.int 0)] [] mi ml (qi F)) : Sg 119 0 [some (.long x0), none, none, none] [] mi ml (qi F) := by
  refine sg_psh f119_0 (v := .int 0) (by decide) ?_
  refine sg_st1 f119_1 (ls' := [some (.long x0), none, some (.int 0), none]) rfl rfl rfl rfl ?_
  refine sg_psh f119_2 (v := .int 0) (by decide) ?_
  refine sg_st1 f119_3 (ls' := [some (.long x0), none, some (.int 0), some (.int 0)]) rfl rfl rfl rfl ?_
  exact h

set_option maxRecDepth 10000 in
theorem rg119_4 {mi : Mi} {ml : Ml} {F : Int32 → Mi → Ml → Prop} {x0 : Int64} {x2 : Int32} {x3 : Int32}  (h : ((49 ≤ x3) → F x2 mi ml) ∧ (¬ (49 ≤ x3) → Sg 116 0 [some (.long x0), none, some (.int x3)] [] mi ml (qi fun y1 mi2 ml3 => ((y1 = 0) → Sg 119 4 [some (.long x0), none, some (.int (x2 + 0)), some (.int (x3 + 1))] [] mi2 ml3 (qi F)) ∧ (¬ (y1 = 0) → Sg 119 4 [some (.long x0), none, some (.int (x2 + 1)), some (.int (x3 + 1))] [] mi2 ml3 (qi F))))) : Sg 119 4 [some (.long x0), none, some (.int x2), some (.int x3)] [] mi ml (qi F) := by
  refine sg_ld f119_4 (v := .int x3) rfl rfl ?_
  refine sg_psh f119_5 (v := .int 49) (by decide) ?_
  refine sg_icmp f119_7 (fun c => ?_) (fun c => ?_)
  · have h := h.1 c
    refine sg_ld f119_32 (v := .int x2) rfl rfl ?_
    exact sg_iret f119_33 pq119 rfl rfl ⟨_, rfl, h⟩
  · have h := h.2 c
    refine sg_ld f119_10 (v := .int x2) rfl rfl ?_
    refine sg_ld f119_11 (v := .long x0) rfl rfl ?_
    refine sg_ld f119_12 (v := .int x3) rfl rfl ?_
    refine sg_cS f119_13 (vs := [.long x0, .int x3]) (rest := [.int x2]) (en := [some (.long x0), none, some (.int x3)]) (by decide) pq116 ⟨rfl, rfl⟩ rfl rfl rfl rfl rfl h ?_
    rintro _ mi2 ml3 ⟨y1, rfl, h⟩
    refine sg_if f119_16 (fun c => ?_) (fun c => ?_)
    · have h := h.1 c
      refine sg_psh f119_23 (v := .int 0) (by decide) ?_
      refine sg_bin f119_24 rfl ?_
      refine sg_st1 f119_25 (ls' := [some (.long x0), none, some (.int (x2 + 0)), some (.int x3)]) rfl rfl rfl rfl ?_
      refine sg_inc f119_26 (d := 1) (ls' := [some (.long x0), none, some (.int (x2 + 0)), some (.int (x3 + 1))]) rfl (by decide) rfl ?_
      refine sg_goto f119_29 ?_
      exact h
    · have h := h.2 c
      refine sg_psh f119_19 (v := .int 1) (by decide) ?_
      refine sg_goto f119_20 ?_
      refine sg_bin f119_24 rfl ?_
      refine sg_st1 f119_25 (ls' := [some (.long x0), none, some (.int (x2 + 1)), some (.int x3)]) rfl rfl rfl rfl ?_
      refine sg_inc f119_26 (d := 1) (ls' := [some (.long x0), none, some (.int (x2 + 1)), some (.int (x3 + 1))]) rfl (by decide) rfl ?_
      refine sg_goto f119_29 ?_
      exact h

/-! X7_finding (I)I -/
theorem fe120 (pc : Nat) : gm_fetch 120 pc = gm_find pc cd_120 := rfl
theorem f120_0 : gm_fetch 120 0 = some (1, .aload_n 0, 0, 0, 0, 0) := (fe120 0).trans rfl
theorem f120_1 : gm_fetch 120 1 = some (2, .iload_n 1, 0, 0, 0, 0) := (fe120 1).trans rfl
theorem f120_2 : gm_fetch 120 2 = some (5, .putfield 101, 88, 7, 4, 0) := (fe120 2).trans rfl
theorem f120_5 : gm_fetch 120 5 = some (7, .bipush (-10), 0, 0, 0, 0) := (fe120 5).trans rfl
theorem f120_7 : gm_fetch 120 7 = some (8, .iload_n 1, 0, 0, 0, 0) := (fe120 7).trans rfl
theorem f120_8 : gm_fetch 120 8 = some (9, .isub, 0, 0, 0, 0) := (fe120 8).trans rfl
theorem f120_9 : gm_fetch 120 9 = some (10, .ireturn, 0, 0, 0, 0) := (fe120 9).trans rfl
set_option maxRecDepth 10000 in
theorem rg120_0 {mi : Mi} {ml : Ml} {F : Int32 → Mi → Ml → Prop} {x1 : Int32}  (h : F ((-10) - x1) (va_up mi 47 (va_up (mi 47) 4 x1)) ml) : Sg 120 0 [some (.ref 47), some (.int x1)] [] mi ml (qi F) := by
  refine sg_ld f120_0 (v := .ref 47) rfl rfl ?_
  refine sg_ld f120_1 (v := .int x1) rfl rfl ?_
  refine sg_puti f120_2 rfl rfl rfl (fun hz => by cases hz) ?_
  refine sg_psh f120_5 (v := .int (-10)) (by decide) ?_
  refine sg_ld f120_7 (v := .int x1) rfl rfl ?_
  refine sg_bin f120_8 rfl ?_
  exact sg_iret f120_9 pq120 rfl rfl ⟨_, rfl, h⟩

/-! X7_isSheet (I)Z -/
theorem fe121 (pc : Nat) : gm_fetch 121 pc = gm_find pc cd_121 := rfl
theorem f121_0 : gm_fetch 121 0 = some (1, .iload_n 0, 0, 0, 0, 0) := (fe121 0).trans rfl
theorem f121_1 : gm_fetch 121 1 = some (2, .i2l, 0, 0, 0, 0) := (fe121 1).trans rfl
theorem f121_2 : gm_fetch 121 2 = some (3, .lconst 0, 0, 0, 0, 0) := (fe121 2).trans rfl
theorem f121_3 : gm_fetch 121 3 = some (6, .ldc2_w 104, 5, 0, 0, 3) := (fe121 3).trans rfl
theorem f121_6 : gm_fetch 121 6 = some (9, .invokestatic 93, 158, 114, 0, 0) := (fe121 6).trans rfl
theorem f121_9 : gm_fetch 121 9 = some (10, .ireturn, 0, 0, 0, 0) := (fe121 9).trans rfl
set_option maxRecDepth 10000 in
theorem rg121_0 {mi : Mi} {ml : Ml} {F : Int32 → Mi → Ml → Prop} {x0 : Int32}  (h : Sg 114 0 [some (.long (Int32.toInt64 x0)), none, some (.long 0), none, some (.long 3), none] [] mi ml (qi fun y1 mi2 ml3 => (y1 = 0 ∨ y1 = 1) ∧ F y1 mi2 ml3)) : Sg 121 0 [some (.int x0)] [] mi ml (qi F) := by
  refine sg_ld f121_0 (v := .int x0) rfl rfl ?_
  refine sg_i2l f121_1 ?_
  refine sg_psh f121_2 (v := .long 0) (by decide) ?_
  refine sg_psh f121_3 (v := .long 3) (by decide) ?_
  refine sg_cS f121_6 (vs := [.long (Int32.toInt64 x0), .long 0, .long 3]) (rest := []) (en := [some (.long (Int32.toInt64 x0)), none, some (.long 0), none, some (.long 3), none]) (by decide) pq114 ⟨rfl, rfl⟩ rfl rfl rfl rfl rfl h ?_
  rintro _ mi2 ml3 ⟨y1, rfl, h⟩
  exact sg_iret f121_9 pq121 rfl (gm_nz h.1) ⟨_, rfl, h.2⟩

/-! X7_sheet (III)I -/
theorem fe122 (pc : Nat) : gm_fetch 122 pc = gm_find pc cd_122 := rfl
theorem f122_0 : gm_fetch 122 0 = some (1, .iload_n 1, 0, 0, 0, 0) := (fe122 0).trans rfl
theorem f122_1 : gm_fetch 122 1 = some (4, .invokestatic 106, 157, 121, 0, 0) := (fe122 1).trans rfl
theorem f122_4 : gm_fetch 122 4 = some (7, .ifCond .eq 21, 0, 25, 0, 0) := (fe122 4).trans rfl
theorem f122_7 : gm_fetch 122 7 = some (8, .iload_n 2, 0, 0, 0, 0) := (fe122 7).trans rfl
theorem f122_8 : gm_fetch 122 8 = some (9, .i2l, 0, 0, 0, 0) := (fe122 8).trans rfl
theorem f122_9 : gm_fetch 122 9 = some (10, .lconst 0, 0, 0, 0, 0) := (fe122 9).trans rfl
theorem f122_10 : gm_fetch 122 10 = some (13, .ldc2_w 110, 6, 0, 0, 2) := (fe122 10).trans rfl
theorem f122_13 : gm_fetch 122 13 = some (16, .invokestatic 93, 158, 114, 0, 0) := (fe122 13).trans rfl
theorem f122_16 : gm_fetch 122 16 = some (19, .ifCond .eq 9, 0, 25, 0, 0) := (fe122 16).trans rfl
theorem f122_19 : gm_fetch 122 19 = some (20, .iload_n 3, 0, 0, 0, 0) := (fe122 19).trans rfl
theorem f122_20 : gm_fetch 122 20 = some (22, .bipush 60, 0, 0, 0, 0) := (fe122 20).trans rfl
theorem f122_22 : gm_fetch 122 22 = some (25, .if_icmp .le 6, 0, 28, 0, 0) := (fe122 22).trans rfl
theorem f122_25 : gm_fetch 122 25 = some (27, .bipush (-2), 0, 0, 0, 0) := (fe122 25).trans rfl
theorem f122_27 : gm_fetch 122 27 = some (28, .ireturn, 0, 0, 0, 0) := (fe122 27).trans rfl
theorem f122_28 : gm_fetch 122 28 = some (29, .iload_n 3, 0, 0, 0, 0) := (fe122 28).trans rfl
theorem f122_29 : gm_fetch 122 29 = some (32, .ifCond .ge 9, 0, 38, 0, 0) := (fe122 29).trans rfl
theorem f122_32 : gm_fetch 122 32 = some (33, .aload_n 0, 0, 0, 0, 0) := (fe122 32).trans rfl
theorem f122_33 : gm_fetch 122 33 = some (34, .iconst 5, 0, 0, 0, 0) := (fe122 33).trans rfl
theorem f122_34 : gm_fetch 122 34 = some (37, .invokevirtual 112, 159, 120, 0, 0) := (fe122 34).trans rfl
theorem f122_37 : gm_fetch 122 37 = some (38, .ireturn, 0, 0, 0, 0) := (fe122 37).trans rfl
theorem f122_38 : gm_fetch 122 38 = some (39, .aload_n 0, 0, 0, 0, 0) := (fe122 38).trans rfl
theorem f122_39 : gm_fetch 122 39 = some (42, .getfield 7, 84, 7, 0, 0) := (fe122 39).trans rfl
theorem f122_42 : gm_fetch 122 42 = some (43, .iload_n 1, 0, 0, 0, 0) := (fe122 42).trans rfl
theorem f122_43 : gm_fetch 122 43 = some (44, .iload_n 2, 0, 0, 0, 0) := (fe122 43).trans rfl
theorem f122_44 : gm_fetch 122 44 = some (45, .iastore, 0, 0, 0, 0) := (fe122 44).trans rfl
theorem f122_45 : gm_fetch 122 45 = some (46, .aload_n 0, 0, 0, 0, 0) := (fe122 45).trans rfl
theorem f122_46 : gm_fetch 122 46 = some (49, .getfield 13, 85, 7, 1, 0) := (fe122 46).trans rfl
theorem f122_49 : gm_fetch 122 49 = some (50, .iload_n 1, 0, 0, 0, 0) := (fe122 49).trans rfl
theorem f122_50 : gm_fetch 122 50 = some (51, .iload_n 3, 0, 0, 0, 0) := (fe122 50).trans rfl
theorem f122_51 : gm_fetch 122 51 = some (52, .iastore, 0, 0, 0, 0) := (fe122 51).trans rfl
theorem f122_52 : gm_fetch 122 52 = some (53, .iconst 0, 0, 0, 0, 0) := (fe122 52).trans rfl
theorem f122_53 : gm_fetch 122 53 = some (55, .istore 4, 0, 0, 0, 0) := (fe122 53).trans rfl
theorem f122_55 : gm_fetch 122 55 = some (57, .iload 4, 0, 0, 0, 0) := (fe122 55).trans rfl
theorem f122_57 : gm_fetch 122 57 = some (58, .iload_n 3, 0, 0, 0, 0) := (fe122 57).trans rfl
theorem f122_58 : gm_fetch 122 58 = some (61, .if_icmp .ge 22, 0, 80, 0, 0) := (fe122 58).trans rfl
theorem f122_61 : gm_fetch 122 61 = some (62, .aload_n 0, 0, 0, 0, 0) := (fe122 61).trans rfl
theorem f122_62 : gm_fetch 122 62 = some (65, .getfield 16, 86, 7, 2, 0) := (fe122 62).trans rfl
theorem f122_65 : gm_fetch 122 65 = some (67, .bipush 60, 0, 0, 0, 0) := (fe122 65).trans rfl
theorem f122_67 : gm_fetch 122 67 = some (68, .iload_n 1, 0, 0, 0, 0) := (fe122 67).trans rfl
theorem f122_68 : gm_fetch 122 68 = some (69, .imul, 0, 0, 0, 0) := (fe122 68).trans rfl
theorem f122_69 : gm_fetch 122 69 = some (71, .iload 4, 0, 0, 0, 0) := (fe122 69).trans rfl
theorem f122_71 : gm_fetch 122 71 = some (72, .iadd, 0, 0, 0, 0) := (fe122 71).trans rfl
theorem f122_72 : gm_fetch 122 72 = some (73, .iconst 0, 0, 0, 0, 0) := (fe122 72).trans rfl
theorem f122_73 : gm_fetch 122 73 = some (74, .iastore, 0, 0, 0, 0) := (fe122 73).trans rfl
theorem f122_74 : gm_fetch 122 74 = some (77, .iinc 4 1, 0, 0, 0, 0) := (fe122 74).trans rfl
theorem f122_77 : gm_fetch 122 77 = some (80, .goto (-22), 0, 55, 0, 0) := (fe122 77).trans rfl
theorem f122_80 : gm_fetch 122 80 = some (81, .iload_n 3, 0, 0, 0, 0) := (fe122 80).trans rfl
theorem f122_81 : gm_fetch 122 81 = some (82, .ireturn, 0, 0, 0, 0) := (fe122 81).trans rfl
set_option maxRecDepth 10000 in
theorem rg122_0 {mi : Mi} {ml : Ml} {F : Int32 → Mi → Ml → Prop} {x1 : Int32} {x2 : Int32} {x3 : Int32}  (h : Sg 121 0 [some (.int x1)] [] mi ml (qi fun y1 mi2 ml3 => ((y1 = 0) → F (-2) mi2 ml3) ∧ (¬ (y1 = 0) → Sg 114 0 [some (.long (Int32.toInt64 x2)), none, some (.long 0), none, some (.long 2), none] [] mi2 ml3 (qi fun y4 mi5 ml6 => ((y4 = 0) → F (-2) mi5 ml6) ∧ (¬ (y4 = 0) → ((x3 ≤ 60) → ((0 ≤ x3) → (vp_in x1 4) ∧ (Sg 122 55 [some (.ref 47), some (.int x1), some (.int x2), some (.int x3), some (.int 0)] [] (va_up (va_up mi5 48 (va_up (mi5 48) (Int32.toNatClampNeg x1) x2)) 49 (va_up (mi5 49) (Int32.toNatClampNeg x1) x3)) ml6 (qi F))) ∧ (¬ (0 ≤ x3) → Sg 120 0 [some (.ref 47), some (.int 5)] [] mi5 ml6 (qi fun y8 mi9 ml10 => F y8 mi9 ml10))) ∧ (¬ (x3 ≤ 60) → F (-2) mi5 ml6)))))) : Sg 122 0 [some (.ref 47), some (.int x1), some (.int x2), some (.int x3), none] [] mi ml (qi F) := by
  refine sg_ld f122_0 (v := .int x1) rfl rfl ?_
  refine sg_cS f122_1 (vs := [.int x1]) (rest := []) (en := [some (.int x1)]) (by decide) pq121 ⟨rfl, rfl⟩ rfl rfl rfl rfl rfl h ?_
  rintro _ mi2 ml3 ⟨y1, rfl, h⟩
  refine sg_if f122_4 (fun c => ?_) (fun c => ?_)
  · have h := h.1 c
    refine sg_psh f122_25 (v := .int (-2)) (by decide) ?_
    exact sg_iret f122_27 pq122 rfl rfl ⟨_, rfl, h⟩
  · have h := h.2 c
    refine sg_ld f122_7 (v := .int x2) rfl rfl ?_
    refine sg_i2l f122_8 ?_
    refine sg_psh f122_9 (v := .long 0) (by decide) ?_
    refine sg_psh f122_10 (v := .long 2) (by decide) ?_
    refine sg_cS f122_13 (vs := [.long (Int32.toInt64 x2), .long 0, .long 2]) (rest := []) (en := [some (.long (Int32.toInt64 x2)), none, some (.long 0), none, some (.long 2), none]) (by decide) pq114 ⟨rfl, rfl⟩ rfl rfl rfl rfl rfl h ?_
    rintro _ mi5 ml6 ⟨y4, rfl, h⟩
    refine sg_if f122_16 (fun c => ?_) (fun c => ?_)
    · have h := h.1 c
      refine sg_psh f122_25 (v := .int (-2)) (by decide) ?_
      exact sg_iret f122_27 pq122 rfl rfl ⟨_, rfl, h⟩
    · have h := h.2 c
      refine sg_ld f122_19 (v := .int x3) rfl rfl ?_
      refine sg_psh f122_20 (v := .int 60) (by decide) ?_
      refine sg_icmp f122_22 (fun c => ?_) (fun c => ?_)
      · have h := h.1 c
        refine sg_ld f122_28 (v := .int x3) rfl rfl ?_
        refine sg_if f122_29 (fun c => ?_) (fun c => ?_)
        · have h := h.1 c
          refine sg_ld f122_38 (v := .ref 47) rfl rfl ?_
          refine sg_getr f122_39 rfl rfl (w := 48) rfl ?_
          refine sg_ld f122_42 (v := .int x1) rfl rfl ?_
          refine sg_ld f122_43 (v := .int x2) rfl rfl ?_
          obtain ⟨e7, h⟩ := h
          refine sg_iast f122_44 rfl e7 ?_
          refine sg_ld f122_45 (v := .ref 47) rfl rfl ?_
          refine sg_getr f122_46 rfl rfl (w := 49) rfl ?_
          refine sg_ld f122_49 (v := .int x1) rfl rfl ?_
          refine sg_ld f122_50 (v := .int x3) rfl rfl ?_
          refine sg_iast f122_51 rfl e7 ?_
          refine sg_psh f122_52 (v := .int 0) (by decide) ?_
          refine sg_st1 f122_53 (ls' := [some (.ref 47), some (.int x1), some (.int x2), some (.int x3), some (.int 0)]) rfl rfl rfl rfl ?_
          exact h
        · have h := h.2 c
          refine sg_ld f122_32 (v := .ref 47) rfl rfl ?_
          refine sg_psh f122_33 (v := .int 5) (by decide) ?_
          refine sg_cV f122_34 (vs := [.int 5]) (r := 47) (rest := []) (en := [some (.ref 47), some (.int 5)]) pq120 ⟨rfl, rfl⟩ rfl rfl rfl rfl rfl rfl h ?_
          rintro _ mi9 ml10 ⟨y8, rfl, h⟩
          exact sg_iret f122_37 pq122 rfl rfl ⟨_, rfl, h⟩
      · have h := h.2 c
        refine sg_psh f122_25 (v := .int (-2)) (by decide) ?_
        exact sg_iret f122_27 pq122 rfl rfl ⟨_, rfl, h⟩

set_option maxRecDepth 10000 in
theorem rg122_55 {mi : Mi} {ml : Ml} {F : Int32 → Mi → Ml → Prop} {x1 : Int32} {x2 : Int32} {x3 : Int32} {x4 : Int32}  (h : ((x3 ≤ x4) → F x3 mi ml) ∧ (¬ (x3 ≤ x4) → (vp_in ((60 * x1) + x4) 240) ∧ (Sg 122 55 [some (.ref 47), some (.int x1), some (.int x2), some (.int x3), some (.int (x4 + 1))] [] (va_up mi 50 (va_up (mi 50) (Int32.toNatClampNeg ((60 * x1) + x4)) 0)) ml (qi F)))) : Sg 122 55 [some (.ref 47), some (.int x1), some (.int x2), some (.int x3), some (.int x4)] [] mi ml (qi F) := by
  refine sg_ld f122_55 (v := .int x4) rfl rfl ?_
  refine sg_ld f122_57 (v := .int x3) rfl rfl ?_
  refine sg_icmp f122_58 (fun c => ?_) (fun c => ?_)
  · have h := h.1 c
    refine sg_ld f122_80 (v := .int x3) rfl rfl ?_
    exact sg_iret f122_81 pq122 rfl rfl ⟨_, rfl, h⟩
  · have h := h.2 c
    refine sg_ld f122_61 (v := .ref 47) rfl rfl ?_
    refine sg_getr f122_62 rfl rfl (w := 50) rfl ?_
    refine sg_psh f122_65 (v := .int 60) (by decide) ?_
    refine sg_ld f122_67 (v := .int x1) rfl rfl ?_
    refine sg_bin f122_68 rfl ?_
    refine sg_ld f122_69 (v := .int x4) rfl rfl ?_
    refine sg_bin f122_71 rfl ?_
    refine sg_psh f122_72 (v := .int 0) (by decide) ?_
    obtain ⟨e1, h⟩ := h
    refine sg_iast f122_73 rfl e1 ?_
    refine sg_inc f122_74 (d := 1) (ls' := [some (.ref 47), some (.int x1), some (.int x2), some (.int x3), some (.int (x4 + 1))]) rfl (by decide) rfl ?_
    refine sg_goto f122_77 ?_
    exact h

/-! X7_lose (I)I -/
theorem fe123 (pc : Nat) : gm_fetch 123 pc = gm_find pc cd_123 := rfl
theorem f123_0 : gm_fetch 123 0 = some (1, .iload_n 1, 0, 0, 0, 0) := (fe123 0).trans rfl
theorem f123_1 : gm_fetch 123 1 = some (4, .invokestatic 106, 157, 121, 0, 0) := (fe123 1).trans rfl
theorem f123_4 : gm_fetch 123 4 = some (7, .ifCond .ne 6, 0, 10, 0, 0) := (fe123 4).trans rfl
theorem f123_7 : gm_fetch 123 7 = some (9, .bipush (-2), 0, 0, 0, 0) := (fe123 7).trans rfl
theorem f123_9 : gm_fetch 123 9 = some (10, .ireturn, 0, 0, 0, 0) := (fe123 9).trans rfl
theorem f123_10 : gm_fetch 123 10 = some (11, .aload_n 0, 0, 0, 0, 0) := (fe123 10).trans rfl
theorem f123_11 : gm_fetch 123 11 = some (14, .getfield 7, 84, 7, 0, 0) := (fe123 11).trans rfl
theorem f123_14 : gm_fetch 123 14 = some (15, .iload_n 1, 0, 0, 0, 0) := (fe123 14).trans rfl
theorem f123_15 : gm_fetch 123 15 = some (16, .iaload, 0, 0, 0, 0) := (fe123 15).trans rfl
theorem f123_16 : gm_fetch 123 16 = some (19, .ifCond .ge 9, 0, 25, 0, 0) := (fe123 16).trans rfl
theorem f123_19 : gm_fetch 123 19 = some (20, .aload_n 0, 0, 0, 0, 0) := (fe123 19).trans rfl
theorem f123_20 : gm_fetch 123 20 = some (21, .iconst 1, 0, 0, 0, 0) := (fe123 20).trans rfl
theorem f123_21 : gm_fetch 123 21 = some (24, .invokevirtual 112, 159, 120, 0, 0) := (fe123 21).trans rfl
theorem f123_24 : gm_fetch 123 24 = some (25, .ireturn, 0, 0, 0, 0) := (fe123 24).trans rfl
theorem f123_25 : gm_fetch 123 25 = some (26, .aload_n 0, 0, 0, 0, 0) := (fe123 25).trans rfl
theorem f123_26 : gm_fetch 123 26 = some (29, .getfield 7, 84, 7, 0, 0) := (fe123 26).trans rfl
theorem f123_29 : gm_fetch 123 29 = some (30, .iload_n 1, 0, 0, 0, 0) := (fe123 29).trans rfl
theorem f123_30 : gm_fetch 123 30 = some (31, .iconst (-1), 0, 0, 0, 0) := (fe123 30).trans rfl
theorem f123_31 : gm_fetch 123 31 = some (32, .iastore, 0, 0, 0, 0) := (fe123 31).trans rfl
theorem f123_32 : gm_fetch 123 32 = some (33, .aload_n 0, 0, 0, 0, 0) := (fe123 32).trans rfl
theorem f123_33 : gm_fetch 123 33 = some (36, .getfield 13, 85, 7, 1, 0) := (fe123 33).trans rfl
theorem f123_36 : gm_fetch 123 36 = some (37, .iload_n 1, 0, 0, 0, 0) := (fe123 36).trans rfl
theorem f123_37 : gm_fetch 123 37 = some (38, .iaload, 0, 0, 0, 0) := (fe123 37).trans rfl
theorem f123_38 : gm_fetch 123 38 = some (39, .ireturn, 0, 0, 0, 0) := (fe123 38).trans rfl
set_option maxRecDepth 10000 in
theorem rg123_0 {mi : Mi} {ml : Ml} {F : Int32 → Mi → Ml → Prop} {x1 : Int32}  (h : Sg 121 0 [some (.int x1)] [] mi ml (qi fun y1 mi2 ml3 => ((¬ y1 = 0) → (vp_in x1 4) ∧ (((0 ≤ (mi2 48 (Int32.toNatClampNeg x1))) → F (mi2 49 (Int32.toNatClampNeg x1)) (va_up mi2 48 (va_up (mi2 48) (Int32.toNatClampNeg x1) (-1))) ml3) ∧ (¬ (0 ≤ (mi2 48 (Int32.toNatClampNeg x1))) → Sg 120 0 [some (.ref 47), some (.int 1)] [] mi2 ml3 (qi fun y5 mi6 ml7 => F y5 mi6 ml7)))) ∧ (¬ (¬ y1 = 0) → F (-2) mi2 ml3))) : Sg 123 0 [some (.ref 47), some (.int x1)] [] mi ml (qi F) := by
  refine sg_ld f123_0 (v := .int x1) rfl rfl ?_
  refine sg_cS f123_1 (vs := [.int x1]) (rest := []) (en := [some (.int x1)]) (by decide) pq121 ⟨rfl, rfl⟩ rfl rfl rfl rfl rfl h ?_
  rintro _ mi2 ml3 ⟨y1, rfl, h⟩
  refine sg_if f123_4 (fun c => ?_) (fun c => ?_)
  · have h := h.1 c
    refine sg_ld f123_10 (v := .ref 47) rfl rfl ?_
    refine sg_getr f123_11 rfl rfl (w := 48) rfl ?_
    refine sg_ld f123_14 (v := .int x1) rfl rfl ?_
    obtain ⟨e4, h⟩ := h
    refine sg_iald f123_15 rfl e4 (x := (mi2 48 (Int32.toNatClampNeg x1))) rfl ?_
    refine sg_if f123_16 (fun c => ?_) (fun c => ?_)
    · have h := h.1 c
      refine sg_ld f123_25 (v := .ref 47) rfl rfl ?_
      refine sg_getr f123_26 rfl rfl (w := 48) rfl ?_
      refine sg_ld f123_29 (v := .int x1) rfl rfl ?_
      refine sg_psh f123_30 (v := .int (-1)) (by decide) ?_
      refine sg_iast f123_31 rfl e4 ?_
      refine sg_ld f123_32 (v := .ref 47) rfl rfl ?_
      refine sg_getr f123_33 rfl rfl (w := 49) rfl ?_
      refine sg_ld f123_36 (v := .int x1) rfl rfl ?_
      refine sg_iald f123_37 rfl e4 (x := (mi2 49 (Int32.toNatClampNeg x1))) rfl ?_
      exact sg_iret f123_38 pq123 rfl rfl ⟨_, rfl, h⟩
    · have h := h.2 c
      refine sg_ld f123_19 (v := .ref 47) rfl rfl ?_
      refine sg_psh f123_20 (v := .int 1) (by decide) ?_
      refine sg_cV f123_21 (vs := [.int 1]) (r := 47) (rest := []) (en := [some (.ref 47), some (.int 1)]) pq120 ⟨rfl, rfl⟩ rfl rfl rfl rfl rfl rfl h ?_
      rintro _ mi6 ml7 ⟨y5, rfl, h⟩
      exact sg_iret f123_24 pq123 rfl rfl ⟨_, rfl, h⟩
  · have h := h.2 c
    refine sg_psh f123_7 (v := .int (-2)) (by decide) ?_
    exact sg_iret f123_9 pq123 rfl rfl ⟨_, rfl, h⟩

/-! X7_lacks (III)I -/
theorem fe124 (pc : Nat) : gm_fetch 124 pc = gm_find pc cd_124 := rfl
theorem f124_0 : gm_fetch 124 0 = some (1, .aload_n 0, 0, 0, 0, 0) := (fe124 0).trans rfl
theorem f124_1 : gm_fetch 124 1 = some (4, .getfield 7, 84, 7, 0, 0) := (fe124 1).trans rfl
theorem f124_4 : gm_fetch 124 4 = some (5, .iload_n 1, 0, 0, 0, 0) := (fe124 4).trans rfl
theorem f124_5 : gm_fetch 124 5 = some (6, .iaload, 0, 0, 0, 0) := (fe124 5).trans rfl
theorem f124_6 : gm_fetch 124 6 = some (9, .ifCond .ge 9, 0, 15, 0, 0) := (fe124 6).trans rfl
theorem f124_9 : gm_fetch 124 9 = some (10, .aload_n 0, 0, 0, 0, 0) := (fe124 9).trans rfl
theorem f124_10 : gm_fetch 124 10 = some (11, .iconst 1, 0, 0, 0, 0) := (fe124 10).trans rfl
theorem f124_11 : gm_fetch 124 11 = some (14, .invokevirtual 112, 159, 120, 0, 0) := (fe124 11).trans rfl
theorem f124_14 : gm_fetch 124 14 = some (15, .ireturn, 0, 0, 0, 0) := (fe124 14).trans rfl
theorem f124_15 : gm_fetch 124 15 = some (16, .aload_n 0, 0, 0, 0, 0) := (fe124 15).trans rfl
theorem f124_16 : gm_fetch 124 16 = some (19, .getfield 7, 84, 7, 0, 0) := (fe124 16).trans rfl
theorem f124_19 : gm_fetch 124 19 = some (20, .iload_n 1, 0, 0, 0, 0) := (fe124 19).trans rfl
theorem f124_20 : gm_fetch 124 20 = some (21, .iaload, 0, 0, 0, 0) := (fe124 20).trans rfl
theorem f124_21 : gm_fetch 124 21 = some (22, .iload_n 2, 0, 0, 0, 0) := (fe124 21).trans rfl
theorem f124_22 : gm_fetch 124 22 = some (25, .if_icmp .eq 9, 0, 31, 0, 0) := (fe124 22).trans rfl
theorem f124_25 : gm_fetch 124 25 = some (26, .aload_n 0, 0, 0, 0, 0) := (fe124 25).trans rfl
theorem f124_26 : gm_fetch 124 26 = some (27, .iconst 3, 0, 0, 0, 0) := (fe124 26).trans rfl
theorem f124_27 : gm_fetch 124 27 = some (30, .invokevirtual 112, 159, 120, 0, 0) := (fe124 27).trans rfl
theorem f124_30 : gm_fetch 124 30 = some (31, .ireturn, 0, 0, 0, 0) := (fe124 30).trans rfl
theorem f124_31 : gm_fetch 124 31 = some (32, .iload_n 3, 0, 0, 0, 0) := (fe124 31).trans rfl
theorem f124_32 : gm_fetch 124 32 = some (33, .i2l, 0, 0, 0, 0) := (fe124 32).trans rfl
theorem f124_33 : gm_fetch 124 33 = some (34, .lconst 0, 0, 0, 0, 0) := (fe124 33).trans rfl
theorem f124_34 : gm_fetch 124 34 = some (35, .aload_n 0, 0, 0, 0, 0) := (fe124 34).trans rfl
theorem f124_35 : gm_fetch 124 35 = some (38, .getfield 13, 85, 7, 1, 0) := (fe124 35).trans rfl
theorem f124_38 : gm_fetch 124 38 = some (39, .iload_n 1, 0, 0, 0, 0) := (fe124 38).trans rfl
theorem f124_39 : gm_fetch 124 39 = some (40, .iaload, 0, 0, 0, 0) := (fe124 39).trans rfl
theorem f124_40 : gm_fetch 124 40 = some (41, .iconst 1, 0, 0, 0, 0) := (fe124 40).trans rfl
theorem f124_41 : gm_fetch 124 41 = some (42, .isub, 0, 0, 0, 0) := (fe124 41).trans rfl
theorem f124_42 : gm_fetch 124 42 = some (43, .i2l, 0, 0, 0, 0) := (fe124 42).trans rfl
theorem f124_43 : gm_fetch 124 43 = some (46, .invokestatic 93, 158, 114, 0, 0) := (fe124 43).trans rfl
theorem f124_46 : gm_fetch 124 46 = some (49, .ifCond .eq 7, 0, 53, 0, 0) := (fe124 46).trans rfl
theorem f124_49 : gm_fetch 124 49 = some (50, .iconst 0, 0, 0, 0, 0) := (fe124 49).trans rfl
theorem f124_50 : gm_fetch 124 50 = some (53, .goto 8, 0, 58, 0, 0) := (fe124 50).trans rfl
theorem f124_53 : gm_fetch 124 53 = some (54, .aload_n 0, 0, 0, 0, 0) := (fe124 53).trans rfl
theorem f124_54 : gm_fetch 124 54 = some (55, .iconst 2, 0, 0, 0, 0) := (fe124 54).trans rfl
theorem f124_55 : gm_fetch 124 55 = some (58, .invokevirtual 112, 159, 120, 0, 0) := (fe124 55).trans rfl
theorem f124_58 : gm_fetch 124 58 = some (59, .ireturn, 0, 0, 0, 0) := (fe124 58).trans rfl
set_option maxRecDepth 10000 in
theorem rg124_0 {mi : Mi} {ml : Ml} {F : Int32 → Mi → Ml → Prop} {x1 : Int32} {x2 : Int32} {x3 : Int32}  (h : (vp_in x1 4) ∧ (((0 ≤ (mi 48 (Int32.toNatClampNeg x1))) → (((mi 48 (Int32.toNatClampNeg x1)) = x2) → Sg 114 0 [some (.long (Int32.toInt64 x3)), none, some (.long 0), none, some (.long (Int32.toInt64 ((mi 49 (Int32.toNatClampNeg x1)) - 1))), none] [] mi ml (qi fun y2 mi3 ml4 => ((y2 = 0) → Sg 120 0 [some (.ref 47), some (.int 2)] [] mi3 ml4 (qi fun y5 mi6 ml7 => F y5 mi6 ml7)) ∧ (¬ (y2 = 0) → F 0 mi3 ml4))) ∧ (¬ ((mi 48 (Int32.toNatClampNeg x1)) = x2) → Sg 120 0 [some (.ref 47), some (.int 3)] [] mi ml (qi fun y8 mi9 ml10 => F y8 mi9 ml10))) ∧ (¬ (0 ≤ (mi 48 (Int32.toNatClampNeg x1))) → Sg 120 0 [some (.ref 47), some (.int 1)] [] mi ml (qi fun y11 mi12 ml13 => F y11 mi12 ml13)))) : Sg 124 0 [some (.ref 47), some (.int x1), some (.int x2), some (.int x3)] [] mi ml (qi F) := by
  refine sg_ld f124_0 (v := .ref 47) rfl rfl ?_
  refine sg_getr f124_1 rfl rfl (w := 48) rfl ?_
  refine sg_ld f124_4 (v := .int x1) rfl rfl ?_
  obtain ⟨e1, h⟩ := h
  refine sg_iald f124_5 rfl e1 (x := (mi 48 (Int32.toNatClampNeg x1))) rfl ?_
  refine sg_if f124_6 (fun c => ?_) (fun c => ?_)
  · have h := h.1 c
    refine sg_ld f124_15 (v := .ref 47) rfl rfl ?_
    refine sg_getr f124_16 rfl rfl (w := 48) rfl ?_
    refine sg_ld f124_19 (v := .int x1) rfl rfl ?_
    refine sg_iald f124_20 rfl e1 (x := (mi 48 (Int32.toNatClampNeg x1))) rfl ?_
    refine sg_ld f124_21 (v := .int x2) rfl rfl ?_
    refine sg_icmp f124_22 (fun c => ?_) (fun c => ?_)
    · have h := h.1 c
      refine sg_ld f124_31 (v := .int x3) rfl rfl ?_
      refine sg_i2l f124_32 ?_
      refine sg_psh f124_33 (v := .long 0) (by decide) ?_
      refine sg_ld f124_34 (v := .ref 47) rfl rfl ?_
      refine sg_getr f124_35 rfl rfl (w := 49) rfl ?_
      refine sg_ld f124_38 (v := .int x1) rfl rfl ?_
      refine sg_iald f124_39 rfl e1 (x := (mi 49 (Int32.toNatClampNeg x1))) rfl ?_
      refine sg_psh f124_40 (v := .int 1) (by decide) ?_
      refine sg_bin f124_41 rfl ?_
      refine sg_i2l f124_42 ?_
      refine sg_cS f124_43 (vs := [.long (Int32.toInt64 x3), .long 0, .long (Int32.toInt64 ((mi 49 (Int32.toNatClampNeg x1)) - 1))]) (rest := []) (en := [some (.long (Int32.toInt64 x3)), none, some (.long 0), none, some (.long (Int32.toInt64 ((mi 49 (Int32.toNatClampNeg x1)) - 1))), none]) (by decide) pq114 ⟨rfl, rfl⟩ rfl rfl rfl rfl rfl h ?_
      rintro _ mi3 ml4 ⟨y2, rfl, h⟩
      refine sg_if f124_46 (fun c => ?_) (fun c => ?_)
      · have h := h.1 c
        refine sg_ld f124_53 (v := .ref 47) rfl rfl ?_
        refine sg_psh f124_54 (v := .int 2) (by decide) ?_
        refine sg_cV f124_55 (vs := [.int 2]) (r := 47) (rest := []) (en := [some (.ref 47), some (.int 2)]) pq120 ⟨rfl, rfl⟩ rfl rfl rfl rfl rfl rfl h ?_
        rintro _ mi6 ml7 ⟨y5, rfl, h⟩
        exact sg_iret f124_58 pq124 rfl rfl ⟨_, rfl, h⟩
      · have h := h.2 c
        refine sg_psh f124_49 (v := .int 0) (by decide) ?_
        refine sg_goto f124_50 ?_
        exact sg_iret f124_58 pq124 rfl rfl ⟨_, rfl, h⟩
    · have h := h.2 c
      refine sg_ld f124_25 (v := .ref 47) rfl rfl ?_
      refine sg_psh f124_26 (v := .int 3) (by decide) ?_
      refine sg_cV f124_27 (vs := [.int 3]) (r := 47) (rest := []) (en := [some (.ref 47), some (.int 3)]) pq120 ⟨rfl, rfl⟩ rfl rfl rfl rfl rfl rfl h ?_
      rintro _ mi9 ml10 ⟨y8, rfl, h⟩
      exact sg_iret f124_30 pq124 rfl rfl ⟨_, rfl, h⟩
  · have h := h.2 c
    refine sg_ld f124_9 (v := .ref 47) rfl rfl ?_
    refine sg_psh f124_10 (v := .int 1) (by decide) ?_
    refine sg_cV f124_11 (vs := [.int 1]) (r := 47) (rest := []) (en := [some (.ref 47), some (.int 1)]) pq120 ⟨rfl, rfl⟩ rfl rfl rfl rfl rfl rfl h ?_
    rintro _ mi12 ml13 ⟨y11, rfl, h⟩
    exact sg_iret f124_14 pq124 rfl rfl ⟨_, rfl, h⟩

/-! X7_cutTo (II)I -/
theorem fe125 (pc : Nat) : gm_fetch 125 pc = gm_find pc cd_125 := rfl
theorem f125_0 : gm_fetch 125 0 = some (1, .iload_n 0, 0, 0, 0, 0) := (fe125 0).trans rfl
theorem f125_1 : gm_fetch 125 1 = some (4, .ifCond .ne 9, 0, 10, 0, 0) := (fe125 1).trans rfl
theorem f125_4 : gm_fetch 125 4 = some (5, .iload_n 1, 0, 0, 0, 0) := (fe125 4).trans rfl
theorem f125_5 : gm_fetch 125 5 = some (6, .iconst 1, 0, 0, 0, 0) := (fe125 5).trans rfl
theorem f125_6 : gm_fetch 125 6 = some (7, .iand, 0, 0, 0, 0) := (fe125 6).trans rfl
theorem f125_7 : gm_fetch 125 7 = some (10, .goto 14, 0, 21, 0, 0) := (fe125 7).trans rfl
theorem f125_10 : gm_fetch 125 10 = some (11, .iload_n 0, 0, 0, 0, 0) := (fe125 10).trans rfl
theorem f125_11 : gm_fetch 125 11 = some (12, .iconst 1, 0, 0, 0, 0) := (fe125 11).trans rfl
theorem f125_12 : gm_fetch 125 12 = some (15, .if_icmp .ne 8, 0, 20, 0, 0) := (fe125 12).trans rfl
theorem f125_15 : gm_fetch 125 15 = some (16, .iload_n 1, 0, 0, 0, 0) := (fe125 15).trans rfl
theorem f125_16 : gm_fetch 125 16 = some (17, .i2c, 0, 0, 0, 0) := (fe125 16).trans rfl
theorem f125_17 : gm_fetch 125 17 = some (20, .goto 4, 0, 21, 0, 0) := (fe125 17).trans rfl
theorem f125_20 : gm_fetch 125 20 = some (21, .iload_n 1, 0, 0, 0, 0) := (fe125 20).trans rfl
theorem f125_21 : gm_fetch 125 21 = some (22, .ireturn, 0, 0, 0, 0) := (fe125 21).trans rfl
set_option maxRecDepth 10000 in
theorem rg125_0 {mi : Mi} {ml : Ml} {F : Int32 → Mi → Ml → Prop} {x0 : Int32} {x1 : Int32}  (h : ((¬ x0 = 0) → ((¬ x0 = 1) → F x1 mi ml) ∧ (¬ (¬ x0 = 1) → F (i2ch x1) mi ml)) ∧ (¬ (¬ x0 = 0) → F (x1 &&& 1) mi ml)) : Sg 125 0 [some (.int x0), some (.int x1)] [] mi ml (qi F) := by
  refine sg_ld f125_0 (v := .int x0) rfl rfl ?_
  refine sg_if f125_1 (fun c => ?_) (fun c => ?_)
  · have h := h.1 c
    refine sg_ld f125_10 (v := .int x0) rfl rfl ?_
    refine sg_psh f125_11 (v := .int 1) (by decide) ?_
    refine sg_icmp f125_12 (fun c => ?_) (fun c => ?_)
    · have h := h.1 c
      refine sg_ld f125_20 (v := .int x1) rfl rfl ?_
      exact sg_iret f125_21 pq125 rfl rfl ⟨_, rfl, h⟩
    · have h := h.2 c
      refine sg_ld f125_15 (v := .int x1) rfl rfl ?_
      refine sg_un f125_16 rfl ?_
      refine sg_goto f125_17 ?_
      exact sg_iret f125_21 pq125 rfl rfl ⟨_, rfl, h⟩
  · have h := h.2 c
    refine sg_ld f125_4 (v := .int x1) rfl rfl ?_
    refine sg_psh f125_5 (v := .int 1) (by decide) ?_
    refine sg_bin f125_6 rfl ?_
    refine sg_goto f125_7 ?_
    exact sg_iret f125_21 pq125 rfl rfl ⟨_, rfl, h⟩

/-! X7_lay (IIII)I -/
theorem fe126 (pc : Nat) : gm_fetch 126 pc = gm_find pc cd_126 := rfl
theorem f126_0 : gm_fetch 126 0 = some (1, .iload_n 1, 0, 0, 0, 0) := (fe126 0).trans rfl
theorem f126_1 : gm_fetch 126 1 = some (4, .invokestatic 106, 157, 121, 0, 0) := (fe126 1).trans rfl
theorem f126_4 : gm_fetch 126 4 = some (7, .ifCond .eq 15, 0, 19, 0, 0) := (fe126 4).trans rfl
theorem f126_7 : gm_fetch 126 7 = some (8, .iload_n 2, 0, 0, 0, 0) := (fe126 7).trans rfl
theorem f126_8 : gm_fetch 126 8 = some (9, .i2l, 0, 0, 0, 0) := (fe126 8).trans rfl
theorem f126_9 : gm_fetch 126 9 = some (10, .lconst 0, 0, 0, 0, 0) := (fe126 9).trans rfl
theorem f126_10 : gm_fetch 126 10 = some (13, .ldc2_w 110, 6, 0, 0, 2) := (fe126 10).trans rfl
theorem f126_13 : gm_fetch 126 13 = some (16, .invokestatic 93, 158, 114, 0, 0) := (fe126 13).trans rfl
theorem f126_16 : gm_fetch 126 16 = some (19, .ifCond .ne 6, 0, 22, 0, 0) := (fe126 16).trans rfl
theorem f126_19 : gm_fetch 126 19 = some (21, .bipush (-2), 0, 0, 0, 0) := (fe126 19).trans rfl
theorem f126_21 : gm_fetch 126 21 = some (22, .ireturn, 0, 0, 0, 0) := (fe126 21).trans rfl
theorem f126_22 : gm_fetch 126 22 = some (23, .aload_n 0, 0, 0, 0, 0) := (fe126 22).trans rfl
theorem f126_23 : gm_fetch 126 23 = some (24, .iload_n 1, 0, 0, 0, 0) := (fe126 23).trans rfl
theorem f126_24 : gm_fetch 126 24 = some (25, .iload_n 2, 0, 0, 0, 0) := (fe126 24).trans rfl
theorem f126_25 : gm_fetch 126 25 = some (26, .iload_n 3, 0, 0, 0, 0) := (fe126 25).trans rfl
theorem f126_26 : gm_fetch 126 26 = some (29, .invokevirtual 116, 162, 124, 0, 0) := (fe126 26).trans rfl
theorem f126_29 : gm_fetch 126 29 = some (31, .istore 5, 0, 0, 0, 0) := (fe126 29).trans rfl
theorem f126_31 : gm_fetch 126 31 = some (33, .iload 5, 0, 0, 0, 0) := (fe126 31).trans rfl
theorem f126_33 : gm_fetch 126 33 = some (36, .ifCond .eq 6, 0, 39, 0, 0) := (fe126 33).trans rfl
theorem f126_36 : gm_fetch 126 36 = some (38, .iload 5, 0, 0, 0, 0) := (fe126 36).trans rfl
theorem f126_38 : gm_fetch 126 38 = some (39, .ireturn, 0, 0, 0, 0) := (fe126 38).trans rfl
theorem f126_39 : gm_fetch 126 39 = some (40, .aload_n 0, 0, 0, 0, 0) := (fe126 39).trans rfl
theorem f126_40 : gm_fetch 126 40 = some (43, .getfield 16, 86, 7, 2, 0) := (fe126 40).trans rfl
theorem f126_43 : gm_fetch 126 43 = some (45, .bipush 60, 0, 0, 0, 0) := (fe126 43).trans rfl
theorem f126_45 : gm_fetch 126 45 = some (46, .iload_n 1, 0, 0, 0, 0) := (fe126 45).trans rfl
theorem f126_46 : gm_fetch 126 46 = some (47, .imul, 0, 0, 0, 0) := (fe126 46).trans rfl
theorem f126_47 : gm_fetch 126 47 = some (48, .iload_n 3, 0, 0, 0, 0) := (fe126 47).trans rfl
theorem f126_48 : gm_fetch 126 48 = some (49, .iadd, 0, 0, 0, 0) := (fe126 48).trans rfl
theorem f126_49 : gm_fetch 126 49 = some (50, .iload_n 2, 0, 0, 0, 0) := (fe126 49).trans rfl
theorem f126_50 : gm_fetch 126 50 = some (52, .iload 4, 0, 0, 0, 0) := (fe126 50).trans rfl
theorem f126_52 : gm_fetch 126 52 = some (55, .invokestatic 120, 163, 125, 0, 0) := (fe126 52).trans rfl
theorem f126_55 : gm_fetch 126 55 = some (56, .iastore, 0, 0, 0, 0) := (fe126 55).trans rfl
theorem f126_56 : gm_fetch 126 56 = some (57, .iconst 1, 0, 0, 0, 0) := (fe126 56).trans rfl
theorem f126_57 : gm_fetch 126 57 = some (58, .ireturn, 0, 0, 0, 0) := (fe126 57).trans rfl
set_option maxRecDepth 10000 in
theorem rg126_0 {mi : Mi} {ml : Ml} {F : Int32 → Mi → Ml → Prop} {x1 : Int32} {x2 : Int32} {x3 : Int32} {x4 : Int32}  (h : Sg 121 0 [some (.int x1)] [] mi ml (qi fun y1 mi2 ml3 => ((y1 = 0) → F (-2) mi2 ml3) ∧ (¬ (y1 = 0) → Sg 114 0 [some (.long (Int32.toInt64 x2)), none, some (.long 0), none, some (.long 2), none] [] mi2 ml3 (qi fun y4 mi5 ml6 => ((¬ y4 = 0) → Sg 124 0 [some (.ref 47), some (.int x1), some (.int x2), some (.int x3)] [] mi5 ml6 (qi fun y7 mi8 ml9 => ((y7 = 0) → Sg 125 0 [some (.int x2), some (.int x4)] [] mi8 ml9 (qi fun y10 mi11 ml12 => (vp_in ((60 * x1) + x3) 240) ∧ (F 1 (va_up mi11 50 (va_up (mi11 50) (Int32.toNatClampNeg ((60 * x1) + x3)) y10)) ml12))) ∧ (¬ (y7 = 0) → F y7 mi8 ml9))) ∧ (¬ (¬ y4 = 0) → F (-2) mi5 ml6))))) : Sg 126 0 [some (.ref 47), some (.int x1), some (.int x2), some (.int x3), some (.int x4), none] [] mi ml (qi F) := by
  refine sg_ld f126_0 (v := .int x1) rfl rfl ?_
  refine sg_cS f126_1 (vs := [.int x1]) (rest := []) (en := [some (.int x1)]) (by decide) pq121 ⟨rfl, rfl⟩ rfl rfl rfl rfl rfl h ?_
  rintro _ mi2 ml3 ⟨y1, rfl, h⟩
  refine sg_if f126_4 (fun c => ?_) (fun c => ?_)
  · have h := h.1 c
    refine sg_psh f126_19 (v := .int (-2)) (by decide) ?_
    exact sg_iret f126_21 pq126 rfl rfl ⟨_, rfl, h⟩
  · have h := h.2 c
    refine sg_ld f126_7 (v := .int x2) rfl rfl ?_
    refine sg_i2l f126_8 ?_
    refine sg_psh f126_9 (v := .long 0) (by decide) ?_
    refine sg_psh f126_10 (v := .long 2) (by decide) ?_
    refine sg_cS f126_13 (vs := [.long (Int32.toInt64 x2), .long 0, .long 2]) (rest := []) (en := [some (.long (Int32.toInt64 x2)), none, some (.long 0), none, some (.long 2), none]) (by decide) pq114 ⟨rfl, rfl⟩ rfl rfl rfl rfl rfl h ?_
    rintro _ mi5 ml6 ⟨y4, rfl, h⟩
    refine sg_if f126_16 (fun c => ?_) (fun c => ?_)
    · have h := h.1 c
      refine sg_ld f126_22 (v := .ref 47) rfl rfl ?_
      refine sg_ld f126_23 (v := .int x1) rfl rfl ?_
      refine sg_ld f126_24 (v := .int x2) rfl rfl ?_
      refine sg_ld f126_25 (v := .int x3) rfl rfl ?_
      refine sg_cV f126_26 (vs := [.int x1, .int x2, .int x3]) (r := 47) (rest := []) (en := [some (.ref 47), some (.int x1), some (.int x2), some (.int x3)]) pq124 ⟨rfl, rfl⟩ rfl rfl rfl rfl rfl rfl h ?_
      rintro _ mi8 ml9 ⟨y7, rfl, h⟩
      refine sg_st1 f126_29 (ls' := [some (.ref 47), some (.int x1), some (.int x2), some (.int x3), some (.int x4), some (.int y7)]) rfl rfl rfl rfl ?_
      refine sg_ld f126_31 (v := .int y7) rfl rfl ?_
      refine sg_if f126_33 (fun c => ?_) (fun c => ?_)
      · have h := h.1 c
        refine sg_ld f126_39 (v := .ref 47) rfl rfl ?_
        refine sg_getr f126_40 rfl rfl (w := 50) rfl ?_
        refine sg_psh f126_43 (v := .int 60) (by decide) ?_
        refine sg_ld f126_45 (v := .int x1) rfl rfl ?_
        refine sg_bin f126_46 rfl ?_
        refine sg_ld f126_47 (v := .int x3) rfl rfl ?_
        refine sg_bin f126_48 rfl ?_
        refine sg_ld f126_49 (v := .int x2) rfl rfl ?_
        refine sg_ld f126_50 (v := .int x4) rfl rfl ?_
        refine sg_cS f126_52 (vs := [.int x2, .int x4]) (rest := [.int ((60 * x1) + x3), .ref 50]) (en := [some (.int x2), some (.int x4)]) (by decide) pq125 ⟨rfl, rfl⟩ rfl rfl rfl rfl rfl h ?_
        rintro _ mi11 ml12 ⟨y10, rfl, h⟩
        obtain ⟨e13, h⟩ := h
        refine sg_iast f126_55 rfl e13 ?_
        refine sg_psh f126_56 (v := .int 1) (by decide) ?_
        exact sg_iret f126_57 pq126 rfl rfl ⟨_, rfl, h⟩
      · have h := h.2 c
        refine sg_ld f126_36 (v := .int y7) rfl rfl ?_
        exact sg_iret f126_38 pq126 rfl rfl ⟨_, rfl, h⟩
    · have h := h.2 c
      refine sg_psh f126_19 (v := .int (-2)) (by decide) ?_
      exact sg_iret f126_21 pq126 rfl rfl ⟨_, rfl, h⟩

/-! X7_get (III)I -/
theorem fe127 (pc : Nat) : gm_fetch 127 pc = gm_find pc cd_127 := rfl
theorem f127_0 : gm_fetch 127 0 = some (1, .iload_n 1, 0, 0, 0, 0) := (fe127 0).trans rfl
theorem f127_1 : gm_fetch 127 1 = some (4, .invokestatic 106, 157, 121, 0, 0) := (fe127 1).trans rfl
theorem f127_4 : gm_fetch 127 4 = some (7, .ifCond .eq 25, 0, 29, 0, 0) := (fe127 4).trans rfl
theorem f127_7 : gm_fetch 127 7 = some (8, .iload_n 2, 0, 0, 0, 0) := (fe127 7).trans rfl
theorem f127_8 : gm_fetch 127 8 = some (9, .i2l, 0, 0, 0, 0) := (fe127 8).trans rfl
theorem f127_9 : gm_fetch 127 9 = some (10, .lconst 0, 0, 0, 0, 0) := (fe127 9).trans rfl
theorem f127_10 : gm_fetch 127 10 = some (13, .ldc2_w 110, 6, 0, 0, 2) := (fe127 10).trans rfl
theorem f127_13 : gm_fetch 127 13 = some (16, .invokestatic 93, 158, 114, 0, 0) := (fe127 13).trans rfl
theorem f127_16 : gm_fetch 127 16 = some (19, .ifCond .eq 13, 0, 29, 0, 0) := (fe127 16).trans rfl
theorem f127_19 : gm_fetch 127 19 = some (20, .aload_n 0, 0, 0, 0, 0) := (fe127 19).trans rfl
theorem f127_20 : gm_fetch 127 20 = some (21, .iload_n 1, 0, 0, 0, 0) := (fe127 20).trans rfl
theorem f127_21 : gm_fetch 127 21 = some (22, .iload_n 2, 0, 0, 0, 0) := (fe127 21).trans rfl
theorem f127_22 : gm_fetch 127 22 = some (23, .iload_n 3, 0, 0, 0, 0) := (fe127 22).trans rfl
theorem f127_23 : gm_fetch 127 23 = some (26, .invokevirtual 116, 162, 124, 0, 0) := (fe127 23).trans rfl
theorem f127_26 : gm_fetch 127 26 = some (29, .ifCond .eq 6, 0, 32, 0, 0) := (fe127 26).trans rfl
theorem f127_29 : gm_fetch 127 29 = some (31, .ldc 124, 6, 0, 0, (-2147483648)) := (fe127 29).trans rfl
theorem f127_31 : gm_fetch 127 31 = some (32, .ireturn, 0, 0, 0, 0) := (fe127 31).trans rfl
theorem f127_32 : gm_fetch 127 32 = some (33, .aload_n 0, 0, 0, 0, 0) := (fe127 32).trans rfl
theorem f127_33 : gm_fetch 127 33 = some (36, .getfield 16, 86, 7, 2, 0) := (fe127 33).trans rfl
theorem f127_36 : gm_fetch 127 36 = some (38, .bipush 60, 0, 0, 0, 0) := (fe127 36).trans rfl
theorem f127_38 : gm_fetch 127 38 = some (39, .iload_n 1, 0, 0, 0, 0) := (fe127 38).trans rfl
theorem f127_39 : gm_fetch 127 39 = some (40, .imul, 0, 0, 0, 0) := (fe127 39).trans rfl
theorem f127_40 : gm_fetch 127 40 = some (41, .iload_n 3, 0, 0, 0, 0) := (fe127 40).trans rfl
theorem f127_41 : gm_fetch 127 41 = some (42, .iadd, 0, 0, 0, 0) := (fe127 41).trans rfl
theorem f127_42 : gm_fetch 127 42 = some (43, .iaload, 0, 0, 0, 0) := (fe127 42).trans rfl
theorem f127_43 : gm_fetch 127 43 = some (44, .ireturn, 0, 0, 0, 0) := (fe127 43).trans rfl
set_option maxRecDepth 10000 in
theorem rg127_0 {mi : Mi} {ml : Ml} {F : Int32 → Mi → Ml → Prop} {x1 : Int32} {x2 : Int32} {x3 : Int32}  (h : Sg 121 0 [some (.int x1)] [] mi ml (qi fun y1 mi2 ml3 => ((y1 = 0) → F (-2147483648) mi2 ml3) ∧ (¬ (y1 = 0) → Sg 114 0 [some (.long (Int32.toInt64 x2)), none, some (.long 0), none, some (.long 2), none] [] mi2 ml3 (qi fun y4 mi5 ml6 => ((y4 = 0) → F (-2147483648) mi5 ml6) ∧ (¬ (y4 = 0) → Sg 124 0 [some (.ref 47), some (.int x1), some (.int x2), some (.int x3)] [] mi5 ml6 (qi fun y7 mi8 ml9 => ((y7 = 0) → (vp_in ((60 * x1) + x3) 240) ∧ (F (mi8 50 (Int32.toNatClampNeg ((60 * x1) + x3))) mi8 ml9)) ∧ (¬ (y7 = 0) → F (-2147483648) mi8 ml9))))))) : Sg 127 0 [some (.ref 47), some (.int x1), some (.int x2), some (.int x3)] [] mi ml (qi F) := by
  refine sg_ld f127_0 (v := .int x1) rfl rfl ?_
  refine sg_cS f127_1 (vs := [.int x1]) (rest := []) (en := [some (.int x1)]) (by decide) pq121 ⟨rfl, rfl⟩ rfl rfl rfl rfl rfl h ?_
  rintro _ mi2 ml3 ⟨y1, rfl, h⟩
  refine sg_if f127_4 (fun c => ?_) (fun c => ?_)
  · have h := h.1 c
    refine sg_psh f127_29 (v := .int (-2147483648)) (by decide) ?_
    exact sg_iret f127_31 pq127 rfl rfl ⟨_, rfl, h⟩
  · have h := h.2 c
    refine sg_ld f127_7 (v := .int x2) rfl rfl ?_
    refine sg_i2l f127_8 ?_
    refine sg_psh f127_9 (v := .long 0) (by decide) ?_
    refine sg_psh f127_10 (v := .long 2) (by decide) ?_
    refine sg_cS f127_13 (vs := [.long (Int32.toInt64 x2), .long 0, .long 2]) (rest := []) (en := [some (.long (Int32.toInt64 x2)), none, some (.long 0), none, some (.long 2), none]) (by decide) pq114 ⟨rfl, rfl⟩ rfl rfl rfl rfl rfl h ?_
    rintro _ mi5 ml6 ⟨y4, rfl, h⟩
    refine sg_if f127_16 (fun c => ?_) (fun c => ?_)
    · have h := h.1 c
      refine sg_psh f127_29 (v := .int (-2147483648)) (by decide) ?_
      exact sg_iret f127_31 pq127 rfl rfl ⟨_, rfl, h⟩
    · have h := h.2 c
      refine sg_ld f127_19 (v := .ref 47) rfl rfl ?_
      refine sg_ld f127_20 (v := .int x1) rfl rfl ?_
      refine sg_ld f127_21 (v := .int x2) rfl rfl ?_
      refine sg_ld f127_22 (v := .int x3) rfl rfl ?_
      refine sg_cV f127_23 (vs := [.int x1, .int x2, .int x3]) (r := 47) (rest := []) (en := [some (.ref 47), some (.int x1), some (.int x2), some (.int x3)]) pq124 ⟨rfl, rfl⟩ rfl rfl rfl rfl rfl rfl h ?_
      rintro _ mi8 ml9 ⟨y7, rfl, h⟩
      refine sg_if f127_26 (fun c => ?_) (fun c => ?_)
      · have h := h.1 c
        refine sg_ld f127_32 (v := .ref 47) rfl rfl ?_
        refine sg_getr f127_33 rfl rfl (w := 50) rfl ?_
        refine sg_psh f127_36 (v := .int 60) (by decide) ?_
        refine sg_ld f127_38 (v := .int x1) rfl rfl ?_
        refine sg_bin f127_39 rfl ?_
        refine sg_ld f127_40 (v := .int x3) rfl rfl ?_
        refine sg_bin f127_41 rfl ?_
        obtain ⟨e10, h⟩ := h
        refine sg_iald f127_42 rfl e10 (x := (mi8 50 (Int32.toNatClampNeg ((60 * x1) + x3)))) rfl ?_
        exact sg_iret f127_43 pq127 rfl rfl ⟨_, rfl, h⟩
      · have h := h.2 c
        refine sg_psh f127_29 (v := .int (-2147483648)) (by decide) ?_
        exact sg_iret f127_31 pq127 rfl rfl ⟨_, rfl, h⟩

/-! X7_copy (IIIII)I -/
theorem fe128 (pc : Nat) : gm_fetch 128 pc = gm_find pc cd_128 := rfl
set_option maxRecDepth 10000 in
theorem f128_0 : gm_fetch 128 0 = some (1, .iload_n 1, 0, 0, 0, 0) := (fe128 0).trans rfl
set_option maxRecDepth 10000 in
theorem f128_1 : gm_fetch 128 1 = some (4, .invokestatic 106, 157, 121, 0, 0) := (fe128 1).trans rfl
set_option maxRecDepth 10000 in
theorem f128_4 : gm_fetch 128 4 = some (7, .ifCond .eq 10, 0, 14, 0, 0) := (fe128 4).trans rfl
set_option maxRecDepth 10000 in
theorem f128_7 : gm_fetch 128 7 = some (8, .iload_n 3, 0, 0, 0, 0) := (fe128 7).trans rfl
set_option maxRecDepth 10000 in
theorem f128_8 : gm_fetch 128 8 = some (11, .invokestatic 106, 157, 121, 0, 0) := (fe128 8).trans rfl
set_option maxRecDepth 10000 in
theorem f128_11 : gm_fetch 128 11 = some (14, .ifCond .ne 6, 0, 17, 0, 0) := (fe128 11).trans rfl
set_option maxRecDepth 10000 in
theorem f128_14 : gm_fetch 128 14 = some (16, .bipush (-2), 0, 0, 0, 0) := (fe128 14).trans rfl
set_option maxRecDepth 10000 in
theorem f128_16 : gm_fetch 128 16 = some (17, .ireturn, 0, 0, 0, 0) := (fe128 16).trans rfl
set_option maxRecDepth 10000 in
theorem f128_17 : gm_fetch 128 17 = some (18, .aload_n 0, 0, 0, 0, 0) := (fe128 17).trans rfl
set_option maxRecDepth 10000 in
theorem f128_18 : gm_fetch 128 18 = some (21, .getfield 7, 84, 7, 0, 0) := (fe128 18).trans rfl
set_option maxRecDepth 10000 in
theorem f128_21 : gm_fetch 128 21 = some (22, .iload_n 1, 0, 0, 0, 0) := (fe128 21).trans rfl
set_option maxRecDepth 10000 in
theorem f128_22 : gm_fetch 128 22 = some (23, .iaload, 0, 0, 0, 0) := (fe128 22).trans rfl
set_option maxRecDepth 10000 in
theorem f128_23 : gm_fetch 128 23 = some (26, .ifCond .lt 12, 0, 35, 0, 0) := (fe128 23).trans rfl
set_option maxRecDepth 10000 in
theorem f128_26 : gm_fetch 128 26 = some (27, .aload_n 0, 0, 0, 0, 0) := (fe128 26).trans rfl
set_option maxRecDepth 10000 in
theorem f128_27 : gm_fetch 128 27 = some (30, .getfield 7, 84, 7, 0, 0) := (fe128 27).trans rfl
set_option maxRecDepth 10000 in
theorem f128_30 : gm_fetch 128 30 = some (31, .iload_n 3, 0, 0, 0, 0) := (fe128 30).trans rfl
set_option maxRecDepth 10000 in
theorem f128_31 : gm_fetch 128 31 = some (32, .iaload, 0, 0, 0, 0) := (fe128 31).trans rfl
set_option maxRecDepth 10000 in
theorem f128_32 : gm_fetch 128 32 = some (35, .ifCond .ge 9, 0, 41, 0, 0) := (fe128 32).trans rfl
set_option maxRecDepth 10000 in
theorem f128_35 : gm_fetch 128 35 = some (36, .aload_n 0, 0, 0, 0, 0) := (fe128 35).trans rfl
set_option maxRecDepth 10000 in
theorem f128_36 : gm_fetch 128 36 = some (37, .iconst 1, 0, 0, 0, 0) := (fe128 36).trans rfl
set_option maxRecDepth 10000 in
theorem f128_37 : gm_fetch 128 37 = some (40, .invokevirtual 112, 159, 120, 0, 0) := (fe128 37).trans rfl
set_option maxRecDepth 10000 in
theorem f128_40 : gm_fetch 128 40 = some (41, .ireturn, 0, 0, 0, 0) := (fe128 40).trans rfl
set_option maxRecDepth 10000 in
theorem f128_41 : gm_fetch 128 41 = some (42, .aload_n 0, 0, 0, 0, 0) := (fe128 41).trans rfl
set_option maxRecDepth 10000 in
theorem f128_42 : gm_fetch 128 42 = some (45, .getfield 7, 84, 7, 0, 0) := (fe128 42).trans rfl
set_option maxRecDepth 10000 in
theorem f128_45 : gm_fetch 128 45 = some (46, .iload_n 1, 0, 0, 0, 0) := (fe128 45).trans rfl
set_option maxRecDepth 10000 in
theorem f128_46 : gm_fetch 128 46 = some (47, .iaload, 0, 0, 0, 0) := (fe128 46).trans rfl
set_option maxRecDepth 10000 in
theorem f128_47 : gm_fetch 128 47 = some (48, .aload_n 0, 0, 0, 0, 0) := (fe128 47).trans rfl
set_option maxRecDepth 10000 in
theorem f128_48 : gm_fetch 128 48 = some (51, .getfield 7, 84, 7, 0, 0) := (fe128 48).trans rfl
set_option maxRecDepth 10000 in
theorem f128_51 : gm_fetch 128 51 = some (52, .iload_n 3, 0, 0, 0, 0) := (fe128 51).trans rfl
set_option maxRecDepth 10000 in
theorem f128_52 : gm_fetch 128 52 = some (53, .iaload, 0, 0, 0, 0) := (fe128 52).trans rfl
set_option maxRecDepth 10000 in
theorem f128_53 : gm_fetch 128 53 = some (56, .if_icmp .eq 9, 0, 62, 0, 0) := (fe128 53).trans rfl
set_option maxRecDepth 10000 in
theorem f128_56 : gm_fetch 128 56 = some (57, .aload_n 0, 0, 0, 0, 0) := (fe128 56).trans rfl
set_option maxRecDepth 10000 in
theorem f128_57 : gm_fetch 128 57 = some (58, .iconst 4, 0, 0, 0, 0) := (fe128 57).trans rfl
set_option maxRecDepth 10000 in
theorem f128_58 : gm_fetch 128 58 = some (61, .invokevirtual 112, 159, 120, 0, 0) := (fe128 58).trans rfl
set_option maxRecDepth 10000 in
theorem f128_61 : gm_fetch 128 61 = some (62, .ireturn, 0, 0, 0, 0) := (fe128 61).trans rfl
set_option maxRecDepth 10000 in
theorem f128_62 : gm_fetch 128 62 = some (63, .iload_n 2, 0, 0, 0, 0) := (fe128 62).trans rfl
set_option maxRecDepth 10000 in
theorem f128_63 : gm_fetch 128 63 = some (66, .ifCond .lt 48, 0, 111, 0, 0) := (fe128 63).trans rfl
set_option maxRecDepth 10000 in
theorem f128_66 : gm_fetch 128 66 = some (68, .iload 4, 0, 0, 0, 0) := (fe128 66).trans rfl
set_option maxRecDepth 10000 in
theorem f128_68 : gm_fetch 128 68 = some (71, .ifCond .lt 43, 0, 111, 0, 0) := (fe128 68).trans rfl
set_option maxRecDepth 10000 in
theorem f128_71 : gm_fetch 128 71 = some (73, .iload 5, 0, 0, 0, 0) := (fe128 71).trans rfl
set_option maxRecDepth 10000 in
theorem f128_73 : gm_fetch 128 73 = some (76, .ifCond .lt 38, 0, 111, 0, 0) := (fe128 73).trans rfl
set_option maxRecDepth 10000 in
theorem f128_76 : gm_fetch 128 76 = some (77, .iload_n 2, 0, 0, 0, 0) := (fe128 76).trans rfl
set_option maxRecDepth 10000 in
theorem f128_77 : gm_fetch 128 77 = some (78, .i2l, 0, 0, 0, 0) := (fe128 77).trans rfl
set_option maxRecDepth 10000 in
theorem f128_78 : gm_fetch 128 78 = some (80, .iload 5, 0, 0, 0, 0) := (fe128 78).trans rfl
set_option maxRecDepth 10000 in
theorem f128_80 : gm_fetch 128 80 = some (81, .i2l, 0, 0, 0, 0) := (fe128 80).trans rfl
set_option maxRecDepth 10000 in
theorem f128_81 : gm_fetch 128 81 = some (82, .ladd, 0, 0, 0, 0) := (fe128 81).trans rfl
set_option maxRecDepth 10000 in
theorem f128_82 : gm_fetch 128 82 = some (83, .aload_n 0, 0, 0, 0, 0) := (fe128 82).trans rfl
set_option maxRecDepth 10000 in
theorem f128_83 : gm_fetch 128 83 = some (86, .getfield 13, 85, 7, 1, 0) := (fe128 83).trans rfl
set_option maxRecDepth 10000 in
theorem f128_86 : gm_fetch 128 86 = some (87, .iload_n 1, 0, 0, 0, 0) := (fe128 86).trans rfl
set_option maxRecDepth 10000 in
theorem f128_87 : gm_fetch 128 87 = some (88, .iaload, 0, 0, 0, 0) := (fe128 87).trans rfl
set_option maxRecDepth 10000 in
theorem f128_88 : gm_fetch 128 88 = some (89, .i2l, 0, 0, 0, 0) := (fe128 88).trans rfl
set_option maxRecDepth 10000 in
theorem f128_89 : gm_fetch 128 89 = some (90, .lcmp, 0, 0, 0, 0) := (fe128 89).trans rfl
set_option maxRecDepth 10000 in
theorem f128_90 : gm_fetch 128 90 = some (93, .ifCond .gt 21, 0, 111, 0, 0) := (fe128 90).trans rfl
set_option maxRecDepth 10000 in
theorem f128_93 : gm_fetch 128 93 = some (95, .iload 4, 0, 0, 0, 0) := (fe128 93).trans rfl
set_option maxRecDepth 10000 in
theorem f128_95 : gm_fetch 128 95 = some (96, .i2l, 0, 0, 0, 0) := (fe128 95).trans rfl
set_option maxRecDepth 10000 in
theorem f128_96 : gm_fetch 128 96 = some (98, .iload 5, 0, 0, 0, 0) := (fe128 96).trans rfl
set_option maxRecDepth 10000 in
theorem f128_98 : gm_fetch 128 98 = some (99, .i2l, 0, 0, 0, 0) := (fe128 98).trans rfl
set_option maxRecDepth 10000 in
theorem f128_99 : gm_fetch 128 99 = some (100, .ladd, 0, 0, 0, 0) := (fe128 99).trans rfl
set_option maxRecDepth 10000 in
theorem f128_100 : gm_fetch 128 100 = some (101, .aload_n 0, 0, 0, 0, 0) := (fe128 100).trans rfl
set_option maxRecDepth 10000 in
theorem f128_101 : gm_fetch 128 101 = some (104, .getfield 13, 85, 7, 1, 0) := (fe128 101).trans rfl
set_option maxRecDepth 10000 in
theorem f128_104 : gm_fetch 128 104 = some (105, .iload_n 3, 0, 0, 0, 0) := (fe128 104).trans rfl
set_option maxRecDepth 10000 in
theorem f128_105 : gm_fetch 128 105 = some (106, .iaload, 0, 0, 0, 0) := (fe128 105).trans rfl
set_option maxRecDepth 10000 in
theorem f128_106 : gm_fetch 128 106 = some (107, .i2l, 0, 0, 0, 0) := (fe128 106).trans rfl
set_option maxRecDepth 10000 in
theorem f128_107 : gm_fetch 128 107 = some (108, .lcmp, 0, 0, 0, 0) := (fe128 107).trans rfl
set_option maxRecDepth 10000 in
theorem f128_108 : gm_fetch 128 108 = some (111, .ifCond .le 9, 0, 117, 0, 0) := (fe128 108).trans rfl
set_option maxRecDepth 10000 in
theorem f128_111 : gm_fetch 128 111 = some (112, .aload_n 0, 0, 0, 0, 0) := (fe128 111).trans rfl
set_option maxRecDepth 10000 in
theorem f128_112 : gm_fetch 128 112 = some (113, .iconst 2, 0, 0, 0, 0) := (fe128 112).trans rfl
set_option maxRecDepth 10000 in
theorem f128_113 : gm_fetch 128 113 = some (116, .invokevirtual 112, 159, 120, 0, 0) := (fe128 113).trans rfl
set_option maxRecDepth 10000 in
theorem f128_116 : gm_fetch 128 116 = some (117, .ireturn, 0, 0, 0, 0) := (fe128 116).trans rfl
set_option maxRecDepth 10000 in
theorem f128_117 : gm_fetch 128 117 = some (118, .iconst 0, 0, 0, 0, 0) := (fe128 117).trans rfl
set_option maxRecDepth 10000 in
theorem f128_118 : gm_fetch 128 118 = some (120, .istore 6, 0, 0, 0, 0) := (fe128 118).trans rfl
set_option maxRecDepth 10000 in
theorem f128_120 : gm_fetch 128 120 = some (122, .iload 6, 0, 0, 0, 0) := (fe128 120).trans rfl
set_option maxRecDepth 10000 in
theorem f128_122 : gm_fetch 128 122 = some (124, .iload 5, 0, 0, 0, 0) := (fe128 122).trans rfl
set_option maxRecDepth 10000 in
theorem f128_124 : gm_fetch 128 124 = some (127, .if_icmp .ge 30, 0, 154, 0, 0) := (fe128 124).trans rfl
set_option maxRecDepth 10000 in
theorem f128_127 : gm_fetch 128 127 = some (128, .aload_n 0, 0, 0, 0, 0) := (fe128 127).trans rfl
set_option maxRecDepth 10000 in
theorem f128_128 : gm_fetch 128 128 = some (131, .getfield 19, 87, 7, 3, 0) := (fe128 128).trans rfl
set_option maxRecDepth 10000 in
theorem f128_131 : gm_fetch 128 131 = some (133, .iload 6, 0, 0, 0, 0) := (fe128 131).trans rfl
set_option maxRecDepth 10000 in
theorem f128_133 : gm_fetch 128 133 = some (134, .aload_n 0, 0, 0, 0, 0) := (fe128 133).trans rfl
set_option maxRecDepth 10000 in
theorem f128_134 : gm_fetch 128 134 = some (137, .getfield 16, 86, 7, 2, 0) := (fe128 134).trans rfl
set_option maxRecDepth 10000 in
theorem f128_137 : gm_fetch 128 137 = some (139, .bipush 60, 0, 0, 0, 0) := (fe128 137).trans rfl
set_option maxRecDepth 10000 in
theorem f128_139 : gm_fetch 128 139 = some (140, .iload_n 1, 0, 0, 0, 0) := (fe128 139).trans rfl
set_option maxRecDepth 10000 in
theorem f128_140 : gm_fetch 128 140 = some (141, .imul, 0, 0, 0, 0) := (fe128 140).trans rfl
set_option maxRecDepth 10000 in
theorem f128_141 : gm_fetch 128 141 = some (142, .iload_n 2, 0, 0, 0, 0) := (fe128 141).trans rfl
set_option maxRecDepth 10000 in
theorem f128_142 : gm_fetch 128 142 = some (143, .iadd, 0, 0, 0, 0) := (fe128 142).trans rfl
set_option maxRecDepth 10000 in
theorem f128_143 : gm_fetch 128 143 = some (145, .iload 6, 0, 0, 0, 0) := (fe128 143).trans rfl
set_option maxRecDepth 10000 in
theorem f128_145 : gm_fetch 128 145 = some (146, .iadd, 0, 0, 0, 0) := (fe128 145).trans rfl
set_option maxRecDepth 10000 in
theorem f128_146 : gm_fetch 128 146 = some (147, .iaload, 0, 0, 0, 0) := (fe128 146).trans rfl
set_option maxRecDepth 10000 in
theorem f128_147 : gm_fetch 128 147 = some (148, .iastore, 0, 0, 0, 0) := (fe128 147).trans rfl
set_option maxRecDepth 10000 in
theorem f128_148 : gm_fetch 128 148 = some (151, .iinc 6 1, 0, 0, 0, 0) := (fe128 148).trans rfl
set_option maxRecDepth 10000 in
theorem f128_151 : gm_fetch 128 151 = some (154, .goto (-31), 0, 120, 0, 0) := (fe128 151).trans rfl
set_option maxRecDepth 10000 in
theorem f128_154 : gm_fetch 128 154 = some (155, .iconst 0, 0, 0, 0, 0) := (fe128 154).trans rfl
set_option maxRecDepth 10000 in
theorem f128_155 : gm_fetch 128 155 = some (157, .istore 6, 0, 0, 0, 0) := (fe128 155).trans rfl
set_option maxRecDepth 10000 in
theorem f128_157 : gm_fetch 128 157 = some (159, .iload 6, 0, 0, 0, 0) := (fe128 157).trans rfl
set_option maxRecDepth 10000 in
theorem f128_159 : gm_fetch 128 159 = some (161, .iload 5, 0, 0, 0, 0) := (fe128 159).trans rfl
set_option maxRecDepth 10000 in
theorem f128_161 : gm_fetch 128 161 = some (164, .if_icmp .ge 31, 0, 192, 0, 0) := (fe128 161).trans rfl
set_option maxRecDepth 10000 in
theorem f128_164 : gm_fetch 128 164 = some (165, .aload_n 0, 0, 0, 0, 0) := (fe128 164).trans rfl
set_option maxRecDepth 10000 in
theorem f128_165 : gm_fetch 128 165 = some (168, .getfield 16, 86, 7, 2, 0) := (fe128 165).trans rfl
set_option maxRecDepth 10000 in
theorem f128_168 : gm_fetch 128 168 = some (170, .bipush 60, 0, 0, 0, 0) := (fe128 168).trans rfl
set_option maxRecDepth 10000 in
theorem f128_170 : gm_fetch 128 170 = some (171, .iload_n 3, 0, 0, 0, 0) := (fe128 170).trans rfl
set_option maxRecDepth 10000 in
theorem f128_171 : gm_fetch 128 171 = some (172, .imul, 0, 0, 0, 0) := (fe128 171).trans rfl
set_option maxRecDepth 10000 in
theorem f128_172 : gm_fetch 128 172 = some (174, .iload 4, 0, 0, 0, 0) := (fe128 172).trans rfl
set_option maxRecDepth 10000 in
theorem f128_174 : gm_fetch 128 174 = some (175, .iadd, 0, 0, 0, 0) := (fe128 174).trans rfl
set_option maxRecDepth 10000 in
theorem f128_175 : gm_fetch 128 175 = some (177, .iload 6, 0, 0, 0, 0) := (fe128 175).trans rfl
set_option maxRecDepth 10000 in
theorem f128_177 : gm_fetch 128 177 = some (178, .iadd, 0, 0, 0, 0) := (fe128 177).trans rfl
set_option maxRecDepth 10000 in
theorem f128_178 : gm_fetch 128 178 = some (179, .aload_n 0, 0, 0, 0, 0) := (fe128 178).trans rfl
set_option maxRecDepth 10000 in
theorem f128_179 : gm_fetch 128 179 = some (182, .getfield 19, 87, 7, 3, 0) := (fe128 179).trans rfl
set_option maxRecDepth 10000 in
theorem f128_182 : gm_fetch 128 182 = some (184, .iload 6, 0, 0, 0, 0) := (fe128 182).trans rfl
set_option maxRecDepth 10000 in
theorem f128_184 : gm_fetch 128 184 = some (185, .iaload, 0, 0, 0, 0) := (fe128 184).trans rfl
set_option maxRecDepth 10000 in
theorem f128_185 : gm_fetch 128 185 = some (186, .iastore, 0, 0, 0, 0) := (fe128 185).trans rfl
set_option maxRecDepth 10000 in
theorem f128_186 : gm_fetch 128 186 = some (189, .iinc 6 1, 0, 0, 0, 0) := (fe128 186).trans rfl
set_option maxRecDepth 10000 in
theorem f128_189 : gm_fetch 128 189 = some (192, .goto (-32), 0, 157, 0, 0) := (fe128 189).trans rfl
set_option maxRecDepth 10000 in
theorem f128_192 : gm_fetch 128 192 = some (193, .iconst 1, 0, 0, 0, 0) := (fe128 192).trans rfl
set_option maxRecDepth 10000 in
theorem f128_193 : gm_fetch 128 193 = some (194, .ireturn, 0, 0, 0, 0) := (fe128 193).trans rfl
set_option maxRecDepth 10000 in
theorem rg128_0 {mi : Mi} {ml : Ml} {F : Int32 → Mi → Ml → Prop} {x1 : Int32} {x2 : Int32} {x3 : Int32} {x4 : Int32} {x5 : Int32}  (h : Sg 121 0 [some (.int x1)] [] mi ml (qi fun y1 mi2 ml3 => ((y1 = 0) → F (-2) mi2 ml3) ∧ (¬ (y1 = 0) → Sg 121 0 [some (.int x3)] [] mi2 ml3 (qi fun y4 mi5 ml6 => ((¬ y4 = 0) → (vp_in x1 4) ∧ ((((mi5 48 (Int32.toNatClampNeg x1)) < 0) → Sg 128 35 [some (.ref 47), some (.int x1), some (.int x2), some (.int x3), some (.int x4), some (.int x5), none] [] mi5 ml6 (qi F)) ∧ (¬ ((mi5 48 (Int32.toNatClampNeg x1)) < 0) → (vp_in x3 4) ∧ (((0 ≤ (mi5 48 (Int32.toNatClampNeg x3))) → (((mi5 48 (Int32.toNatClampNeg x1)) = (mi5 48 (Int32.toNatClampNeg x3))) → ((x2 < 0) → Sg 128 111 [some (.ref 47), some (.int x1), some (.int x2), some (.int x3), some (.int x4), some (.int x5), none] [] mi5 ml6 (qi F)) ∧ (¬ (x2 < 0) → ((x4 < 0) → Sg 128 111 [some (.ref 47), some (.int x1), some (.int x2), some (.int x3), some (.int x4), some (.int x5), none] [] mi5 ml6 (qi F)) ∧ (¬ (x4 < 0) → ((x5 < 0) → Sg 128 111 [some (.ref 47), some (.int x1), some (.int x2), some (.int x3), some (.int x4), some (.int x5), none] [] mi5 ml6 (qi F)) ∧ (¬ (x5 < 0) → ((0 < (lg_cmp ((Int32.toInt64 x2) + (Int32.toInt64 x5)) (Int32.toInt64 (mi5 49 (Int32.toNatClampNeg x1))))) → Sg 128 111 [some (.ref 47), some (.int x1), some (.int x2), some (.int x3), some (.int x4), some (.int x5), none] [] mi5 ml6 (qi F)) ∧ (¬ (0 < (lg_cmp ((Int32.toInt64 x2) + (Int32.toInt64 x5)) (Int32.toInt64 (mi5 49 (Int32.toNatClampNeg x1))))) → (((lg_cmp ((Int32.toInt64 x4) + (Int32.toInt64 x5)) (Int32.toInt64 (mi5 49 (Int32.toNatClampNeg x3)))) ≤ 0) → Sg 128 120 [some (.ref 47), some (.int x1), some (.int x2), some (.int x3), some (.int x4), some (.int x5), some (.int 0)] [] mi5 ml6 (qi F)) ∧ (¬ ((lg_cmp ((Int32.toInt64 x4) + (Int32.toInt64 x5)) (Int32.toInt64 (mi5 49 (Int32.toNatClampNeg x3)))) ≤ 0) → Sg 128 111 [some (.ref 47), some (.int x1), some (.int x2), some (.int x3), some (.int x4), some (.int x5), none] [] mi5 ml6 (qi F))))))) ∧ (¬ ((mi5 48 (Int32.toNatClampNeg x1)) = (mi5 48 (Int32.toNatClampNeg x3))) → Sg 120 0 [some (.ref 47), some (.int 4)] [] mi5 ml6 (qi fun y9 mi10 ml11 => F y9 mi10 ml11))) ∧ (¬ (0 ≤ (mi5 48 (Int32.toNatClampNeg x3))) → Sg 128 35 [some (.ref 47), some (.int x1), some (.int x2), some (.int x3), some (.int x4), some (.int x5), none] [] mi5 ml6 (qi F)))))) ∧ (¬ (¬ y4 = 0) → F (-2) mi5 ml6))))) : Sg 128 0 [some (.ref 47), some (.int x1), some (.int x2), some (.int x3), some (.int x4), some (.int x5), none] [] mi ml (qi F) := by
  refine sg_ld f128_0 (v := .int x1) rfl rfl ?_
  refine sg_cS f128_1 (vs := [.int x1]) (rest := []) (en := [some (.int x1)]) (by decide) pq121 ⟨rfl, rfl⟩ rfl rfl rfl rfl rfl h ?_
  rintro _ mi2 ml3 ⟨y1, rfl, h⟩
  refine sg_if f128_4 (fun c => ?_) (fun c => ?_)
  · have h := h.1 c
    refine sg_psh f128_14 (v := .int (-2)) (by decide) ?_
    exact sg_iret f128_16 pq128 rfl rfl ⟨_, rfl, h⟩
  · have h := h.2 c
    refine sg_ld f128_7 (v := .int x3) rfl rfl ?_
    refine sg_cS f128_8 (vs := [.int x3]) (rest := []) (en := [some (.int x3)]) (by decide) pq121 ⟨rfl, rfl⟩ rfl rfl rfl rfl rfl h ?_
    rintro _ mi5 ml6 ⟨y4, rfl, h⟩
    refine sg_if f128_11 (fun c => ?_) (fun c => ?_)
    · have h := h.1 c
      refine sg_ld f128_17 (v := .ref 47) rfl rfl ?_
      refine sg_getr f128_18 rfl rfl (w := 48) rfl ?_
      refine sg_ld f128_21 (v := .int x1) rfl rfl ?_
      obtain ⟨e7, h⟩ := h
      refine sg_iald f128_22 rfl e7 (x := (mi5 48 (Int32.toNatClampNeg x1))) rfl ?_
      refine sg_if f128_23 (fun c => ?_) (fun c => ?_)
      · have h := h.1 c
        exact h
      · have h := h.2 c
        refine sg_ld f128_26 (v := .ref 47) rfl rfl ?_
        refine sg_getr f128_27 rfl rfl (w := 48) rfl ?_
        refine sg_ld f128_30 (v := .int x3) rfl rfl ?_
        obtain ⟨e8, h⟩ := h
        refine sg_iald f128_31 rfl e8 (x := (mi5 48 (Int32.toNatClampNeg x3))) rfl ?_
        refine sg_if f128_32 (fun c => ?_) (fun c => ?_)
        · have h := h.1 c
          refine sg_ld f128_41 (v := .ref 47) rfl rfl ?_
          refine sg_getr f128_42 rfl rfl (w := 48) rfl ?_
          refine sg_ld f128_45 (v := .int x1) rfl rfl ?_
          refine sg_iald f128_46 rfl e7 (x := (mi5 48 (Int32.toNatClampNeg x1))) rfl ?_
          refine sg_ld f128_47 (v := .ref 47) rfl rfl ?_
          refine sg_getr f128_48 rfl rfl (w := 48) rfl ?_
          refine sg_ld f128_51 (v := .int x3) rfl rfl ?_
          refine sg_iald f128_52 rfl e8 (x := (mi5 48 (Int32.toNatClampNeg x3))) rfl ?_
          refine sg_icmp f128_53 (fun c => ?_) (fun c => ?_)
          · have h := h.1 c
            refine sg_ld f128_62 (v := .int x2) rfl rfl ?_
            refine sg_if f128_63 (fun c => ?_) (fun c => ?_)
            · have h := h.1 c
              exact h
            · have h := h.2 c
              refine sg_ld f128_66 (v := .int x4) rfl rfl ?_
              refine sg_if f128_68 (fun c => ?_) (fun c => ?_)
              · have h := h.1 c
                exact h
              · have h := h.2 c
                refine sg_ld f128_71 (v := .int x5) rfl rfl ?_
                refine sg_if f128_73 (fun c => ?_) (fun c => ?_)
                · have h := h.1 c
                  exact h
                · have h := h.2 c
                  refine sg_ld f128_76 (v := .int x2) rfl rfl ?_
                  refine sg_i2l f128_77 ?_
                  refine sg_ld f128_78 (v := .int x5) rfl rfl ?_
                  refine sg_i2l f128_80 ?_
                  refine sg_binl f128_81 rfl ?_
                  refine sg_ld f128_82 (v := .ref 47) rfl rfl ?_
                  refine sg_getr f128_83 rfl rfl (w := 49) rfl ?_
                  refine sg_ld f128_86 (v := .int x1) rfl rfl ?_
                  refine sg_iald f128_87 rfl e7 (x := (mi5 49 (Int32.toNatClampNeg x1))) rfl ?_
                  refine sg_i2l f128_88 ?_
                  refine sg_lcmp f128_89 ?_
                  refine sg_if f128_90 (fun c => ?_) (fun c => ?_)
                  · have h := h.1 c
                    exact h
                  · have h := h.2 c
                    refine sg_ld f128_93 (v := .int x4) rfl rfl ?_
                    refine sg_i2l f128_95 ?_
                    refine sg_ld f128_96 (v := .int x5) rfl rfl ?_
                    refine sg_i2l f128_98 ?_
                    refine sg_binl f128_99 rfl ?_
                    refine sg_ld f128_100 (v := .ref 47) rfl rfl ?_
                    refine sg_getr f128_101 rfl rfl (w := 49) rfl ?_
                    refine sg_ld f128_104 (v := .int x3) rfl rfl ?_
                    refine sg_iald f128_105 rfl e8 (x := (mi5 49 (Int32.toNatClampNeg x3))) rfl ?_
                    refine sg_i2l f128_106 ?_
                    refine sg_lcmp f128_107 ?_
                    refine sg_if f128_108 (fun c => ?_) (fun c => ?_)
                    · have h := h.1 c
                      refine sg_psh f128_117 (v := .int 0) (by decide) ?_
                      refine sg_st1 f128_118 (ls' := [some (.ref 47), some (.int x1), some (.int x2), some (.int x3), some (.int x4), some (.int x5), some (.int 0)]) rfl rfl rfl rfl ?_
                      exact h
                    · have h := h.2 c
                      exact h
          · have h := h.2 c
            refine sg_ld f128_56 (v := .ref 47) rfl rfl ?_
            refine sg_psh f128_57 (v := .int 4) (by decide) ?_
            refine sg_cV f128_58 (vs := [.int 4]) (r := 47) (rest := []) (en := [some (.ref 47), some (.int 4)]) pq120 ⟨rfl, rfl⟩ rfl rfl rfl rfl rfl rfl h ?_
            rintro _ mi10 ml11 ⟨y9, rfl, h⟩
            exact sg_iret f128_61 pq128 rfl rfl ⟨_, rfl, h⟩
        · have h := h.2 c
          exact h
    · have h := h.2 c
      refine sg_psh f128_14 (v := .int (-2)) (by decide) ?_
      exact sg_iret f128_16 pq128 rfl rfl ⟨_, rfl, h⟩

set_option maxRecDepth 10000 in
theorem rg128_35 {mi : Mi} {ml : Ml} {F : Int32 → Mi → Ml → Prop} {x1 : Int32} {x2 : Int32} {x3 : Int32} {x4 : Int32} {x5 : Int32}  (h : Sg 120 0 [some (.ref 47), some (.int 1)] [] mi ml (qi fun y1 mi2 ml3 => F y1 mi2 ml3)) : Sg 128 35 [some (.ref 47), some (.int x1), some (.int x2), some (.int x3), some (.int x4), some (.int x5), none] [] mi ml (qi F) := by
  refine sg_ld f128_35 (v := .ref 47) rfl rfl ?_
  refine sg_psh f128_36 (v := .int 1) (by decide) ?_
  refine sg_cV f128_37 (vs := [.int 1]) (r := 47) (rest := []) (en := [some (.ref 47), some (.int 1)]) pq120 ⟨rfl, rfl⟩ rfl rfl rfl rfl rfl rfl h ?_
  rintro _ mi2 ml3 ⟨y1, rfl, h⟩
  exact sg_iret f128_40 pq128 rfl rfl ⟨_, rfl, h⟩

set_option maxRecDepth 10000 in
theorem rg128_111 {mi : Mi} {ml : Ml} {F : Int32 → Mi → Ml → Prop} {x1 : Int32} {x2 : Int32} {x3 : Int32} {x4 : Int32} {x5 : Int32}  (h : Sg 120 0 [some (.ref 47), some (.int 2)] [] mi ml (qi fun y1 mi2 ml3 => F y1 mi2 ml3)) : Sg 128 111 [some (.ref 47), some (.int x1), some (.int x2), some (.int x3), some (.int x4), some (.int x5), none] [] mi ml (qi F) := by
  refine sg_ld f128_111 (v := .ref 47) rfl rfl ?_
  refine sg_psh f128_112 (v := .int 2) (by decide) ?_
  refine sg_cV f128_113 (vs := [.int 2]) (r := 47) (rest := []) (en := [some (.ref 47), some (.int 2)]) pq120 ⟨rfl, rfl⟩ rfl rfl rfl rfl rfl rfl h ?_
  rintro _ mi2 ml3 ⟨y1, rfl, h⟩
  exact sg_iret f128_116 pq128 rfl rfl ⟨_, rfl, h⟩

set_option maxRecDepth 10000 in
theorem rg128_120 {mi : Mi} {ml : Ml} {F : Int32 → Mi → Ml → Prop} {x1 : Int32} {x2 : Int32} {x3 : Int32} {x4 : Int32} {x5 : Int32} {x6 : Int32}  (h : ((x5 ≤ x6) → Sg 128 157 [some (.ref 47), some (.int x1), some (.int x2), some (.int x3), some (.int x4), some (.int x5), some (.int 0)] [] mi ml (qi F)) ∧ (¬ (x5 ≤ x6) → (vp_in (((60 * x1) + x2) + x6) 240) ∧ ((vp_in x6 60) ∧ (Sg 128 120 [some (.ref 47), some (.int x1), some (.int x2), some (.int x3), some (.int x4), some (.int x5), some (.int (x6 + 1))] [] (va_up mi 51 (va_up (mi 51) (Int32.toNatClampNeg x6) (mi 50 (Int32.toNatClampNeg (((60 * x1) + x2) + x6))))) ml (qi F))))) : Sg 128 120 [some (.ref 47), some (.int x1), some (.int x2), some (.int x3), some (.int x4), some (.int x5), some (.int x6)] [] mi ml (qi F) := by
  refine sg_ld f128_120 (v := .int x6) rfl rfl ?_
  refine sg_ld f128_122 (v := .int x5) rfl rfl ?_
  refine sg_icmp f128_124 (fun c => ?_) (fun c => ?_)
  · have h := h.1 c
    refine sg_psh f128_154 (v := .int 0) (by decide) ?_
    refine sg_st1 f128_155 (ls' := [some (.ref 47), some (.int x1), some (.int x2), some (.int x3), some (.int x4), some (.int x5), some (.int 0)]) rfl rfl rfl rfl ?_
    exact h
  · have h := h.2 c
    refine sg_ld f128_127 (v := .ref 47) rfl rfl ?_
    refine sg_getr f128_128 rfl rfl (w := 51) rfl ?_
    refine sg_ld f128_131 (v := .int x6) rfl rfl ?_
    refine sg_ld f128_133 (v := .ref 47) rfl rfl ?_
    refine sg_getr f128_134 rfl rfl (w := 50) rfl ?_
    refine sg_psh f128_137 (v := .int 60) (by decide) ?_
    refine sg_ld f128_139 (v := .int x1) rfl rfl ?_
    refine sg_bin f128_140 rfl ?_
    refine sg_ld f128_141 (v := .int x2) rfl rfl ?_
    refine sg_bin f128_142 rfl ?_
    refine sg_ld f128_143 (v := .int x6) rfl rfl ?_
    refine sg_bin f128_145 rfl ?_
    obtain ⟨e1, h⟩ := h
    refine sg_iald f128_146 rfl e1 (x := (mi 50 (Int32.toNatClampNeg (((60 * x1) + x2) + x6)))) rfl ?_
    obtain ⟨e2, h⟩ := h
    refine sg_iast f128_147 rfl e2 ?_
    refine sg_inc f128_148 (d := 1) (ls' := [some (.ref 47), some (.int x1), some (.int x2), some (.int x3), some (.int x4), some (.int x5), some (.int (x6 + 1))]) rfl (by decide) rfl ?_
    refine sg_goto f128_151 ?_
    exact h

set_option maxRecDepth 10000 in
theorem rg128_157 {mi : Mi} {ml : Ml} {F : Int32 → Mi → Ml → Prop} {x1 : Int32} {x2 : Int32} {x3 : Int32} {x4 : Int32} {x5 : Int32} {x6 : Int32}  (h : ((x5 ≤ x6) → F 1 mi ml) ∧ (¬ (x5 ≤ x6) → (vp_in x6 60) ∧ ((vp_in (((60 * x3) + x4) + x6) 240) ∧ (Sg 128 157 [some (.ref 47), some (.int x1), some (.int x2), some (.int x3), some (.int x4), some (.int x5), some (.int (x6 + 1))] [] (va_up mi 50 (va_up (mi 50) (Int32.toNatClampNeg (((60 * x3) + x4) + x6)) (mi 51 (Int32.toNatClampNeg x6)))) ml (qi F))))) : Sg 128 157 [some (.ref 47), some (.int x1), some (.int x2), some (.int x3), some (.int x4), some (.int x5), some (.int x6)] [] mi ml (qi F) := by
  refine sg_ld f128_157 (v := .int x6) rfl rfl ?_
  refine sg_ld f128_159 (v := .int x5) rfl rfl ?_
  refine sg_icmp f128_161 (fun c => ?_) (fun c => ?_)
  · have h := h.1 c
    refine sg_psh f128_192 (v := .int 1) (by decide) ?_
    exact sg_iret f128_193 pq128 rfl rfl ⟨_, rfl, h⟩
  · have h := h.2 c
    refine sg_ld f128_164 (v := .ref 47) rfl rfl ?_
    refine sg_getr f128_165 rfl rfl (w := 50) rfl ?_
    refine sg_psh f128_168 (v := .int 60) (by decide) ?_
    refine sg_ld f128_170 (v := .int x3) rfl rfl ?_
    refine sg_bin f128_171 rfl ?_
    refine sg_ld f128_172 (v := .int x4) rfl rfl ?_
    refine sg_bin f128_174 rfl ?_
    refine sg_ld f128_175 (v := .int x6) rfl rfl ?_
    refine sg_bin f128_177 rfl ?_
    refine sg_ld f128_178 (v := .ref 47) rfl rfl ?_
    refine sg_getr f128_179 rfl rfl (w := 51) rfl ?_
    refine sg_ld f128_182 (v := .int x6) rfl rfl ?_
    obtain ⟨e1, h⟩ := h
    refine sg_iald f128_184 rfl e1 (x := (mi 51 (Int32.toNatClampNeg x6))) rfl ?_
    obtain ⟨e2, h⟩ := h
    refine sg_iast f128_185 rfl e2 ?_
    refine sg_inc f128_186 (d := 1) (ls' := [some (.ref 47), some (.int x1), some (.int x2), some (.int x3), some (.int x4), some (.int x5), some (.int (x6 + 1))]) rfl (by decide) rfl ?_
    refine sg_goto f128_189 ?_
    exact h

/-! X7_isRow (I)Z -/
theorem fe129 (pc : Nat) : gm_fetch 129 pc = gm_find pc cd_129 := rfl
theorem f129_0 : gm_fetch 129 0 = some (1, .iload_n 1, 0, 0, 0, 0) := (fe129 0).trans rfl
theorem f129_1 : gm_fetch 129 1 = some (2, .i2l, 0, 0, 0, 0) := (fe129 1).trans rfl
theorem f129_2 : gm_fetch 129 2 = some (3, .lconst 0, 0, 0, 0, 0) := (fe129 2).trans rfl
theorem f129_3 : gm_fetch 129 3 = some (4, .aload_n 0, 0, 0, 0, 0) := (fe129 3).trans rfl
theorem f129_4 : gm_fetch 129 4 = some (7, .getfield 77, 89, 7, 5, 0) := (fe129 4).trans rfl
theorem f129_7 : gm_fetch 129 7 = some (8, .iconst 1, 0, 0, 0, 0) := (fe129 7).trans rfl
theorem f129_8 : gm_fetch 129 8 = some (9, .isub, 0, 0, 0, 0) := (fe129 8).trans rfl
theorem f129_9 : gm_fetch 129 9 = some (10, .i2l, 0, 0, 0, 0) := (fe129 9).trans rfl
theorem f129_10 : gm_fetch 129 10 = some (13, .invokestatic 93, 158, 114, 0, 0) := (fe129 10).trans rfl
theorem f129_13 : gm_fetch 129 13 = some (14, .ireturn, 0, 0, 0, 0) := (fe129 13).trans rfl
set_option maxRecDepth 10000 in
theorem rg129_0 {mi : Mi} {ml : Ml} {F : Int32 → Mi → Ml → Prop} {x1 : Int32}  (h : Sg 114 0 [some (.long (Int32.toInt64 x1)), none, some (.long 0), none, some (.long (Int32.toInt64 ((mi 47 5) - 1))), none] [] mi ml (qi fun y1 mi2 ml3 => (y1 = 0 ∨ y1 = 1) ∧ F y1 mi2 ml3)) : Sg 129 0 [some (.ref 47), some (.int x1)] [] mi ml (qi F) := by
  refine sg_ld f129_0 (v := .int x1) rfl rfl ?_
  refine sg_i2l f129_1 ?_
  refine sg_psh f129_2 (v := .long 0) (by decide) ?_
  refine sg_ld f129_3 (v := .ref 47) rfl rfl ?_
  refine sg_geti f129_4 rfl rfl (x := (mi 47 5)) rfl ?_
  refine sg_psh f129_7 (v := .int 1) (by decide) ?_
  refine sg_bin f129_8 rfl ?_
  refine sg_i2l f129_9 ?_
  refine sg_cS f129_10 (vs := [.long (Int32.toInt64 x1), .long 0, .long (Int32.toInt64 ((mi 47 5) - 1))]) (rest := []) (en := [some (.long (Int32.toInt64 x1)), none, some (.long 0), none, some (.long (Int32.toInt64 ((mi 47 5) - 1))), none]) (by decide) pq114 ⟨rfl, rfl⟩ rfl rfl rfl rfl rfl h ?_
  rintro _ mi2 ml3 ⟨y1, rfl, h⟩
  exact sg_iret f129_13 pq129 rfl (gm_nz h.1) ⟨_, rfl, h.2⟩

/-! X7_isCell (II)Z -/
theorem fe130 (pc : Nat) : gm_fetch 130 pc = gm_find pc cd_130 := rfl
theorem f130_0 : gm_fetch 130 0 = some (1, .iload_n 1, 0, 0, 0, 0) := (fe130 0).trans rfl
theorem f130_1 : gm_fetch 130 1 = some (2, .i2l, 0, 0, 0, 0) := (fe130 1).trans rfl
theorem f130_2 : gm_fetch 130 2 = some (3, .lconst 0, 0, 0, 0, 0) := (fe130 2).trans rfl
theorem f130_3 : gm_fetch 130 3 = some (4, .aload_n 0, 0, 0, 0, 0) := (fe130 3).trans rfl
theorem f130_4 : gm_fetch 130 4 = some (7, .getfield 81, 90, 7, 6, 0) := (fe130 4).trans rfl
theorem f130_7 : gm_fetch 130 7 = some (8, .iconst 1, 0, 0, 0, 0) := (fe130 7).trans rfl
theorem f130_8 : gm_fetch 130 8 = some (9, .isub, 0, 0, 0, 0) := (fe130 8).trans rfl
theorem f130_9 : gm_fetch 130 9 = some (10, .i2l, 0, 0, 0, 0) := (fe130 9).trans rfl
theorem f130_10 : gm_fetch 130 10 = some (13, .invokestatic 93, 158, 114, 0, 0) := (fe130 10).trans rfl
theorem f130_13 : gm_fetch 130 13 = some (16, .ifCond .eq 15, 0, 28, 0, 0) := (fe130 13).trans rfl
theorem f130_16 : gm_fetch 130 16 = some (17, .aload_n 0, 0, 0, 0, 0) := (fe130 16).trans rfl
theorem f130_17 : gm_fetch 130 17 = some (18, .iload_n 2, 0, 0, 0, 0) := (fe130 17).trans rfl
theorem f130_18 : gm_fetch 130 18 = some (21, .invokevirtual 125, 173, 129, 0, 0) := (fe130 18).trans rfl
theorem f130_21 : gm_fetch 130 21 = some (24, .ifCond .eq 7, 0, 28, 0, 0) := (fe130 21).trans rfl
theorem f130_24 : gm_fetch 130 24 = some (25, .iconst 1, 0, 0, 0, 0) := (fe130 24).trans rfl
theorem f130_25 : gm_fetch 130 25 = some (28, .goto 4, 0, 29, 0, 0) := (fe130 25).trans rfl
theorem f130_28 : gm_fetch 130 28 = some (29, .iconst 0, 0, 0, 0, 0) := (fe130 28).trans rfl
theorem f130_29 : gm_fetch 130 29 = some (30, .ireturn, 0, 0, 0, 0) := (fe130 29).trans rfl
set_option maxRecDepth 10000 in
theorem rg130_0 {mi : Mi} {ml : Ml} {F : Int32 → Mi → Ml → Prop} {x1 : Int32} {x2 : Int32}  (h : Sg 114 0 [some (.long (Int32.toInt64 x1)), none, some (.long 0), none, some (.long (Int32.toInt64 ((mi 47 6) - 1))), none] [] mi ml (qi fun y1 mi2 ml3 => ((y1 = 0) → F 0 mi2 ml3) ∧ (¬ (y1 = 0) → Sg 129 0 [some (.ref 47), some (.int x2)] [] mi2 ml3 (qi fun y4 mi5 ml6 => ((y4 = 0) → F 0 mi5 ml6) ∧ (¬ (y4 = 0) → F 1 mi5 ml6))))) : Sg 130 0 [some (.ref 47), some (.int x1), some (.int x2)] [] mi ml (qi F) := by
  refine sg_ld f130_0 (v := .int x1) rfl rfl ?_
  refine sg_i2l f130_1 ?_
  refine sg_psh f130_2 (v := .long 0) (by decide) ?_
  refine sg_ld f130_3 (v := .ref 47) rfl rfl ?_
  refine sg_geti f130_4 rfl rfl (x := (mi 47 6)) rfl ?_
  refine sg_psh f130_7 (v := .int 1) (by decide) ?_
  refine sg_bin f130_8 rfl ?_
  refine sg_i2l f130_9 ?_
  refine sg_cS f130_10 (vs := [.long (Int32.toInt64 x1), .long 0, .long (Int32.toInt64 ((mi 47 6) - 1))]) (rest := []) (en := [some (.long (Int32.toInt64 x1)), none, some (.long 0), none, some (.long (Int32.toInt64 ((mi 47 6) - 1))), none]) (by decide) pq114 ⟨rfl, rfl⟩ rfl rfl rfl rfl rfl h ?_
  rintro _ mi2 ml3 ⟨y1, rfl, h⟩
  refine sg_if f130_13 (fun c => ?_) (fun c => ?_)
  · have h := h.1 c
    refine sg_psh f130_28 (v := .int 0) (by decide) ?_
    exact sg_iret f130_29 pq130 rfl (by decide) ⟨_, rfl, h⟩
  · have h := h.2 c
    refine sg_ld f130_16 (v := .ref 47) rfl rfl ?_
    refine sg_ld f130_17 (v := .int x2) rfl rfl ?_
    refine sg_cV f130_18 (vs := [.int x2]) (r := 47) (rest := []) (en := [some (.ref 47), some (.int x2)]) pq129 ⟨rfl, rfl⟩ rfl rfl rfl rfl rfl rfl h ?_
    rintro _ mi5 ml6 ⟨y4, rfl, h⟩
    refine sg_if f130_21 (fun c => ?_) (fun c => ?_)
    · have h := h.1 c
      refine sg_psh f130_28 (v := .int 0) (by decide) ?_
      exact sg_iret f130_29 pq130 rfl (by decide) ⟨_, rfl, h⟩
    · have h := h.2 c
      refine sg_psh f130_24 (v := .int 1) (by decide) ?_
      refine sg_goto f130_25 ?_
      exact sg_iret f130_29 pq130 rfl (by decide) ⟨_, rfl, h⟩

/-! X7_faulty ()I -/
theorem fe131 (pc : Nat) : gm_fetch 131 pc = gm_find pc cd_131 := rfl
theorem f131_0 : gm_fetch 131 0 = some (1, .iconst 0, 0, 0, 0, 0) := (fe131 0).trans rfl
theorem f131_1 : gm_fetch 131 1 = some (2, .istore_n 1, 0, 0, 0, 0) := (fe131 1).trans rfl
theorem f131_2 : gm_fetch 131 2 = some (3, .iconst 0, 0, 0, 0, 0) := (fe131 2).trans rfl
theorem f131_3 : gm_fetch 131 3 = some (4, .istore_n 2, 0, 0, 0, 0) := (fe131 3).trans rfl
theorem f131_4 : gm_fetch 131 4 = some (5, .iload_n 2, 0, 0, 0, 0) := (fe131 4).trans rfl
theorem f131_5 : gm_fetch 131 5 = some (6, .aload_n 0, 0, 0, 0, 0) := (fe131 5).trans rfl
theorem f131_6 : gm_fetch 131 6 = some (9, .getfield 77, 89, 7, 5, 0) := (fe131 6).trans rfl
theorem f131_9 : gm_fetch 131 9 = some (12, .if_icmp .ge 22, 0, 31, 0, 0) := (fe131 9).trans rfl
theorem f131_12 : gm_fetch 131 12 = some (13, .iload_n 1, 0, 0, 0, 0) := (fe131 12).trans rfl
theorem f131_13 : gm_fetch 131 13 = some (14, .aload_n 0, 0, 0, 0, 0) := (fe131 13).trans rfl
theorem f131_14 : gm_fetch 131 14 = some (17, .getfield 22, 94, 7, 10, 0) := (fe131 14).trans rfl
theorem f131_17 : gm_fetch 131 17 = some (18, .iload_n 2, 0, 0, 0, 0) := (fe131 17).trans rfl
theorem f131_18 : gm_fetch 131 18 = some (19, .iaload, 0, 0, 0, 0) := (fe131 18).trans rfl
theorem f131_19 : gm_fetch 131 19 = some (20, .i2l, 0, 0, 0, 0) := (fe131 19).trans rfl
theorem f131_20 : gm_fetch 131 20 = some (23, .invokestatic 128, 175, 119, 0, 0) := (fe131 20).trans rfl
theorem f131_23 : gm_fetch 131 23 = some (24, .iadd, 0, 0, 0, 0) := (fe131 23).trans rfl
theorem f131_24 : gm_fetch 131 24 = some (25, .istore_n 1, 0, 0, 0, 0) := (fe131 24).trans rfl
theorem f131_25 : gm_fetch 131 25 = some (28, .iinc 2 1, 0, 0, 0, 0) := (fe131 25).trans rfl
theorem f131_28 : gm_fetch 131 28 = some (31, .goto (-24), 0, 4, 0, 0) := (fe131 28).trans rfl
theorem f131_31 : gm_fetch 131 31 = some (32, .iload_n 1, 0, 0, 0, 0) := (fe131 31).trans rfl
theorem f131_32 : gm_fetch 131 32 = some (33, .ireturn, 0, 0, 0, 0) := (fe131 32).trans rfl
set_option maxRecDepth 10000 in
theorem rg131_0 {mi : Mi} {ml : Ml} {F : Int32 → Mi → Ml → Prop}   (h : Sg 131 4 [some (.ref 47), some (.int 0), some (.int 0)] [] mi ml (qi F)) : Sg 131 0 [some (.ref 47), none, none] [] mi ml (qi F) := by
  refine sg_psh f131_0 (v := .int 0) (by decide) ?_
  refine sg_st1 f131_1 (ls' := [some (.ref 47), some (.int 0), none]) rfl rfl rfl rfl ?_
  refine sg_psh f131_2 (v := .int 0) (by decide) ?_
  refine sg_st1 f131_3 (ls' := [some (.ref 47), some (.int 0), some (.int 0)]) rfl rfl rfl rfl ?_
  exact h

set_option maxRecDepth 10000 in
theorem rg131_4 {mi : Mi} {ml : Ml} {F : Int32 → Mi → Ml → Prop} {x1 : Int32} {x2 : Int32}  (h : (((mi 47 5) ≤ x2) → F x1 mi ml) ∧ (¬ ((mi 47 5) ≤ x2) → (vp_in x2 7) ∧ (Sg 119 0 [some (.long (Int32.toInt64 (mi 52 (Int32.toNatClampNeg x2)))), none, none, none] [] mi ml (qi fun y2 mi3 ml4 => Sg 131 4 [some (.ref 47), some (.int (x1 + y2)), some (.int (x2 + 1))] [] mi3 ml4 (qi F))))) : Sg 131 4 [some (.ref 47), some (.int x1), some (.int x2)] [] mi ml (qi F) := by
  refine sg_ld f131_4 (v := .int x2) rfl rfl ?_
  refine sg_ld f131_5 (v := .ref 47) rfl rfl ?_
  refine sg_geti f131_6 rfl rfl (x := (mi 47 5)) rfl ?_
  refine sg_icmp f131_9 (fun c => ?_) (fun c => ?_)
  · have h := h.1 c
    refine sg_ld f131_31 (v := .int x1) rfl rfl ?_
    exact sg_iret f131_32 pq131 rfl rfl ⟨_, rfl, h⟩
  · have h := h.2 c
    refine sg_ld f131_12 (v := .int x1) rfl rfl ?_
    refine sg_ld f131_13 (v := .ref 47) rfl rfl ?_
    refine sg_getr f131_14 rfl rfl (w := 52) rfl ?_
    refine sg_ld f131_17 (v := .int x2) rfl rfl ?_
    obtain ⟨e1, h⟩ := h
    refine sg_iald f131_18 rfl e1 (x := (mi 52 (Int32.toNatClampNeg x2))) rfl ?_
    refine sg_i2l f131_19 ?_
    refine sg_cS f131_20 (vs := [.long (Int32.toInt64 (mi 52 (Int32.toNatClampNeg x2)))]) (rest := [.int x1]) (en := [some (.long (Int32.toInt64 (mi 52 (Int32.toNatClampNeg x2)))), none, none, none]) (by decide) pq119 ⟨rfl, rfl⟩ rfl rfl rfl rfl rfl h ?_
    rintro _ mi3 ml4 ⟨y2, rfl, h⟩
    refine sg_bin f131_23 rfl ?_
    refine sg_st1 f131_24 (ls' := [some (.ref 47), some (.int (x1 + y2)), some (.int x2)]) rfl rfl rfl rfl ?_
    refine sg_inc f131_25 (d := 1) (ls' := [some (.ref 47), some (.int (x1 + y2)), some (.int (x2 + 1))]) rfl (by decide) rfl ?_
    refine sg_goto f131_28 ?_
    exact h

/-! X7_grid (II)I -/
theorem fe132 (pc : Nat) : gm_fetch 132 pc = gm_find pc cd_132 := rfl
theorem f132_0 : gm_fetch 132 0 = some (1, .iload_n 1, 0, 0, 0, 0) := (fe132 0).trans rfl
theorem f132_1 : gm_fetch 132 1 = some (2, .i2l, 0, 0, 0, 0) := (fe132 1).trans rfl
theorem f132_2 : gm_fetch 132 2 = some (3, .lconst 1, 0, 0, 0, 0) := (fe132 2).trans rfl
theorem f132_3 : gm_fetch 132 3 = some (6, .ldc2_w 132, 7, 0, 0, 7) := (fe132 3).trans rfl
theorem f132_6 : gm_fetch 132 6 = some (9, .invokestatic 93, 158, 114, 0, 0) := (fe132 6).trans rfl
theorem f132_9 : gm_fetch 132 9 = some (12, .ifCond .eq 15, 0, 24, 0, 0) := (fe132 9).trans rfl
theorem f132_12 : gm_fetch 132 12 = some (13, .iload_n 2, 0, 0, 0, 0) := (fe132 12).trans rfl
theorem f132_13 : gm_fetch 132 13 = some (14, .i2l, 0, 0, 0, 0) := (fe132 13).trans rfl
theorem f132_14 : gm_fetch 132 14 = some (15, .lconst 1, 0, 0, 0, 0) := (fe132 14).trans rfl
theorem f132_15 : gm_fetch 132 15 = some (18, .ldc2_w 132, 7, 0, 0, 7) := (fe132 15).trans rfl
theorem f132_18 : gm_fetch 132 18 = some (21, .invokestatic 93, 158, 114, 0, 0) := (fe132 18).trans rfl
theorem f132_21 : gm_fetch 132 21 = some (24, .ifCond .ne 6, 0, 27, 0, 0) := (fe132 21).trans rfl
theorem f132_24 : gm_fetch 132 24 = some (26, .bipush (-2), 0, 0, 0, 0) := (fe132 24).trans rfl
theorem f132_26 : gm_fetch 132 26 = some (27, .ireturn, 0, 0, 0, 0) := (fe132 26).trans rfl
theorem f132_27 : gm_fetch 132 27 = some (28, .aload_n 0, 0, 0, 0, 0) := (fe132 27).trans rfl
theorem f132_28 : gm_fetch 132 28 = some (29, .iload_n 1, 0, 0, 0, 0) := (fe132 28).trans rfl
theorem f132_29 : gm_fetch 132 29 = some (32, .putfield 77, 89, 7, 5, 0) := (fe132 29).trans rfl
theorem f132_32 : gm_fetch 132 32 = some (33, .aload_n 0, 0, 0, 0, 0) := (fe132 32).trans rfl
theorem f132_33 : gm_fetch 132 33 = some (34, .iload_n 2, 0, 0, 0, 0) := (fe132 33).trans rfl
theorem f132_34 : gm_fetch 132 34 = some (37, .putfield 81, 90, 7, 6, 0) := (fe132 34).trans rfl
theorem f132_37 : gm_fetch 132 37 = some (38, .aload_n 0, 0, 0, 0, 0) := (fe132 37).trans rfl
theorem f132_38 : gm_fetch 132 38 = some (39, .aload_n 0, 0, 0, 0, 0) := (fe132 38).trans rfl
theorem f132_39 : gm_fetch 132 39 = some (42, .getfield 84, 91, 7, 7, 0) := (fe132 39).trans rfl
theorem f132_42 : gm_fetch 132 42 = some (43, .iload_n 2, 0, 0, 0, 0) := (fe132 42).trans rfl
theorem f132_43 : gm_fetch 132 43 = some (46, .invokestatic 134, 167, 117, 0, 0) := (fe132 43).trans rfl
theorem f132_46 : gm_fetch 132 46 = some (49, .putfield 84, 91, 7, 7, 0) := (fe132 46).trans rfl
theorem f132_49 : gm_fetch 132 49 = some (50, .aload_n 0, 0, 0, 0, 0) := (fe132 49).trans rfl
theorem f132_50 : gm_fetch 132 50 = some (51, .iconst 0, 0, 0, 0, 0) := (fe132 50).trans rfl
theorem f132_51 : gm_fetch 132 51 = some (54, .putfield 137, 95, 7, 11, 0) := (fe132 51).trans rfl
theorem f132_54 : gm_fetch 132 54 = some (55, .iconst 0, 0, 0, 0, 0) := (fe132 54).trans rfl
theorem f132_55 : gm_fetch 132 55 = some (56, .istore_n 3, 0, 0, 0, 0) := (fe132 55).trans rfl
theorem f132_56 : gm_fetch 132 56 = some (57, .iload_n 3, 0, 0, 0, 0) := (fe132 56).trans rfl
theorem f132_57 : gm_fetch 132 57 = some (59, .bipush 7, 0, 0, 0, 0) := (fe132 57).trans rfl
theorem f132_59 : gm_fetch 132 59 = some (62, .if_icmp .ge 16, 0, 75, 0, 0) := (fe132 59).trans rfl
theorem f132_62 : gm_fetch 132 62 = some (63, .aload_n 0, 0, 0, 0, 0) := (fe132 62).trans rfl
theorem f132_63 : gm_fetch 132 63 = some (66, .getfield 22, 94, 7, 10, 0) := (fe132 63).trans rfl
theorem f132_66 : gm_fetch 132 66 = some (67, .iload_n 3, 0, 0, 0, 0) := (fe132 66).trans rfl
theorem f132_67 : gm_fetch 132 67 = some (68, .iconst 0, 0, 0, 0, 0) := (fe132 67).trans rfl
theorem f132_68 : gm_fetch 132 68 = some (69, .iastore, 0, 0, 0, 0) := (fe132 68).trans rfl
theorem f132_69 : gm_fetch 132 69 = some (72, .iinc 3 1, 0, 0, 0, 0) := (fe132 69).trans rfl
theorem f132_72 : gm_fetch 132 72 = some (75, .goto (-16), 0, 56, 0, 0) := (fe132 72).trans rfl
theorem f132_75 : gm_fetch 132 75 = some (76, .iload_n 1, 0, 0, 0, 0) := (fe132 75).trans rfl
theorem f132_76 : gm_fetch 132 76 = some (77, .iload_n 2, 0, 0, 0, 0) := (fe132 76).trans rfl
theorem f132_77 : gm_fetch 132 77 = some (78, .imul, 0, 0, 0, 0) := (fe132 77).trans rfl
theorem f132_78 : gm_fetch 132 78 = some (79, .ireturn, 0, 0, 0, 0) := (fe132 78).trans rfl
set_option maxRecDepth 10000 in
theorem rg132_0 {mi : Mi} {ml : Ml} {F : Int32 → Mi → Ml → Prop} {x1 : Int32} {x2 : Int32}  (h : Sg 114 0 [some (.long (Int32.toInt64 x1)), none, some (.long 1), none, some (.long 7), none] [] mi ml (qi fun y1 mi2 ml3 => ((y1 = 0) → F (-2) mi2 ml3) ∧ (¬ (y1 = 0) → Sg 114 0 [some (.long (Int32.toInt64 x2)), none, some (.long 1), none, some (.long 7), none] [] mi2 ml3 (qi fun y4 mi5 ml6 => ((¬ y4 = 0) → Sg 117 0 [some (.int (mi5 47 7)), some (.int x2)] [] (va_up mi5 47 (va_up (va_up (mi5 47) 5 x1) 6 x2)) ml6 (qi fun y7 mi8 ml9 => Sg 132 56 [some (.ref 47), some (.int x1), some (.int x2), some (.int 0)] [] (va_up mi8 47 (va_up (va_up (mi8 47) 7 y7) 11 0)) ml9 (qi F))) ∧ (¬ (¬ y4 = 0) → F (-2) mi5 ml6))))) : Sg 132 0 [some (.ref 47), some (.int x1), some (.int x2), none] [] mi ml (qi F) := by
  refine sg_ld f132_0 (v := .int x1) rfl rfl ?_
  refine sg_i2l f132_1 ?_
  refine sg_psh f132_2 (v := .long 1) (by decide) ?_
  refine sg_psh f132_3 (v := .long 7) (by decide) ?_
  refine sg_cS f132_6 (vs := [.long (Int32.toInt64 x1), .long 1, .long 7]) (rest := []) (en := [some (.long (Int32.toInt64 x1)), none, some (.long 1), none, some (.long 7), none]) (by decide) pq114 ⟨rfl, rfl⟩ rfl rfl rfl rfl rfl h ?_
  rintro _ mi2 ml3 ⟨y1, rfl, h⟩
  refine sg_if f132_9 (fun c => ?_) (fun c => ?_)
  · have h := h.1 c
    refine sg_psh f132_24 (v := .int (-2)) (by decide) ?_
    exact sg_iret f132_26 pq132 rfl rfl ⟨_, rfl, h⟩
  · have h := h.2 c
    refine sg_ld f132_12 (v := .int x2) rfl rfl ?_
    refine sg_i2l f132_13 ?_
    refine sg_psh f132_14 (v := .long 1) (by decide) ?_
    refine sg_psh f132_15 (v := .long 7) (by decide) ?_
    refine sg_cS f132_18 (vs := [.long (Int32.toInt64 x2), .long 1, .long 7]) (rest := []) (en := [some (.long (Int32.toInt64 x2)), none, some (.long 1), none, some (.long 7), none]) (by decide) pq114 ⟨rfl, rfl⟩ rfl rfl rfl rfl rfl h ?_
    rintro _ mi5 ml6 ⟨y4, rfl, h⟩
    refine sg_if f132_21 (fun c => ?_) (fun c => ?_)
    · have h := h.1 c
      refine sg_ld f132_27 (v := .ref 47) rfl rfl ?_
      refine sg_ld f132_28 (v := .int x1) rfl rfl ?_
      refine sg_puti f132_29 rfl rfl rfl (fun hz => by cases hz) ?_
      refine sg_ld f132_32 (v := .ref 47) rfl rfl ?_
      refine sg_ld f132_33 (v := .int x2) rfl rfl ?_
      refine sg_puti2 f132_34 rfl rfl rfl (fun hz => by cases hz) ?_
      refine sg_ld f132_37 (v := .ref 47) rfl rfl ?_
      refine sg_ld f132_38 (v := .ref 47) rfl rfl ?_
      refine sg_geti f132_39 rfl rfl (x := (mi5 47 7)) rfl ?_
      refine sg_ld f132_42 (v := .int x2) rfl rfl ?_
      refine sg_cS f132_43 (vs := [.int (mi5 47 7), .int x2]) (rest := [.ref 47]) (en := [some (.int (mi5 47 7)), some (.int x2)]) (by decide) pq117 ⟨rfl, rfl⟩ rfl rfl rfl rfl rfl h ?_
      rintro _ mi8 ml9 ⟨y7, rfl, h⟩
      refine sg_puti f132_46 rfl rfl rfl (fun hz => by cases hz) ?_
      refine sg_ld f132_49 (v := .ref 47) rfl rfl ?_
      refine sg_psh f132_50 (v := .int 0) (by decide) ?_
      refine sg_puti2 f132_51 rfl rfl rfl (fun _ => by decide) ?_
      refine sg_psh f132_54 (v := .int 0) (by decide) ?_
      refine sg_st1 f132_55 (ls' := [some (.ref 47), some (.int x1), some (.int x2), some (.int 0)]) rfl rfl rfl rfl ?_
      exact h
    · have h := h.2 c
      refine sg_psh f132_24 (v := .int (-2)) (by decide) ?_
      exact sg_iret f132_26 pq132 rfl rfl ⟨_, rfl, h⟩

set_option maxRecDepth 10000 in
theorem rg132_56 {mi : Mi} {ml : Ml} {F : Int32 → Mi → Ml → Prop} {x1 : Int32} {x2 : Int32} {x3 : Int32}  (h : ((7 ≤ x3) → F (x1 * x2) mi ml) ∧ (¬ (7 ≤ x3) → (vp_in x3 7) ∧ (Sg 132 56 [some (.ref 47), some (.int x1), some (.int x2), some (.int (x3 + 1))] [] (va_up mi 52 (va_up (mi 52) (Int32.toNatClampNeg x3) 0)) ml (qi F)))) : Sg 132 56 [some (.ref 47), some (.int x1), some (.int x2), some (.int x3)] [] mi ml (qi F) := by
  refine sg_ld f132_56 (v := .int x3) rfl rfl ?_
  refine sg_psh f132_57 (v := .int 7) (by decide) ?_
  refine sg_icmp f132_59 (fun c => ?_) (fun c => ?_)
  · have h := h.1 c
    refine sg_ld f132_75 (v := .int x1) rfl rfl ?_
    refine sg_ld f132_76 (v := .int x2) rfl rfl ?_
    refine sg_bin f132_77 rfl ?_
    exact sg_iret f132_78 pq132 rfl rfl ⟨_, rfl, h⟩
  · have h := h.2 c
    refine sg_ld f132_62 (v := .ref 47) rfl rfl ?_
    refine sg_getr f132_63 rfl rfl (w := 52) rfl ?_
    refine sg_ld f132_66 (v := .int x3) rfl rfl ?_
    refine sg_psh f132_67 (v := .int 0) (by decide) ?_
    obtain ⟨e1, h⟩ := h
    refine sg_iast f132_68 rfl e1 ?_
    refine sg_inc f132_69 (d := 1) (ls' := [some (.ref 47), some (.int x1), some (.int x2), some (.int (x3 + 1))]) rfl (by decide) rfl ?_
    refine sg_goto f132_72 ?_
    exact h

/-! X7_wish (I)I -/
theorem fe133 (pc : Nat) : gm_fetch 133 pc = gm_find pc cd_133 := rfl
theorem f133_0 : gm_fetch 133 0 = some (1, .iload_n 1, 0, 0, 0, 0) := (fe133 0).trans rfl
theorem f133_1 : gm_fetch 133 1 = some (2, .i2l, 0, 0, 0, 0) := (fe133 1).trans rfl
theorem f133_2 : gm_fetch 133 2 = some (3, .lconst 1, 0, 0, 0, 0) := (fe133 2).trans rfl
theorem f133_3 : gm_fetch 133 3 = some (4, .aload_n 0, 0, 0, 0, 0) := (fe133 3).trans rfl
theorem f133_4 : gm_fetch 133 4 = some (7, .getfield 81, 90, 7, 6, 0) := (fe133 4).trans rfl
theorem f133_7 : gm_fetch 133 7 = some (8, .i2l, 0, 0, 0, 0) := (fe133 7).trans rfl
theorem f133_8 : gm_fetch 133 8 = some (11, .invokestatic 93, 158, 114, 0, 0) := (fe133 8).trans rfl
theorem f133_11 : gm_fetch 133 11 = some (14, .ifCond .ne 6, 0, 17, 0, 0) := (fe133 11).trans rfl
theorem f133_14 : gm_fetch 133 14 = some (16, .bipush (-2), 0, 0, 0, 0) := (fe133 14).trans rfl
theorem f133_16 : gm_fetch 133 16 = some (17, .ireturn, 0, 0, 0, 0) := (fe133 16).trans rfl
theorem f133_17 : gm_fetch 133 17 = some (18, .aload_n 0, 0, 0, 0, 0) := (fe133 17).trans rfl
theorem f133_18 : gm_fetch 133 18 = some (21, .getfield 84, 91, 7, 7, 0) := (fe133 18).trans rfl
theorem f133_21 : gm_fetch 133 21 = some (22, .istore_n 2, 0, 0, 0, 0) := (fe133 21).trans rfl
theorem f133_22 : gm_fetch 133 22 = some (23, .aload_n 0, 0, 0, 0, 0) := (fe133 22).trans rfl
theorem f133_23 : gm_fetch 133 23 = some (24, .iload_n 1, 0, 0, 0, 0) := (fe133 23).trans rfl
theorem f133_24 : gm_fetch 133 24 = some (27, .putfield 84, 91, 7, 7, 0) := (fe133 24).trans rfl
theorem f133_27 : gm_fetch 133 27 = some (28, .aload_n 0, 0, 0, 0, 0) := (fe133 27).trans rfl
theorem f133_28 : gm_fetch 133 28 = some (29, .iconst 0, 0, 0, 0, 0) := (fe133 28).trans rfl
theorem f133_29 : gm_fetch 133 29 = some (32, .putfield 137, 95, 7, 11, 0) := (fe133 29).trans rfl
theorem f133_32 : gm_fetch 133 32 = some (33, .iload_n 2, 0, 0, 0, 0) := (fe133 32).trans rfl
theorem f133_33 : gm_fetch 133 33 = some (34, .ireturn, 0, 0, 0, 0) := (fe133 33).trans rfl
set_option maxRecDepth 10000 in
theorem rg133_0 {mi : Mi} {ml : Ml} {F : Int32 → Mi → Ml → Prop} {x1 : Int32}  (h : Sg 114 0 [some (.long (Int32.toInt64 x1)), none, some (.long 1), none, some (.long (Int32.toInt64 (mi 47 6))), none] [] mi ml (qi fun y1 mi2 ml3 => ((¬ y1 = 0) → F (mi2 47 7) (va_up mi2 47 (va_up (va_up (mi2 47) 7 x1) 11 0)) ml3) ∧ (¬ (¬ y1 = 0) → F (-2) mi2 ml3))) : Sg 133 0 [some (.ref 47), some (.int x1), none] [] mi ml (qi F) := by
  refine sg_ld f133_0 (v := .int x1) rfl rfl ?_
  refine sg_i2l f133_1 ?_
  refine sg_psh f133_2 (v := .long 1) (by decide) ?_
  refine sg_ld f133_3 (v := .ref 47) rfl rfl ?_
  refine sg_geti f133_4 rfl rfl (x := (mi 47 6)) rfl ?_
  refine sg_i2l f133_7 ?_
  refine sg_cS f133_8 (vs := [.long (Int32.toInt64 x1), .long 1, .long (Int32.toInt64 (mi 47 6))]) (rest := []) (en := [some (.long (Int32.toInt64 x1)), none, some (.long 1), none, some (.long (Int32.toInt64 (mi 47 6))), none]) (by decide) pq114 ⟨rfl, rfl⟩ rfl rfl rfl rfl rfl h ?_
  rintro _ mi2 ml3 ⟨y1, rfl, h⟩
  refine sg_if f133_11 (fun c => ?_) (fun c => ?_)
  · have h := h.1 c
    refine sg_ld f133_17 (v := .ref 47) rfl rfl ?_
    refine sg_geti f133_18 rfl rfl (x := (mi2 47 7)) rfl ?_
    refine sg_st1 f133_21 (ls' := [some (.ref 47), some (.int x1), some (.int (mi2 47 7))]) rfl rfl rfl rfl ?_
    refine sg_ld f133_22 (v := .ref 47) rfl rfl ?_
    refine sg_ld f133_23 (v := .int x1) rfl rfl ?_
    refine sg_puti f133_24 rfl rfl rfl (fun hz => by cases hz) ?_
    refine sg_ld f133_27 (v := .ref 47) rfl rfl ?_
    refine sg_psh f133_28 (v := .int 0) (by decide) ?_
    refine sg_puti2 f133_29 rfl rfl rfl (fun _ => by decide) ?_
    refine sg_ld f133_32 (v := .int (mi2 47 7)) rfl rfl ?_
    exact sg_iret f133_33 pq133 rfl rfl ⟨_, rfl, h⟩
  · have h := h.2 c
    refine sg_psh f133_14 (v := .int (-2)) (by decide) ?_
    exact sg_iret f133_16 pq133 rfl rfl ⟨_, rfl, h⟩

/-! X7_length (I)I -/
theorem fe134 (pc : Nat) : gm_fetch 134 pc = gm_find pc cd_134 := rfl
theorem f134_0 : gm_fetch 134 0 = some (1, .iload_n 1, 0, 0, 0, 0) := (fe134 0).trans rfl
theorem f134_1 : gm_fetch 134 1 = some (2, .i2l, 0, 0, 0, 0) := (fe134 1).trans rfl
theorem f134_2 : gm_fetch 134 2 = some (3, .lconst 0, 0, 0, 0, 0) := (fe134 2).trans rfl
theorem f134_3 : gm_fetch 134 3 = some (6, .ldc2_w 104, 5, 0, 0, 3) := (fe134 3).trans rfl
theorem f134_6 : gm_fetch 134 6 = some (9, .invokestatic 93, 158, 114, 0, 0) := (fe134 6).trans rfl
theorem f134_9 : gm_fetch 134 9 = some (12, .ifCond .ne 6, 0, 15, 0, 0) := (fe134 9).trans rfl
theorem f134_12 : gm_fetch 134 12 = some (14, .bipush (-2), 0, 0, 0, 0) := (fe134 12).trans rfl
theorem f134_14 : gm_fetch 134 14 = some (15, .ireturn, 0, 0, 0, 0) := (fe134 14).trans rfl
theorem f134_15 : gm_fetch 134 15 = some (16, .aload_n 0, 0, 0, 0, 0) := (fe134 15).trans rfl
theorem f134_16 : gm_fetch 134 16 = some (19, .getfield 87, 92, 7, 8, 0) := (fe134 16).trans rfl
theorem f134_19 : gm_fetch 134 19 = some (20, .istore_n 2, 0, 0, 0, 0) := (fe134 19).trans rfl
theorem f134_20 : gm_fetch 134 20 = some (21, .aload_n 0, 0, 0, 0, 0) := (fe134 20).trans rfl
theorem f134_21 : gm_fetch 134 21 = some (22, .iload_n 1, 0, 0, 0, 0) := (fe134 21).trans rfl
theorem f134_22 : gm_fetch 134 22 = some (25, .putfield 87, 92, 7, 8, 0) := (fe134 22).trans rfl
theorem f134_25 : gm_fetch 134 25 = some (26, .iload_n 2, 0, 0, 0, 0) := (fe134 25).trans rfl
theorem f134_26 : gm_fetch 134 26 = some (27, .ireturn, 0, 0, 0, 0) := (fe134 26).trans rfl
set_option maxRecDepth 10000 in
theorem rg134_0 {mi : Mi} {ml : Ml} {F : Int32 → Mi → Ml → Prop} {x1 : Int32}  (h : Sg 114 0 [some (.long (Int32.toInt64 x1)), none, some (.long 0), none, some (.long 3), none] [] mi ml (qi fun y1 mi2 ml3 => ((¬ y1 = 0) → F (mi2 47 8) (va_up mi2 47 (va_up (mi2 47) 8 x1)) ml3) ∧ (¬ (¬ y1 = 0) → F (-2) mi2 ml3))) : Sg 134 0 [some (.ref 47), some (.int x1), none] [] mi ml (qi F) := by
  refine sg_ld f134_0 (v := .int x1) rfl rfl ?_
  refine sg_i2l f134_1 ?_
  refine sg_psh f134_2 (v := .long 0) (by decide) ?_
  refine sg_psh f134_3 (v := .long 3) (by decide) ?_
  refine sg_cS f134_6 (vs := [.long (Int32.toInt64 x1), .long 0, .long 3]) (rest := []) (en := [some (.long (Int32.toInt64 x1)), none, some (.long 0), none, some (.long 3), none]) (by decide) pq114 ⟨rfl, rfl⟩ rfl rfl rfl rfl rfl h ?_
  rintro _ mi2 ml3 ⟨y1, rfl, h⟩
  refine sg_if f134_9 (fun c => ?_) (fun c => ?_)
  · have h := h.1 c
    refine sg_ld f134_15 (v := .ref 47) rfl rfl ?_
    refine sg_geti f134_16 rfl rfl (x := (mi2 47 8)) rfl ?_
    refine sg_st1 f134_19 (ls' := [some (.ref 47), some (.int x1), some (.int (mi2 47 8))]) rfl rfl rfl rfl ?_
    refine sg_ld f134_20 (v := .ref 47) rfl rfl ?_
    refine sg_ld f134_21 (v := .int x1) rfl rfl ?_
    refine sg_puti f134_22 rfl rfl rfl (fun hz => by cases hz) ?_
    refine sg_ld f134_25 (v := .int (mi2 47 8)) rfl rfl ?_
    exact sg_iret f134_26 pq134 rfl rfl ⟨_, rfl, h⟩
  · have h := h.2 c
    refine sg_psh f134_12 (v := .int (-2)) (by decide) ?_
    exact sg_iret f134_14 pq134 rfl rfl ⟨_, rfl, h⟩

/-! X7_sides (I)I -/
theorem fe135 (pc : Nat) : gm_fetch 135 pc = gm_find pc cd_135 := rfl
theorem f135_0 : gm_fetch 135 0 = some (1, .iload_n 1, 0, 0, 0, 0) := (fe135 0).trans rfl
theorem f135_1 : gm_fetch 135 1 = some (2, .i2l, 0, 0, 0, 0) := (fe135 1).trans rfl
theorem f135_2 : gm_fetch 135 2 = some (3, .lconst 0, 0, 0, 0, 0) := (fe135 2).trans rfl
theorem f135_3 : gm_fetch 135 3 = some (6, .ldc2_w 141, 8, 0, 0, 15) := (fe135 3).trans rfl
theorem f135_6 : gm_fetch 135 6 = some (9, .invokestatic 93, 158, 114, 0, 0) := (fe135 6).trans rfl
theorem f135_9 : gm_fetch 135 9 = some (12, .ifCond .ne 6, 0, 15, 0, 0) := (fe135 9).trans rfl
theorem f135_12 : gm_fetch 135 12 = some (14, .bipush (-2), 0, 0, 0, 0) := (fe135 12).trans rfl
theorem f135_14 : gm_fetch 135 14 = some (15, .ireturn, 0, 0, 0, 0) := (fe135 14).trans rfl
theorem f135_15 : gm_fetch 135 15 = some (16, .aload_n 0, 0, 0, 0, 0) := (fe135 15).trans rfl
theorem f135_16 : gm_fetch 135 16 = some (19, .getfield 90, 93, 7, 9, 0) := (fe135 16).trans rfl
theorem f135_19 : gm_fetch 135 19 = some (20, .istore_n 2, 0, 0, 0, 0) := (fe135 19).trans rfl
theorem f135_20 : gm_fetch 135 20 = some (21, .aload_n 0, 0, 0, 0, 0) := (fe135 20).trans rfl
theorem f135_21 : gm_fetch 135 21 = some (22, .iload_n 1, 0, 0, 0, 0) := (fe135 21).trans rfl
theorem f135_22 : gm_fetch 135 22 = some (25, .putfield 90, 93, 7, 9, 0) := (fe135 22).trans rfl
theorem f135_25 : gm_fetch 135 25 = some (26, .iload_n 2, 0, 0, 0, 0) := (fe135 25).trans rfl
theorem f135_26 : gm_fetch 135 26 = some (27, .ireturn, 0, 0, 0, 0) := (fe135 26).trans rfl
set_option maxRecDepth 10000 in
theorem rg135_0 {mi : Mi} {ml : Ml} {F : Int32 → Mi → Ml → Prop} {x1 : Int32}  (h : Sg 114 0 [some (.long (Int32.toInt64 x1)), none, some (.long 0), none, some (.long 15), none] [] mi ml (qi fun y1 mi2 ml3 => ((¬ y1 = 0) → F (mi2 47 9) (va_up mi2 47 (va_up (mi2 47) 9 x1)) ml3) ∧ (¬ (¬ y1 = 0) → F (-2) mi2 ml3))) : Sg 135 0 [some (.ref 47), some (.int x1), none] [] mi ml (qi F) := by
  refine sg_ld f135_0 (v := .int x1) rfl rfl ?_
  refine sg_i2l f135_1 ?_
  refine sg_psh f135_2 (v := .long 0) (by decide) ?_
  refine sg_psh f135_3 (v := .long 15) (by decide) ?_
  refine sg_cS f135_6 (vs := [.long (Int32.toInt64 x1), .long 0, .long 15]) (rest := []) (en := [some (.long (Int32.toInt64 x1)), none, some (.long 0), none, some (.long 15), none]) (by decide) pq114 ⟨rfl, rfl⟩ rfl rfl rfl rfl rfl h ?_
  rintro _ mi2 ml3 ⟨y1, rfl, h⟩
  refine sg_if f135_9 (fun c => ?_) (fun c => ?_)
  · have h := h.1 c
    refine sg_ld f135_15 (v := .ref 47) rfl rfl ?_
    refine sg_geti f135_16 rfl rfl (x := (mi2 47 9)) rfl ?_
    refine sg_st1 f135_19 (ls' := [some (.ref 47), some (.int x1), some (.int (mi2 47 9))]) rfl rfl rfl rfl ?_
    refine sg_ld f135_20 (v := .ref 47) rfl rfl ?_
    refine sg_ld f135_21 (v := .int x1) rfl rfl ?_
    refine sg_puti f135_22 rfl rfl rfl (fun hz => by cases hz) ?_
    refine sg_ld f135_25 (v := .int (mi2 47 9)) rfl rfl ?_
    exact sg_iret f135_26 pq135 rfl rfl ⟨_, rfl, h⟩
  · have h := h.2 c
    refine sg_psh f135_12 (v := .int (-2)) (by decide) ?_
    exact sg_iret f135_14 pq135 rfl rfl ⟨_, rfl, h⟩

/-! X7_fault (II)I -/
theorem fe136 (pc : Nat) : gm_fetch 136 pc = gm_find pc cd_136 := rfl
theorem f136_0 : gm_fetch 136 0 = some (1, .aload_n 0, 0, 0, 0, 0) := (fe136 0).trans rfl
theorem f136_1 : gm_fetch 136 1 = some (2, .iload_n 1, 0, 0, 0, 0) := (fe136 1).trans rfl
theorem f136_2 : gm_fetch 136 2 = some (3, .iload_n 2, 0, 0, 0, 0) := (fe136 2).trans rfl
theorem f136_3 : gm_fetch 136 3 = some (6, .invokevirtual 143, 172, 130, 0, 0) := (fe136 3).trans rfl
theorem f136_6 : gm_fetch 136 6 = some (9, .ifCond .ne 6, 0, 12, 0, 0) := (fe136 6).trans rfl
theorem f136_9 : gm_fetch 136 9 = some (11, .bipush (-2), 0, 0, 0, 0) := (fe136 9).trans rfl
theorem f136_11 : gm_fetch 136 11 = some (12, .ireturn, 0, 0, 0, 0) := (fe136 11).trans rfl
theorem f136_12 : gm_fetch 136 12 = some (13, .aload_n 0, 0, 0, 0, 0) := (fe136 12).trans rfl
theorem f136_13 : gm_fetch 136 13 = some (16, .getfield 22, 94, 7, 10, 0) := (fe136 13).trans rfl
theorem f136_16 : gm_fetch 136 16 = some (17, .iload_n 2, 0, 0, 0, 0) := (fe136 16).trans rfl
theorem f136_17 : gm_fetch 136 17 = some (18, .dup2, 0, 0, 0, 0) := (fe136 17).trans rfl
theorem f136_18 : gm_fetch 136 18 = some (19, .iaload, 0, 0, 0, 0) := (fe136 18).trans rfl
theorem f136_19 : gm_fetch 136 19 = some (20, .iconst 1, 0, 0, 0, 0) := (fe136 19).trans rfl
theorem f136_20 : gm_fetch 136 20 = some (21, .iload_n 1, 0, 0, 0, 0) := (fe136 20).trans rfl
theorem f136_21 : gm_fetch 136 21 = some (22, .ishl, 0, 0, 0, 0) := (fe136 21).trans rfl
theorem f136_22 : gm_fetch 136 22 = some (23, .ixor, 0, 0, 0, 0) := (fe136 22).trans rfl
theorem f136_23 : gm_fetch 136 23 = some (24, .iastore, 0, 0, 0, 0) := (fe136 23).trans rfl
theorem f136_24 : gm_fetch 136 24 = some (25, .aload_n 0, 0, 0, 0, 0) := (fe136 24).trans rfl
theorem f136_25 : gm_fetch 136 25 = some (28, .invokevirtual 147, 174, 131, 0, 0) := (fe136 25).trans rfl
theorem f136_28 : gm_fetch 136 28 = some (29, .ireturn, 0, 0, 0, 0) := (fe136 28).trans rfl
set_option maxRecDepth 10000 in
theorem rg136_0 {mi : Mi} {ml : Ml} {F : Int32 → Mi → Ml → Prop} {x1 : Int32} {x2 : Int32}  (h : Sg 130 0 [some (.ref 47), some (.int x1), some (.int x2)] [] mi ml (qi fun y1 mi2 ml3 => ((¬ y1 = 0) → (vp_in x2 7) ∧ (Sg 131 0 [some (.ref 47), none, none] [] (va_up mi2 52 (va_up (mi2 52) (Int32.toNatClampNeg x2) ((mi2 52 (Int32.toNatClampNeg x2)) ^^^ (1 <<< (x1 &&& 31))))) ml3 (qi fun y5 mi6 ml7 => F y5 mi6 ml7))) ∧ (¬ (¬ y1 = 0) → F (-2) mi2 ml3))) : Sg 136 0 [some (.ref 47), some (.int x1), some (.int x2)] [] mi ml (qi F) := by
  refine sg_ld f136_0 (v := .ref 47) rfl rfl ?_
  refine sg_ld f136_1 (v := .int x1) rfl rfl ?_
  refine sg_ld f136_2 (v := .int x2) rfl rfl ?_
  refine sg_cV f136_3 (vs := [.int x1, .int x2]) (r := 47) (rest := []) (en := [some (.ref 47), some (.int x1), some (.int x2)]) pq130 ⟨rfl, rfl⟩ rfl rfl rfl rfl rfl rfl h ?_
  rintro _ mi2 ml3 ⟨y1, rfl, h⟩
  refine sg_if f136_6 (fun c => ?_) (fun c => ?_)
  · have h := h.1 c
    refine sg_ld f136_12 (v := .ref 47) rfl rfl ?_
    refine sg_getr f136_13 rfl rfl (w := 52) rfl ?_
    refine sg_ld f136_16 (v := .int x2) rfl rfl ?_
    refine sg_dup2 f136_17 rfl rfl ?_
    obtain ⟨e4, h⟩ := h
    refine sg_iald f136_18 rfl e4 (x := (mi2 52 (Int32.toNatClampNeg x2))) rfl ?_
    refine sg_psh f136_19 (v := .int 1) (by decide) ?_
    refine sg_ld f136_20 (v := .int x1) rfl rfl ?_
    refine sg_bin f136_21 rfl ?_
    refine sg_bin f136_22 rfl ?_
    refine sg_iast f136_23 rfl e4 ?_
    refine sg_ld f136_24 (v := .ref 47) rfl rfl ?_
    refine sg_cV f136_25 (vs := []) (r := 47) (rest := []) (en := [some (.ref 47), none, none]) pq131 ⟨rfl, rfl⟩ rfl rfl rfl rfl rfl rfl h ?_
    rintro _ mi6 ml7 ⟨y5, rfl, h⟩
    exact sg_iret f136_28 pq136 rfl rfl ⟨_, rfl, h⟩
  · have h := h.2 c
    refine sg_psh f136_9 (v := .int (-2)) (by decide) ?_
    exact sg_iret f136_11 pq136 rfl rfl ⟨_, rfl, h⟩

/-! X7_becomes (IIZ)V -/
theorem fe137 (pc : Nat) : gm_fetch 137 pc = gm_find pc cd_137 := rfl
theorem f137_0 : gm_fetch 137 0 = some (1, .aload_n 0, 0, 0, 0, 0) := (fe137 0).trans rfl
theorem f137_1 : gm_fetch 137 1 = some (4, .getfield 22, 94, 7, 10, 0) := (fe137 1).trans rfl
theorem f137_4 : gm_fetch 137 4 = some (5, .iload_n 2, 0, 0, 0, 0) := (fe137 4).trans rfl
theorem f137_5 : gm_fetch 137 5 = some (6, .iload_n 3, 0, 0, 0, 0) := (fe137 5).trans rfl
theorem f137_6 : gm_fetch 137 6 = some (9, .ifCond .eq 16, 0, 22, 0, 0) := (fe137 6).trans rfl
theorem f137_9 : gm_fetch 137 9 = some (10, .aload_n 0, 0, 0, 0, 0) := (fe137 9).trans rfl
theorem f137_10 : gm_fetch 137 10 = some (13, .getfield 22, 94, 7, 10, 0) := (fe137 10).trans rfl
theorem f137_13 : gm_fetch 137 13 = some (14, .iload_n 2, 0, 0, 0, 0) := (fe137 13).trans rfl
theorem f137_14 : gm_fetch 137 14 = some (15, .iaload, 0, 0, 0, 0) := (fe137 14).trans rfl
theorem f137_15 : gm_fetch 137 15 = some (16, .iconst 1, 0, 0, 0, 0) := (fe137 15).trans rfl
theorem f137_16 : gm_fetch 137 16 = some (17, .iload_n 1, 0, 0, 0, 0) := (fe137 16).trans rfl
theorem f137_17 : gm_fetch 137 17 = some (18, .ishl, 0, 0, 0, 0) := (fe137 17).trans rfl
theorem f137_18 : gm_fetch 137 18 = some (19, .ior, 0, 0, 0, 0) := (fe137 18).trans rfl
theorem f137_19 : gm_fetch 137 19 = some (22, .goto 15, 0, 34, 0, 0) := (fe137 19).trans rfl
theorem f137_22 : gm_fetch 137 22 = some (23, .aload_n 0, 0, 0, 0, 0) := (fe137 22).trans rfl
theorem f137_23 : gm_fetch 137 23 = some (26, .getfield 22, 94, 7, 10, 0) := (fe137 23).trans rfl
theorem f137_26 : gm_fetch 137 26 = some (27, .iload_n 2, 0, 0, 0, 0) := (fe137 26).trans rfl
theorem f137_27 : gm_fetch 137 27 = some (28, .iaload, 0, 0, 0, 0) := (fe137 27).trans rfl
theorem f137_28 : gm_fetch 137 28 = some (29, .iconst 1, 0, 0, 0, 0) := (fe137 28).trans rfl
theorem f137_29 : gm_fetch 137 29 = some (30, .iload_n 1, 0, 0, 0, 0) := (fe137 29).trans rfl
theorem f137_30 : gm_fetch 137 30 = some (31, .ishl, 0, 0, 0, 0) := (fe137 30).trans rfl
theorem f137_31 : gm_fetch 137 31 = some (32, .iconst (-1), 0, 0, 0, 0) := (fe137 31).trans rfl
theorem f137_32 : gm_fetch 137 32 = some (33, .ixor, 0, 0, 0, 0) := (fe137 32).trans rfl
theorem f137_33 : gm_fetch 137 33 = some (34, .iand, 0, 0, 0, 0) := (fe137 33).trans rfl
theorem f137_34 : gm_fetch 137 34 = some (35, .iastore, 0, 0, 0, 0) := (fe137 34).trans rfl
theorem f137_35 : gm_fetch 137 35 = some (36, .return_, 0, 0, 0, 0) := (fe137 35).trans rfl
set_option maxRecDepth 10000 in
theorem rg137_0 {mi : Mi} {ml : Ml} {F : Mi → Ml → Prop} {x1 : Int32} {x2 : Int32} {x3 : Int32}  (h : ((x3 = 0) → (vp_in x2 7) ∧ (F (va_up mi 52 (va_up (mi 52) (Int32.toNatClampNeg x2) ((mi 52 (Int32.toNatClampNeg x2)) &&& ((1 <<< (x1 &&& 31)) ^^^ (-1))))) ml)) ∧ (¬ (x3 = 0) → (vp_in x2 7) ∧ (F (va_up mi 52 (va_up (mi 52) (Int32.toNatClampNeg x2) ((mi 52 (Int32.toNatClampNeg x2)) ||| (1 <<< (x1 &&& 31))))) ml))) : Sg 137 0 [some (.ref 47), some (.int x1), some (.int x2), some (.int x3)] [] mi ml (qv F) := by
  refine sg_ld f137_0 (v := .ref 47) rfl rfl ?_
  refine sg_getr f137_1 rfl rfl (w := 52) rfl ?_
  refine sg_ld f137_4 (v := .int x2) rfl rfl ?_
  refine sg_ld f137_5 (v := .int x3) rfl rfl ?_
  refine sg_if f137_6 (fun c => ?_) (fun c => ?_)
  · have h := h.1 c
    refine sg_ld f137_22 (v := .ref 47) rfl rfl ?_
    refine sg_getr f137_23 rfl rfl (w := 52) rfl ?_
    refine sg_ld f137_26 (v := .int x2) rfl rfl ?_
    obtain ⟨e1, h⟩ := h
    refine sg_iald f137_27 rfl e1 (x := (mi 52 (Int32.toNatClampNeg x2))) rfl ?_
    refine sg_psh f137_28 (v := .int 1) (by decide) ?_
    refine sg_ld f137_29 (v := .int x1) rfl rfl ?_
    refine sg_bin f137_30 rfl ?_
    refine sg_psh f137_31 (v := .int (-1)) (by decide) ?_
    refine sg_bin f137_32 rfl ?_
    refine sg_bin f137_33 rfl ?_
    refine sg_iast f137_34 rfl e1 ?_
    exact sg_ret f137_35 pq137 rfl h
  · have h := h.2 c
    refine sg_ld f137_9 (v := .ref 47) rfl rfl ?_
    refine sg_getr f137_10 rfl rfl (w := 52) rfl ?_
    refine sg_ld f137_13 (v := .int x2) rfl rfl ?_
    obtain ⟨e2, h⟩ := h
    refine sg_iald f137_14 rfl e2 (x := (mi 52 (Int32.toNatClampNeg x2))) rfl ?_
    refine sg_psh f137_15 (v := .int 1) (by decide) ?_
    refine sg_ld f137_16 (v := .int x1) rfl rfl ?_
    refine sg_bin f137_17 rfl ?_
    refine sg_bin f137_18 rfl ?_
    refine sg_goto f137_19 ?_
    refine sg_iast f137_34 rfl e2 ?_
    exact sg_ret f137_35 pq137 rfl h

/-! X7_lots (II)I -/
theorem fe138 (pc : Nat) : gm_fetch 138 pc = gm_find pc cd_138 := rfl
theorem f138_0 : gm_fetch 138 0 = some (1, .iload_n 2, 0, 0, 0, 0) := (fe138 0).trans rfl
theorem f138_1 : gm_fetch 138 1 = some (2, .i2l, 0, 0, 0, 0) := (fe138 1).trans rfl
theorem f138_2 : gm_fetch 138 2 = some (3, .lconst 0, 0, 0, 0, 0) := (fe138 2).trans rfl
theorem f138_3 : gm_fetch 138 3 = some (6, .ldc2_w 151, 9, 0, 0, 16) := (fe138 3).trans rfl
theorem f138_6 : gm_fetch 138 6 = some (9, .invokestatic 93, 158, 114, 0, 0) := (fe138 6).trans rfl
theorem f138_9 : gm_fetch 138 9 = some (12, .ifCond .ne 6, 0, 15, 0, 0) := (fe138 9).trans rfl
theorem f138_12 : gm_fetch 138 12 = some (14, .bipush (-2), 0, 0, 0, 0) := (fe138 12).trans rfl
theorem f138_14 : gm_fetch 138 14 = some (15, .ireturn, 0, 0, 0, 0) := (fe138 14).trans rfl
theorem f138_15 : gm_fetch 138 15 = some (16, .iload_n 1, 0, 0, 0, 0) := (fe138 15).trans rfl
theorem f138_16 : gm_fetch 138 16 = some (17, .istore_n 3, 0, 0, 0, 0) := (fe138 16).trans rfl
theorem f138_17 : gm_fetch 138 17 = some (18, .iconst 0, 0, 0, 0, 0) := (fe138 17).trans rfl
theorem f138_18 : gm_fetch 138 18 = some (20, .istore 4, 0, 0, 0, 0) := (fe138 18).trans rfl
theorem f138_20 : gm_fetch 138 20 = some (22, .iload 4, 0, 0, 0, 0) := (fe138 20).trans rfl
theorem f138_22 : gm_fetch 138 22 = some (23, .aload_n 0, 0, 0, 0, 0) := (fe138 22).trans rfl
theorem f138_23 : gm_fetch 138 23 = some (26, .getfield 77, 89, 7, 5, 0) := (fe138 23).trans rfl
theorem f138_26 : gm_fetch 138 26 = some (27, .aload_n 0, 0, 0, 0, 0) := (fe138 26).trans rfl
theorem f138_27 : gm_fetch 138 27 = some (30, .getfield 81, 90, 7, 6, 0) := (fe138 27).trans rfl
theorem f138_30 : gm_fetch 138 30 = some (31, .imul, 0, 0, 0, 0) := (fe138 30).trans rfl
theorem f138_31 : gm_fetch 138 31 = some (34, .if_icmp .ge 52, 0, 83, 0, 0) := (fe138 31).trans rfl
theorem f138_34 : gm_fetch 138 34 = some (36, .ldc 153, 7, 0, 0, 1103515245) := (fe138 34).trans rfl
theorem f138_36 : gm_fetch 138 36 = some (37, .iload_n 3, 0, 0, 0, 0) := (fe138 36).trans rfl
theorem f138_37 : gm_fetch 138 37 = some (38, .imul, 0, 0, 0, 0) := (fe138 37).trans rfl
theorem f138_38 : gm_fetch 138 38 = some (41, .sipush 12345, 0, 0, 0, 0) := (fe138 38).trans rfl
theorem f138_41 : gm_fetch 138 41 = some (42, .iadd, 0, 0, 0, 0) := (fe138 41).trans rfl
theorem f138_42 : gm_fetch 138 42 = some (43, .istore_n 3, 0, 0, 0, 0) := (fe138 42).trans rfl
theorem f138_43 : gm_fetch 138 43 = some (44, .aload_n 0, 0, 0, 0, 0) := (fe138 43).trans rfl
theorem f138_44 : gm_fetch 138 44 = some (46, .iload 4, 0, 0, 0, 0) := (fe138 44).trans rfl
theorem f138_46 : gm_fetch 138 46 = some (47, .aload_n 0, 0, 0, 0, 0) := (fe138 46).trans rfl
theorem f138_47 : gm_fetch 138 47 = some (50, .getfield 81, 90, 7, 6, 0) := (fe138 47).trans rfl
theorem f138_50 : gm_fetch 138 50 = some (51, .irem, 0, 0, 0, 0) := (fe138 50).trans rfl
theorem f138_51 : gm_fetch 138 51 = some (53, .iload 4, 0, 0, 0, 0) := (fe138 51).trans rfl
theorem f138_53 : gm_fetch 138 53 = some (54, .aload_n 0, 0, 0, 0, 0) := (fe138 53).trans rfl
theorem f138_54 : gm_fetch 138 54 = some (57, .getfield 81, 90, 7, 6, 0) := (fe138 54).trans rfl
theorem f138_57 : gm_fetch 138 57 = some (58, .idiv, 0, 0, 0, 0) := (fe138 57).trans rfl
theorem f138_58 : gm_fetch 138 58 = some (59, .iload_n 3, 0, 0, 0, 0) := (fe138 58).trans rfl
theorem f138_59 : gm_fetch 138 59 = some (61, .bipush 16, 0, 0, 0, 0) := (fe138 59).trans rfl
theorem f138_61 : gm_fetch 138 61 = some (62, .iushr, 0, 0, 0, 0) := (fe138 61).trans rfl
theorem f138_62 : gm_fetch 138 62 = some (64, .bipush 16, 0, 0, 0, 0) := (fe138 62).trans rfl
theorem f138_64 : gm_fetch 138 64 = some (65, .irem, 0, 0, 0, 0) := (fe138 64).trans rfl
theorem f138_65 : gm_fetch 138 65 = some (66, .iload_n 2, 0, 0, 0, 0) := (fe138 65).trans rfl
theorem f138_66 : gm_fetch 138 66 = some (69, .if_icmp .ge 7, 0, 73, 0, 0) := (fe138 66).trans rfl
theorem f138_69 : gm_fetch 138 69 = some (70, .iconst 1, 0, 0, 0, 0) := (fe138 69).trans rfl
theorem f138_70 : gm_fetch 138 70 = some (73, .goto 4, 0, 74, 0, 0) := (fe138 70).trans rfl
theorem f138_73 : gm_fetch 138 73 = some (74, .iconst 0, 0, 0, 0, 0) := (fe138 73).trans rfl
theorem f138_74 : gm_fetch 138 74 = some (77, .invokevirtual 154, 178, 137, 0, 0) := (fe138 74).trans rfl
theorem f138_77 : gm_fetch 138 77 = some (80, .iinc 4 1, 0, 0, 0, 0) := (fe138 77).trans rfl
theorem f138_80 : gm_fetch 138 80 = some (83, .goto (-60), 0, 20, 0, 0) := (fe138 80).trans rfl
theorem f138_83 : gm_fetch 138 83 = some (84, .aload_n 0, 0, 0, 0, 0) := (fe138 83).trans rfl
theorem f138_84 : gm_fetch 138 84 = some (87, .invokevirtual 147, 174, 131, 0, 0) := (fe138 84).trans rfl
theorem f138_87 : gm_fetch 138 87 = some (88, .ireturn, 0, 0, 0, 0) := (fe138 87).trans rfl
set_option maxRecDepth 10000 in
theorem rg138_0 {mi : Mi} {ml : Ml} {F : Int32 → Mi → Ml → Prop} {x1 : Int32} {x2 : Int32}  (h : Sg 114 0 [some (.long (Int32.toInt64 x2)), none, some (.long 0), none, some (.long 16), none] [] mi ml (qi fun y1 mi2 ml3 => ((¬ y1 = 0) → Sg 138 20 [some (.ref 47), some (.int x1), some (.int x2), some (.int x1), some (.int 0)] [] mi2 ml3 (qi F)) ∧ (¬ (¬ y1 = 0) → F (-2) mi2 ml3))) : Sg 138 0 [some (.ref 47), some (.int x1), some (.int x2), none, none] [] mi ml (qi F) := by
  refine sg_ld f138_0 (v := .int x2) rfl rfl ?_
  refine sg_i2l f138_1 ?_
  refine sg_psh f138_2 (v := .long 0) (by decide) ?_
  refine sg_psh f138_3 (v := .long 16) (by decide) ?_
  refine sg_cS f138_6 (vs := [.long (Int32.toInt64 x2), .long 0, .long 16]) (rest := []) (en := [some (.long (Int32.toInt64 x2)), none, some (.long 0), none, some (.long 16), none]) (by decide) pq114 ⟨rfl, rfl⟩ rfl rfl rfl rfl rfl h ?_
  rintro _ mi2 ml3 ⟨y1, rfl, h⟩
  refine sg_if f138_9 (fun c => ?_) (fun c => ?_)
  · have h := h.1 c
    refine sg_ld f138_15 (v := .int x1) rfl rfl ?_
    refine sg_st1 f138_16 (ls' := [some (.ref 47), some (.int x1), some (.int x2), some (.int x1), none]) rfl rfl rfl rfl ?_
    refine sg_psh f138_17 (v := .int 0) (by decide) ?_
    refine sg_st1 f138_18 (ls' := [some (.ref 47), some (.int x1), some (.int x2), some (.int x1), some (.int 0)]) rfl rfl rfl rfl ?_
    exact h
  · have h := h.2 c
    refine sg_psh f138_12 (v := .int (-2)) (by decide) ?_
    exact sg_iret f138_14 pq138 rfl rfl ⟨_, rfl, h⟩

set_option maxRecDepth 10000 in
theorem rg138_20 {mi : Mi} {ml : Ml} {F : Int32 → Mi → Ml → Prop} {x1 : Int32} {x2 : Int32} {x3 : Int32} {x4 : Int32}  (h : ((((mi 47 5) * (mi 47 6)) ≤ x4) → Sg 131 0 [some (.ref 47), none, none] [] mi ml (qi fun y1 mi2 ml3 => F y1 mi2 ml3)) ∧ (¬ (((mi 47 5) * (mi 47 6)) ≤ x4) → (¬ (mi 47 6) = 0) ∧ (((x2 ≤ ((ushr ((1103515245 * x3) + 12345) 16) - (ushr ((1103515245 * x3) + 12345) 16) / 16 * 16)) → Sg 138 74 [some (.ref 47), some (.int x1), some (.int x2), some (.int ((1103515245 * x3) + 12345)), some (.int x4)] [.int 0, .int (x4 / (mi 47 6)), .int (x4 - x4 / (mi 47 6) * (mi 47 6)), .ref 47] mi ml (qi F)) ∧ (¬ (x2 ≤ ((ushr ((1103515245 * x3) + 12345) 16) - (ushr ((1103515245 * x3) + 12345) 16) / 16 * 16)) → Sg 138 74 [some (.ref 47), some (.int x1), some (.int x2), some (.int ((1103515245 * x3) + 12345)), some (.int x4)] [.int 1, .int (x4 / (mi 47 6)), .int (x4 - x4 / (mi 47 6) * (mi 47 6)), .ref 47] mi ml (qi F))))) : Sg 138 20 [some (.ref 47), some (.int x1), some (.int x2), some (.int x3), some (.int x4)] [] mi ml (qi F) := by
  refine sg_ld f138_20 (v := .int x4) rfl rfl ?_
  refine sg_ld f138_22 (v := .ref 47) rfl rfl ?_
  refine sg_geti f138_23 rfl rfl (x := (mi 47 5)) rfl ?_
  refine sg_ld f138_26 (v := .ref 47) rfl rfl ?_
  refine sg_geti f138_27 rfl rfl (x := (mi 47 6)) rfl ?_
  refine sg_bin f138_30 rfl ?_
  refine sg_icmp f138_31 (fun c => ?_) (fun c => ?_)
  · have h := h.1 c
    refine sg_ld f138_83 (v := .ref 47) rfl rfl ?_
    refine sg_cV f138_84 (vs := []) (r := 47) (rest := []) (en := [some (.ref 47), none, none]) pq131 ⟨rfl, rfl⟩ rfl rfl rfl rfl rfl rfl h ?_
    rintro _ mi2 ml3 ⟨y1, rfl, h⟩
    exact sg_iret f138_87 pq138 rfl rfl ⟨_, rfl, h⟩
  · have h := h.2 c
    refine sg_psh f138_34 (v := .int 1103515245) (by decide) ?_
    refine sg_ld f138_36 (v := .int x3) rfl rfl ?_
    refine sg_bin f138_37 rfl ?_
    refine sg_psh f138_38 (v := .int 12345) (by decide) ?_
    refine sg_bin f138_41 rfl ?_
    refine sg_st1 f138_42 (ls' := [some (.ref 47), some (.int x1), some (.int x2), some (.int ((1103515245 * x3) + 12345)), some (.int x4)]) rfl rfl rfl rfl ?_
    refine sg_ld f138_43 (v := .ref 47) rfl rfl ?_
    refine sg_ld f138_44 (v := .int x4) rfl rfl ?_
    refine sg_ld f138_46 (v := .ref 47) rfl rfl ?_
    refine sg_geti f138_47 rfl rfl (x := (mi 47 6)) rfl ?_
    obtain ⟨e4, h⟩ := h
    refine sg_rem f138_50 e4 ?_
    refine sg_ld f138_51 (v := .int x4) rfl rfl ?_
    refine sg_ld f138_53 (v := .ref 47) rfl rfl ?_
    refine sg_geti f138_54 rfl rfl (x := (mi 47 6)) rfl ?_
    refine sg_div f138_57 e4 ?_
    refine sg_ld f138_58 (v := .int ((1103515245 * x3) + 12345)) rfl rfl ?_
    refine sg_psh f138_59 (v := .int 16) (by decide) ?_
    refine sg_bin f138_61 rfl ?_
    refine sg_psh f138_62 (v := .int 16) (by decide) ?_
    refine sg_rem f138_64 (by decide) ?_
    refine sg_ld f138_65 (v := .int x2) rfl rfl ?_
    refine sg_icmp f138_66 (fun c => ?_) (fun c => ?_)
    · have h := h.1 c
      refine sg_psh f138_73 (v := .int 0) (by decide) ?_
      exact h
    · have h := h.2 c
      refine sg_psh f138_69 (v := .int 1) (by decide) ?_
      refine sg_goto f138_70 ?_
      exact h

set_option maxRecDepth 10000 in
theorem rg138_74 {mi : Mi} {ml : Ml} {F : Int32 → Mi → Ml → Prop} {x1 : Int32} {x2 : Int32} {x3 : Int32} {x4 : Int32} {s0 : Int32} {s1 : Int32} {s2 : Int32}  (h : Sg 137 0 [some (.ref 47), some (.int s2), some (.int s1), some (.int s0)] [] mi ml (qv fun mi2 ml3 => Sg 138 20 [some (.ref 47), some (.int x1), some (.int x2), some (.int x3), some (.int (x4 + 1))] [] mi2 ml3 (qi F))) : Sg 138 74 [some (.ref 47), some (.int x1), some (.int x2), some (.int x3), some (.int x4)] [.int s0, .int s1, .int s2, .ref 47] mi ml (qi F) := by
  refine sg_cV f138_74 (vs := [.int s2, .int s1, .int s0]) (r := 47) (rest := []) (en := [some (.ref 47), some (.int s2), some (.int s1), some (.int s0)]) pq137 ⟨rfl, rfl⟩ rfl rfl rfl rfl rfl rfl h ?_
  intro _ mi2 ml3 h
  have h := gm_qv h
  refine sg_inc f138_77 (d := 1) (ls' := [some (.ref 47), some (.int x1), some (.int x2), some (.int x3), some (.int (x4 + 1))]) rfl (by decide) rfl ?_
  refine sg_goto f138_80 ?_
  exact h

/-! X7_read (II)I -/
theorem fe139 (pc : Nat) : gm_fetch 139 pc = gm_find pc cd_139 := rfl
theorem f139_0 : gm_fetch 139 0 = some (1, .aload_n 0, 0, 0, 0, 0) := (fe139 0).trans rfl
theorem f139_1 : gm_fetch 139 1 = some (2, .iload_n 1, 0, 0, 0, 0) := (fe139 1).trans rfl
theorem f139_2 : gm_fetch 139 2 = some (5, .invokevirtual 125, 173, 129, 0, 0) := (fe139 2).trans rfl
theorem f139_5 : gm_fetch 139 5 = some (8, .ifCond .eq 10, 0, 15, 0, 0) := (fe139 5).trans rfl
theorem f139_8 : gm_fetch 139 8 = some (9, .iload_n 2, 0, 0, 0, 0) := (fe139 8).trans rfl
theorem f139_9 : gm_fetch 139 9 = some (12, .invokestatic 106, 157, 121, 0, 0) := (fe139 9).trans rfl
theorem f139_12 : gm_fetch 139 12 = some (15, .ifCond .ne 6, 0, 18, 0, 0) := (fe139 12).trans rfl
theorem f139_15 : gm_fetch 139 15 = some (17, .bipush (-2), 0, 0, 0, 0) := (fe139 15).trans rfl
theorem f139_17 : gm_fetch 139 17 = some (18, .ireturn, 0, 0, 0, 0) := (fe139 17).trans rfl
theorem f139_18 : gm_fetch 139 18 = some (19, .aload_n 0, 0, 0, 0, 0) := (fe139 18).trans rfl
theorem f139_19 : gm_fetch 139 19 = some (22, .getfield 7, 84, 7, 0, 0) := (fe139 19).trans rfl
theorem f139_22 : gm_fetch 139 22 = some (23, .iload_n 2, 0, 0, 0, 0) := (fe139 22).trans rfl
theorem f139_23 : gm_fetch 139 23 = some (24, .iaload, 0, 0, 0, 0) := (fe139 23).trans rfl
theorem f139_24 : gm_fetch 139 24 = some (27, .ifCond .ge 9, 0, 33, 0, 0) := (fe139 24).trans rfl
theorem f139_27 : gm_fetch 139 27 = some (28, .aload_n 0, 0, 0, 0, 0) := (fe139 27).trans rfl
theorem f139_28 : gm_fetch 139 28 = some (29, .iconst 1, 0, 0, 0, 0) := (fe139 28).trans rfl
theorem f139_29 : gm_fetch 139 29 = some (32, .invokevirtual 112, 159, 120, 0, 0) := (fe139 29).trans rfl
theorem f139_32 : gm_fetch 139 32 = some (33, .ireturn, 0, 0, 0, 0) := (fe139 32).trans rfl
theorem f139_33 : gm_fetch 139 33 = some (34, .aload_n 0, 0, 0, 0, 0) := (fe139 33).trans rfl
theorem f139_34 : gm_fetch 139 34 = some (37, .getfield 13, 85, 7, 1, 0) := (fe139 34).trans rfl
theorem f139_37 : gm_fetch 139 37 = some (38, .iload_n 2, 0, 0, 0, 0) := (fe139 37).trans rfl
theorem f139_38 : gm_fetch 139 38 = some (39, .iaload, 0, 0, 0, 0) := (fe139 38).trans rfl
theorem f139_39 : gm_fetch 139 39 = some (40, .aload_n 0, 0, 0, 0, 0) := (fe139 39).trans rfl
theorem f139_40 : gm_fetch 139 40 = some (43, .getfield 81, 90, 7, 6, 0) := (fe139 40).trans rfl
theorem f139_43 : gm_fetch 139 43 = some (46, .invokestatic 134, 167, 117, 0, 0) := (fe139 43).trans rfl
theorem f139_46 : gm_fetch 139 46 = some (47, .istore_n 3, 0, 0, 0, 0) := (fe139 46).trans rfl
theorem f139_47 : gm_fetch 139 47 = some (48, .iconst 0, 0, 0, 0, 0) := (fe139 47).trans rfl
theorem f139_48 : gm_fetch 139 48 = some (50, .istore 4, 0, 0, 0, 0) := (fe139 48).trans rfl
theorem f139_50 : gm_fetch 139 50 = some (52, .iload 4, 0, 0, 0, 0) := (fe139 50).trans rfl
theorem f139_52 : gm_fetch 139 52 = some (53, .iload_n 3, 0, 0, 0, 0) := (fe139 52).trans rfl
theorem f139_53 : gm_fetch 139 53 = some (56, .if_icmp .ge 36, 0, 89, 0, 0) := (fe139 53).trans rfl
theorem f139_56 : gm_fetch 139 56 = some (57, .aload_n 0, 0, 0, 0, 0) := (fe139 56).trans rfl
theorem f139_57 : gm_fetch 139 57 = some (59, .iload 4, 0, 0, 0, 0) := (fe139 57).trans rfl
theorem f139_59 : gm_fetch 139 59 = some (60, .iload_n 1, 0, 0, 0, 0) := (fe139 59).trans rfl
theorem f139_60 : gm_fetch 139 60 = some (61, .aload_n 0, 0, 0, 0, 0) := (fe139 60).trans rfl
theorem f139_61 : gm_fetch 139 61 = some (64, .getfield 16, 86, 7, 2, 0) := (fe139 61).trans rfl
theorem f139_64 : gm_fetch 139 64 = some (66, .bipush 60, 0, 0, 0, 0) := (fe139 64).trans rfl
theorem f139_66 : gm_fetch 139 66 = some (67, .iload_n 2, 0, 0, 0, 0) := (fe139 66).trans rfl
theorem f139_67 : gm_fetch 139 67 = some (68, .imul, 0, 0, 0, 0) := (fe139 67).trans rfl
theorem f139_68 : gm_fetch 139 68 = some (70, .iload 4, 0, 0, 0, 0) := (fe139 68).trans rfl
theorem f139_70 : gm_fetch 139 70 = some (71, .iadd, 0, 0, 0, 0) := (fe139 70).trans rfl
theorem f139_71 : gm_fetch 139 71 = some (72, .iaload, 0, 0, 0, 0) := (fe139 71).trans rfl
theorem f139_72 : gm_fetch 139 72 = some (75, .ifCond .eq 7, 0, 79, 0, 0) := (fe139 72).trans rfl
theorem f139_75 : gm_fetch 139 75 = some (76, .iconst 1, 0, 0, 0, 0) := (fe139 75).trans rfl
theorem f139_76 : gm_fetch 139 76 = some (79, .goto 4, 0, 80, 0, 0) := (fe139 76).trans rfl
theorem f139_79 : gm_fetch 139 79 = some (80, .iconst 0, 0, 0, 0, 0) := (fe139 79).trans rfl
theorem f139_80 : gm_fetch 139 80 = some (83, .invokevirtual 154, 178, 137, 0, 0) := (fe139 80).trans rfl
theorem f139_83 : gm_fetch 139 83 = some (86, .iinc 4 1, 0, 0, 0, 0) := (fe139 83).trans rfl
theorem f139_86 : gm_fetch 139 86 = some (89, .goto (-36), 0, 50, 0, 0) := (fe139 86).trans rfl
theorem f139_89 : gm_fetch 139 89 = some (90, .iload_n 3, 0, 0, 0, 0) := (fe139 89).trans rfl
theorem f139_90 : gm_fetch 139 90 = some (91, .ireturn, 0, 0, 0, 0) := (fe139 90).trans rfl
set_option maxRecDepth 10000 in
theorem rg139_0 {mi : Mi} {ml : Ml} {F : Int32 → Mi → Ml → Prop} {x1 : Int32} {x2 : Int32}  (h : Sg 129 0 [some (.ref 47), some (.int x1)] [] mi ml (qi fun y1 mi2 ml3 => ((y1 = 0) → F (-2) mi2 ml3) ∧ (¬ (y1 = 0) → Sg 121 0 [some (.int x2)] [] mi2 ml3 (qi fun y4 mi5 ml6 => ((¬ y4 = 0) → (vp_in x2 4) ∧ (((0 ≤ (mi5 48 (Int32.toNatClampNeg x2))) → Sg 117 0 [some (.int (mi5 49 (Int32.toNatClampNeg x2))), some (.int (mi5 47 6))] [] mi5 ml6 (qi fun y8 mi9 ml10 => Sg 139 50 [some (.ref 47), some (.int x1), some (.int x2), some (.int y8), some (.int 0)] [] mi9 ml10 (qi F))) ∧ (¬ (0 ≤ (mi5 48 (Int32.toNatClampNeg x2))) → Sg 120 0 [some (.ref 47), some (.int 1)] [] mi5 ml6 (qi fun y11 mi12 ml13 => F y11 mi12 ml13)))) ∧ (¬ (¬ y4 = 0) → F (-2) mi5 ml6))))) : Sg 139 0 [some (.ref 47), some (.int x1), some (.int x2), none, none] [] mi ml (qi F) := by
  refine sg_ld f139_0 (v := .ref 47) rfl rfl ?_
  refine sg_ld f139_1 (v := .int x1) rfl rfl ?_
  refine sg_cV f139_2 (vs := [.int x1]) (r := 47) (rest := []) (en := [some (.ref 47), some (.int x1)]) pq129 ⟨rfl, rfl⟩ rfl rfl rfl rfl rfl rfl h ?_
  rintro _ mi2 ml3 ⟨y1, rfl, h⟩
  refine sg_if f139_5 (fun c => ?_) (fun c => ?_)
  · have h := h.1 c
    refine sg_psh f139_15 (v := .int (-2)) (by decide) ?_
    exact sg_iret f139_17 pq139 rfl rfl ⟨_, rfl, h⟩
  · have h := h.2 c
    refine sg_ld f139_8 (v := .int x2) rfl rfl ?_
    refine sg_cS f139_9 (vs := [.int x2]) (rest := []) (en := [some (.int x2)]) (by decide) pq121 ⟨rfl, rfl⟩ rfl rfl rfl rfl rfl h ?_
    rintro _ mi5 ml6 ⟨y4, rfl, h⟩
    refine sg_if f139_12 (fun c => ?_) (fun c => ?_)
    · have h := h.1 c
      refine sg_ld f139_18 (v := .ref 47) rfl rfl ?_
      refine sg_getr f139_19 rfl rfl (w := 48) rfl ?_
      refine sg_ld f139_22 (v := .int x2) rfl rfl ?_
      obtain ⟨e7, h⟩ := h
      refine sg_iald f139_23 rfl e7 (x := (mi5 48 (Int32.toNatClampNeg x2))) rfl ?_
      refine sg_if f139_24 (fun c => ?_) (fun c => ?_)
      · have h := h.1 c
        refine sg_ld f139_33 (v := .ref 47) rfl rfl ?_
        refine sg_getr f139_34 rfl rfl (w := 49) rfl ?_
        refine sg_ld f139_37 (v := .int x2) rfl rfl ?_
        refine sg_iald f139_38 rfl e7 (x := (mi5 49 (Int32.toNatClampNeg x2))) rfl ?_
        refine sg_ld f139_39 (v := .ref 47) rfl rfl ?_
        refine sg_geti f139_40 rfl rfl (x := (mi5 47 6)) rfl ?_
        refine sg_cS f139_43 (vs := [.int (mi5 49 (Int32.toNatClampNeg x2)), .int (mi5 47 6)]) (rest := []) (en := [some (.int (mi5 49 (Int32.toNatClampNeg x2))), some (.int (mi5 47 6))]) (by decide) pq117 ⟨rfl, rfl⟩ rfl rfl rfl rfl rfl h ?_
        rintro _ mi9 ml10 ⟨y8, rfl, h⟩
        refine sg_st1 f139_46 (ls' := [some (.ref 47), some (.int x1), some (.int x2), some (.int y8), none]) rfl rfl rfl rfl ?_
        refine sg_psh f139_47 (v := .int 0) (by decide) ?_
        refine sg_st1 f139_48 (ls' := [some (.ref 47), some (.int x1), some (.int x2), some (.int y8), some (.int 0)]) rfl rfl rfl rfl ?_
        exact h
      · have h := h.2 c
        refine sg_ld f139_27 (v := .ref 47) rfl rfl ?_
        refine sg_psh f139_28 (v := .int 1) (by decide) ?_
        refine sg_cV f139_29 (vs := [.int 1]) (r := 47) (rest := []) (en := [some (.ref 47), some (.int 1)]) pq120 ⟨rfl, rfl⟩ rfl rfl rfl rfl rfl rfl h ?_
        rintro _ mi12 ml13 ⟨y11, rfl, h⟩
        exact sg_iret f139_32 pq139 rfl rfl ⟨_, rfl, h⟩
    · have h := h.2 c
      refine sg_psh f139_15 (v := .int (-2)) (by decide) ?_
      exact sg_iret f139_17 pq139 rfl rfl ⟨_, rfl, h⟩

set_option maxRecDepth 10000 in
theorem rg139_50 {mi : Mi} {ml : Ml} {F : Int32 → Mi → Ml → Prop} {x1 : Int32} {x2 : Int32} {x3 : Int32} {x4 : Int32}  (h : ((x3 ≤ x4) → F x3 mi ml) ∧ (¬ (x3 ≤ x4) → (vp_in ((60 * x2) + x4) 240) ∧ ((((mi 50 (Int32.toNatClampNeg ((60 * x2) + x4))) = 0) → Sg 139 80 [some (.ref 47), some (.int x1), some (.int x2), some (.int x3), some (.int x4)] [.int 0, .int x1, .int x4, .ref 47] mi ml (qi F)) ∧ (¬ ((mi 50 (Int32.toNatClampNeg ((60 * x2) + x4))) = 0) → Sg 139 80 [some (.ref 47), some (.int x1), some (.int x2), some (.int x3), some (.int x4)] [.int 1, .int x1, .int x4, .ref 47] mi ml (qi F))))) : Sg 139 50 [some (.ref 47), some (.int x1), some (.int x2), some (.int x3), some (.int x4)] [] mi ml (qi F) := by
  refine sg_ld f139_50 (v := .int x4) rfl rfl ?_
  refine sg_ld f139_52 (v := .int x3) rfl rfl ?_
  refine sg_icmp f139_53 (fun c => ?_) (fun c => ?_)
  · have h := h.1 c
    refine sg_ld f139_89 (v := .int x3) rfl rfl ?_
    exact sg_iret f139_90 pq139 rfl rfl ⟨_, rfl, h⟩
  · have h := h.2 c
    refine sg_ld f139_56 (v := .ref 47) rfl rfl ?_
    refine sg_ld f139_57 (v := .int x4) rfl rfl ?_
    refine sg_ld f139_59 (v := .int x1) rfl rfl ?_
    refine sg_ld f139_60 (v := .ref 47) rfl rfl ?_
    refine sg_getr f139_61 rfl rfl (w := 50) rfl ?_
    refine sg_psh f139_64 (v := .int 60) (by decide) ?_
    refine sg_ld f139_66 (v := .int x2) rfl rfl ?_
    refine sg_bin f139_67 rfl ?_
    refine sg_ld f139_68 (v := .int x4) rfl rfl ?_
    refine sg_bin f139_70 rfl ?_
    obtain ⟨e1, h⟩ := h
    refine sg_iald f139_71 rfl e1 (x := (mi 50 (Int32.toNatClampNeg ((60 * x2) + x4)))) rfl ?_
    refine sg_if f139_72 (fun c => ?_) (fun c => ?_)
    · have h := h.1 c
      refine sg_psh f139_79 (v := .int 0) (by decide) ?_
      exact h
    · have h := h.2 c
      refine sg_psh f139_75 (v := .int 1) (by decide) ?_
      refine sg_goto f139_76 ?_
      exact h

set_option maxRecDepth 10000 in
theorem rg139_80 {mi : Mi} {ml : Ml} {F : Int32 → Mi → Ml → Prop} {x1 : Int32} {x2 : Int32} {x3 : Int32} {x4 : Int32} {s0 : Int32} {s1 : Int32} {s2 : Int32}  (h : Sg 137 0 [some (.ref 47), some (.int s2), some (.int s1), some (.int s0)] [] mi ml (qv fun mi2 ml3 => Sg 139 50 [some (.ref 47), some (.int x1), some (.int x2), some (.int x3), some (.int (x4 + 1))] [] mi2 ml3 (qi F))) : Sg 139 80 [some (.ref 47), some (.int x1), some (.int x2), some (.int x3), some (.int x4)] [.int s0, .int s1, .int s2, .ref 47] mi ml (qi F) := by
  refine sg_cV f139_80 (vs := [.int s2, .int s1, .int s0]) (r := 47) (rest := []) (en := [some (.ref 47), some (.int s2), some (.int s1), some (.int s0)]) pq137 ⟨rfl, rfl⟩ rfl rfl rfl rfl rfl rfl h ?_
  intro _ mi2 ml3 h
  have h := gm_qv h
  refine sg_inc f139_83 (d := 1) (ls' := [some (.ref 47), some (.int x1), some (.int x2), some (.int x3), some (.int (x4 + 1))]) rfl (by decide) rfl ?_
  refine sg_goto f139_86 ?_
  exact h

