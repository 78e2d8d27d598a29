/-! X6_grid (II)I -/
theorem fe71 (pc : Nat) : gm_fetch 71 pc = gm_find pc cd_71 := rfl
theorem f71_0 : gm_fetch 71 0 = some (1, .iload_n 1, 0, 0, 0, 0) := (fe71 0).trans rfl
theorem f71_1 : gm_fetch 71 1 = some (2, .iconst 1, 0, 0, 0, 0) := (fe71 1).trans rfl
theorem f71_2 : gm_fetch 71 2 = some (5, .if_icmp .lt 20, 0, 22, 0, 0) := (fe71 2).trans rfl
theorem f71_5 : gm_fetch 71 5 = some (6, .iload_n 1, 0, 0, 0, 0) := (fe71 5).trans rfl
theorem f71_6 : gm_fetch 71 6 = some (8, .bipush 7, 0, 0, 0, 0) := (fe71 6).trans rfl
theorem f71_8 : gm_fetch 71 8 = some (11, .if_icmp .gt 14, 0, 22, 0, 0) := (fe71 8).trans rfl
theorem f71_11 : gm_fetch 71 11 = some (12, .iload_n 2, 0, 0, 0, 0) := (fe71 11).trans rfl
theorem f71_12 : gm_fetch 71 12 = some (13, .iconst 1, 0, 0, 0, 0) := (fe71 12).trans rfl
theorem f71_13 : gm_fetch 71 13 = some (16, .if_icmp .lt 9, 0, 22, 0, 0) := (fe71 13).trans rfl
theorem f71_16 : gm_fetch 71 16 = some (17, .iload_n 2, 0, 0, 0, 0) := (fe71 16).trans rfl
theorem f71_17 : gm_fetch 71 17 = some (19, .bipush 7, 0, 0, 0, 0) := (fe71 17).trans rfl
theorem f71_19 : gm_fetch 71 19 = some (22, .if_icmp .le 6, 0, 25, 0, 0) := (fe71 19).trans rfl
theorem f71_22 : gm_fetch 71 22 = some (24, .bipush (-2), 0, 0, 0, 0) := (fe71 22).trans rfl
theorem f71_24 : gm_fetch 71 24 = some (25, .ireturn, 0, 0, 0, 0) := (fe71 24).trans rfl
theorem f71_25 : gm_fetch 71 25 = some (26, .aload_n 0, 0, 0, 0, 0) := (fe71 25).trans rfl
theorem f71_26 : gm_fetch 71 26 = some (29, .getfield 12, 76, 6, 0, 0) := (fe71 26).trans rfl
theorem f71_29 : gm_fetch 71 29 = some (30, .iload_n 1, 0, 0, 0, 0) := (fe71 29).trans rfl
theorem f71_30 : gm_fetch 71 30 = some (31, .iload_n 2, 0, 0, 0, 0) := (fe71 30).trans rfl
theorem f71_31 : gm_fetch 71 31 = some (34, .invokevirtual 50, 15, 1, 0, 0) := (fe71 31).trans rfl
theorem f71_34 : gm_fetch 71 34 = some (35, .aload_n 0, 0, 0, 0, 0) := (fe71 34).trans rfl
theorem f71_35 : gm_fetch 71 35 = some (38, .getfield 35, 79, 6, 3, 0) := (fe71 35).trans rfl
theorem f71_38 : gm_fetch 71 38 = some (39, .iconst 0, 0, 0, 0, 0) := (fe71 38).trans rfl
theorem f71_39 : gm_fetch 71 39 = some (42, .putfield 54, 61, 2, 0, 0) := (fe71 39).trans rfl
theorem f71_42 : gm_fetch 71 42 = some (43, .aload_n 0, 0, 0, 0, 0) := (fe71 42).trans rfl
theorem f71_43 : gm_fetch 71 43 = some (46, .getfield 12, 76, 6, 0, 0) := (fe71 43).trans rfl
theorem f71_46 : gm_fetch 71 46 = some (49, .invokevirtual 58, 18, 10, 0, 0) := (fe71 46).trans rfl
theorem f71_49 : gm_fetch 71 49 = some (50, .ireturn, 0, 0, 0, 0) := (fe71 49).trans rfl
set_option maxRecDepth 10000 in
theorem rg71_0 {mi : Mi} {ml : Ml} {F : Int32 → Mi → Ml → Prop} {x1 : Int32} {x2 : Int32}  (h : ((x1 < 1) → F (-2) mi ml) ∧ (¬ (x1 < 1) → ((7 < x1) → F (-2) mi ml) ∧ (¬ (7 < x1) → ((x2 < 1) → F (-2) mi ml) ∧ (¬ (x2 < 1) → ((x2 ≤ 7) → Sg 1 0 [some (.ref 1), some (.int x1), some (.int x2)] [] mi ml (qv fun mi2 ml3 => Sg 10 0 [some (.ref 1)] [] (va_up mi2 23 (va_up (mi2 23) 0 0)) ml3 (qi fun y4 mi5 ml6 => F y4 mi5 ml6))) ∧ (¬ (x2 ≤ 7) → F (-2) mi ml))))) : Sg 71 0 [some (.ref 0), some (.int x1), some (.int x2)] [] mi ml (qi F) := by
  refine sg_ld f71_0 (v := .int x1) rfl rfl ?_
  refine sg_psh f71_1 (v := .int 1) (by decide) ?_
  refine sg_icmp f71_2 (fun c => ?_) (fun c => ?_)
  · have h := h.1 c
    refine sg_psh f71_22 (v := .int (-2)) (by decide) ?_
    exact sg_iret f71_24 pq71 rfl rfl ⟨_, rfl, h⟩
  · have h := h.2 c
    refine sg_ld f71_5 (v := .int x1) rfl rfl ?_
    refine sg_psh f71_6 (v := .int 7) (by decide) ?_
    refine sg_icmp f71_8 (fun c => ?_) (fun c => ?_)
    · have h := h.1 c
      refine sg_psh f71_22 (v := .int (-2)) (by decide) ?_
      exact sg_iret f71_24 pq71 rfl rfl ⟨_, rfl, h⟩
    · have h := h.2 c
      refine sg_ld f71_11 (v := .int x2) rfl rfl ?_
      refine sg_psh f71_12 (v := .int 1) (by decide) ?_
      refine sg_icmp f71_13 (fun c => ?_) (fun c => ?_)
      · have h := h.1 c
        refine sg_psh f71_22 (v := .int (-2)) (by decide) ?_
        exact sg_iret f71_24 pq71 rfl rfl ⟨_, rfl, h⟩
      · have h := h.2 c
        refine sg_ld f71_16 (v := .int x2) rfl rfl ?_
        refine sg_psh f71_17 (v := .int 7) (by decide) ?_
        refine sg_icmp f71_19 (fun c => ?_) (fun c => ?_)
        · have h := h.1 c
          refine sg_ld f71_25 (v := .ref 0) rfl rfl ?_
          refine sg_getr f71_26 rfl rfl (w := 1) rfl ?_
          refine sg_ld f71_29 (v := .int x1) rfl rfl ?_
          refine sg_ld f71_30 (v := .int x2) rfl rfl ?_
          refine sg_cV f71_31 (vs := [.int x1, .int x2]) (r := 1) (rest := []) (en := [some (.ref 1), some (.int x1), some (.int x2)]) pq1 ⟨rfl, rfl⟩ rfl rfl rfl rfl rfl rfl h ?_
          intro _ mi2 ml3 h
          have h := gm_qv h
          refine sg_ld f71_34 (v := .ref 0) rfl rfl ?_
          refine sg_getr f71_35 rfl rfl (w := 23) rfl ?_
          refine sg_psh f71_38 (v := .int 0) (by decide) ?_
          refine sg_puti f71_39 rfl rfl rfl (fun _ => by decide) ?_
          refine sg_ld f71_42 (v := .ref 0) rfl rfl ?_
          refine sg_getr f71_43 rfl rfl (w := 1) rfl ?_
          refine sg_cV f71_46 (vs := []) (r := 1) (rest := []) (en := [some (.ref 1)]) pq10 ⟨rfl, rfl⟩ rfl rfl rfl rfl rfl rfl h ?_
          rintro _ mi5 ml6 ⟨y4, rfl, h⟩
          exact sg_iret f71_49 pq71 rfl rfl ⟨_, rfl, h⟩
        · have h := h.2 c
          refine sg_psh f71_22 (v := .int (-2)) (by decide) ?_
          exact sg_iret f71_24 pq71 rfl rfl ⟨_, rfl, h⟩

/-! X6_wish (I)I -/
theorem fe72 (pc : Nat) : gm_fetch 72 pc = gm_find pc cd_72 := rfl
theorem f72_0 : gm_fetch 72 0 = some (1, .iload_n 1, 0, 0, 0, 0) := (fe72 0).trans rfl
theorem f72_1 : gm_fetch 72 1 = some (2, .iconst 1, 0, 0, 0, 0) := (fe72 1).trans rfl
theorem f72_2 : gm_fetch 72 2 = some (5, .if_icmp .lt 14, 0, 16, 0, 0) := (fe72 2).trans rfl
theorem f72_5 : gm_fetch 72 5 = some (6, .iload_n 1, 0, 0, 0, 0) := (fe72 5).trans rfl
theorem f72_6 : gm_fetch 72 6 = some (7, .aload_n 0, 0, 0, 0, 0) := (fe72 6).trans rfl
theorem f72_7 : gm_fetch 72 7 = some (10, .getfield 12, 76, 6, 0, 0) := (fe72 7).trans rfl
theorem f72_10 : gm_fetch 72 10 = some (13, .getfield 62, 7, 0, 1, 0) := (fe72 10).trans rfl
theorem f72_13 : gm_fetch 72 13 = some (16, .if_icmp .le 6, 0, 19, 0, 0) := (fe72 13).trans rfl
theorem f72_16 : gm_fetch 72 16 = some (18, .bipush (-2), 0, 0, 0, 0) := (fe72 16).trans rfl
theorem f72_18 : gm_fetch 72 18 = some (19, .ireturn, 0, 0, 0, 0) := (fe72 18).trans rfl
theorem f72_19 : gm_fetch 72 19 = some (20, .aload_n 0, 0, 0, 0, 0) := (fe72 19).trans rfl
theorem f72_20 : gm_fetch 72 20 = some (23, .getfield 12, 76, 6, 0, 0) := (fe72 20).trans rfl
theorem f72_23 : gm_fetch 72 23 = some (26, .getfield 66, 12, 0, 2, 0) := (fe72 23).trans rfl
theorem f72_26 : gm_fetch 72 26 = some (27, .istore_n 2, 0, 0, 0, 0) := (fe72 26).trans rfl
theorem f72_27 : gm_fetch 72 27 = some (28, .aload_n 0, 0, 0, 0, 0) := (fe72 27).trans rfl
theorem f72_28 : gm_fetch 72 28 = some (31, .getfield 12, 76, 6, 0, 0) := (fe72 28).trans rfl
theorem f72_31 : gm_fetch 72 31 = some (32, .iload_n 1, 0, 0, 0, 0) := (fe72 31).trans rfl
theorem f72_32 : gm_fetch 72 32 = some (35, .invokevirtual 69, 20, 2, 0, 0) := (fe72 32).trans rfl
theorem f72_35 : gm_fetch 72 35 = some (36, .aload_n 0, 0, 0, 0, 0) := (fe72 35).trans rfl
theorem f72_36 : gm_fetch 72 36 = some (39, .getfield 35, 79, 6, 3, 0) := (fe72 36).trans rfl
theorem f72_39 : gm_fetch 72 39 = some (40, .iconst 0, 0, 0, 0, 0) := (fe72 39).trans rfl
theorem f72_40 : gm_fetch 72 40 = some (43, .putfield 54, 61, 2, 0, 0) := (fe72 40).trans rfl
theorem f72_43 : gm_fetch 72 43 = some (44, .iload_n 2, 0, 0, 0, 0) := (fe72 43).trans rfl
theorem f72_44 : gm_fetch 72 44 = some (45, .ireturn, 0, 0, 0, 0) := (fe72 44).trans rfl
set_option maxRecDepth 10000 in
theorem rg72_0 {mi : Mi} {ml : Ml} {F : Int32 → Mi → Ml → Prop} {x1 : Int32}  (h : ((x1 < 1) → F (-2) mi ml) ∧ (¬ (x1 < 1) → ((x1 ≤ (mi 1 1)) → Sg 2 0 [some (.ref 1), some (.int x1)] [] mi ml (qv fun mi2 ml3 => F (mi 1 2) (va_up mi2 23 (va_up (mi2 23) 0 0)) ml3)) ∧ (¬ (x1 ≤ (mi 1 1)) → F (-2) mi ml))) : Sg 72 0 [some (.ref 0), some (.int x1), none] [] mi ml (qi F) := by
  refine sg_ld f72_0 (v := .int x1) rfl rfl ?_
  refine sg_psh f72_1 (v := .int 1) (by decide) ?_
  refine sg_icmp f72_2 (fun c => ?_) (fun c => ?_)
  · have h := h.1 c
    refine sg_psh f72_16 (v := .int (-2)) (by decide) ?_
    exact sg_iret f72_18 pq72 rfl rfl ⟨_, rfl, h⟩
  · have h := h.2 c
    refine sg_ld f72_5 (v := .int x1) rfl rfl ?_
    refine sg_ld f72_6 (v := .ref 0) rfl rfl ?_
    refine sg_getr f72_7 rfl rfl (w := 1) rfl ?_
    refine sg_geti f72_10 rfl rfl (x := (mi 1 1)) rfl ?_
    refine sg_icmp f72_13 (fun c => ?_) (fun c => ?_)
    · have h := h.1 c
      refine sg_ld f72_19 (v := .ref 0) rfl rfl ?_
      refine sg_getr f72_20 rfl rfl (w := 1) rfl ?_
      refine sg_geti f72_23 rfl rfl (x := (mi 1 2)) rfl ?_
      refine sg_st1 f72_26 (ls' := [some (.ref 0), some (.int x1), some (.int (mi 1 2))]) rfl rfl rfl rfl ?_
      refine sg_ld f72_27 (v := .ref 0) rfl rfl ?_
      refine sg_getr f72_28 rfl rfl (w := 1) rfl ?_
      refine sg_ld f72_31 (v := .int x1) rfl rfl ?_
      refine sg_cV f72_32 (vs := [.int x1]) (r := 1) (rest := []) (en := [some (.ref 1), some (.int x1)]) pq2 ⟨rfl, rfl⟩ rfl rfl rfl rfl rfl rfl h ?_
      intro _ mi2 ml3 h
      have h := gm_qv h
      refine sg_ld f72_35 (v := .ref 0) rfl rfl ?_
      refine sg_getr f72_36 rfl rfl (w := 23) rfl ?_
      refine sg_psh f72_39 (v := .int 0) (by decide) ?_
      refine sg_puti f72_40 rfl rfl rfl (fun _ => by decide) ?_
      refine sg_ld f72_43 (v := .int (mi 1 2)) rfl rfl ?_
      exact sg_iret f72_44 pq72 rfl rfl ⟨_, rfl, h⟩
    · have h := h.2 c
      refine sg_psh f72_16 (v := .int (-2)) (by decide) ?_
      exact sg_iret f72_18 pq72 rfl rfl ⟨_, rfl, h⟩

/-! X6_length (I)I -/
theorem fe73 (pc : Nat) : gm_fetch 73 pc = gm_find pc cd_73 := rfl
theorem f73_0 : gm_fetch 73 0 = some (1, .iload_n 1, 0, 0, 0, 0) := (fe73 0).trans rfl
theorem f73_1 : gm_fetch 73 1 = some (4, .ifCond .lt 8, 0, 9, 0, 0) := (fe73 1).trans rfl
theorem f73_4 : gm_fetch 73 4 = some (5, .iload_n 1, 0, 0, 0, 0) := (fe73 4).trans rfl
theorem f73_5 : gm_fetch 73 5 = some (6, .iconst 3, 0, 0, 0, 0) := (fe73 5).trans rfl
theorem f73_6 : gm_fetch 73 6 = some (9, .if_icmp .le 6, 0, 12, 0, 0) := (fe73 6).trans rfl
theorem f73_9 : gm_fetch 73 9 = some (11, .bipush (-2), 0, 0, 0, 0) := (fe73 9).trans rfl
theorem f73_11 : gm_fetch 73 11 = some (12, .ireturn, 0, 0, 0, 0) := (fe73 11).trans rfl
theorem f73_12 : gm_fetch 73 12 = some (13, .aload_n 0, 0, 0, 0, 0) := (fe73 12).trans rfl
theorem f73_13 : gm_fetch 73 13 = some (16, .getfield 12, 76, 6, 0, 0) := (fe73 13).trans rfl
theorem f73_16 : gm_fetch 73 16 = some (19, .getfield 73, 16, 0, 3, 0) := (fe73 16).trans rfl
theorem f73_19 : gm_fetch 73 19 = some (20, .istore_n 2, 0, 0, 0, 0) := (fe73 19).trans rfl
theorem f73_20 : gm_fetch 73 20 = some (21, .aload_n 0, 0, 0, 0, 0) := (fe73 20).trans rfl
theorem f73_21 : gm_fetch 73 21 = some (24, .getfield 12, 76, 6, 0, 0) := (fe73 21).trans rfl
theorem f73_24 : gm_fetch 73 24 = some (25, .iload_n 1, 0, 0, 0, 0) := (fe73 24).trans rfl
theorem f73_25 : gm_fetch 73 25 = some (28, .invokevirtual 76, 22, 3, 0, 0) := (fe73 25).trans rfl
theorem f73_28 : gm_fetch 73 28 = some (29, .iload_n 2, 0, 0, 0, 0) := (fe73 28).trans rfl
theorem f73_29 : gm_fetch 73 29 = some (30, .ireturn, 0, 0, 0, 0) := (fe73 29).trans rfl
set_option maxRecDepth 10000 in
theorem rg73_0 {mi : Mi} {ml : Ml} {F : Int32 → Mi → Ml → Prop} {x1 : Int32}  (h : ((x1 < 0) → F (-2) mi ml) ∧ (¬ (x1 < 0) → ((x1 ≤ 3) → Sg 3 0 [some (.ref 1), some (.int x1)] [] mi ml (qv fun mi2 ml3 => F (mi 1 3) mi2 ml3)) ∧ (¬ (x1 ≤ 3) → F (-2) mi ml))) : Sg 73 0 [some (.ref 0), some (.int x1), none] [] mi ml (qi F) := by
  refine sg_ld f73_0 (v := .int x1) rfl rfl ?_
  refine sg_if f73_1 (fun c => ?_) (fun c => ?_)
  · have h := h.1 c
    refine sg_psh f73_9 (v := .int (-2)) (by decide) ?_
    exact sg_iret f73_11 pq73 rfl rfl ⟨_, rfl, h⟩
  · have h := h.2 c
    refine sg_ld f73_4 (v := .int x1) rfl rfl ?_
    refine sg_psh f73_5 (v := .int 3) (by decide) ?_
    refine sg_icmp f73_6 (fun c => ?_) (fun c => ?_)
    · have h := h.1 c
      refine sg_ld f73_12 (v := .ref 0) rfl rfl ?_
      refine sg_getr f73_13 rfl rfl (w := 1) rfl ?_
      refine sg_geti f73_16 rfl rfl (x := (mi 1 3)) rfl ?_
      refine sg_st1 f73_19 (ls' := [some (.ref 0), some (.int x1), some (.int (mi 1 3))]) rfl rfl rfl rfl ?_
      refine sg_ld f73_20 (v := .ref 0) rfl rfl ?_
      refine sg_getr f73_21 rfl rfl (w := 1) rfl ?_
      refine sg_ld f73_24 (v := .int x1) rfl rfl ?_
      refine sg_cV f73_25 (vs := [.int x1]) (r := 1) (rest := []) (en := [some (.ref 1), some (.int x1)]) pq3 ⟨rfl, rfl⟩ rfl rfl rfl rfl rfl rfl h ?_
      intro _ mi2 ml3 h
      have h := gm_qv h
      refine sg_ld f73_28 (v := .int (mi 1 3)) rfl rfl ?_
      exact sg_iret f73_29 pq73 rfl rfl ⟨_, rfl, h⟩
    · have h := h.2 c
      refine sg_psh f73_9 (v := .int (-2)) (by decide) ?_
      exact sg_iret f73_11 pq73 rfl rfl ⟨_, rfl, h⟩

/-! X6_sides (I)I -/
theorem fe74 (pc : Nat) : gm_fetch 74 pc = gm_find pc cd_74 := rfl
theorem f74_0 : gm_fetch 74 0 = some (1, .iload_n 1, 0, 0, 0, 0) := (fe74 0).trans rfl
theorem f74_1 : gm_fetch 74 1 = some (4, .ifCond .lt 9, 0, 10, 0, 0) := (fe74 1).trans rfl
theorem f74_4 : gm_fetch 74 4 = some (5, .iload_n 1, 0, 0, 0, 0) := (fe74 4).trans rfl
theorem f74_5 : gm_fetch 74 5 = some (7, .bipush 15, 0, 0, 0, 0) := (fe74 5).trans rfl
theorem f74_7 : gm_fetch 74 7 = some (10, .if_icmp .le 6, 0, 13, 0, 0) := (fe74 7).trans rfl
theorem f74_10 : gm_fetch 74 10 = some (12, .bipush (-2), 0, 0, 0, 0) := (fe74 10).trans rfl
theorem f74_12 : gm_fetch 74 12 = some (13, .ireturn, 0, 0, 0, 0) := (fe74 12).trans rfl
theorem f74_13 : gm_fetch 74 13 = some (14, .aload_n 0, 0, 0, 0, 0) := (fe74 13).trans rfl
theorem f74_14 : gm_fetch 74 14 = some (17, .getfield 12, 76, 6, 0, 0) := (fe74 14).trans rfl
theorem f74_17 : gm_fetch 74 17 = some (20, .getfield 79, 19, 0, 4, 0) := (fe74 17).trans rfl
theorem f74_20 : gm_fetch 74 20 = some (21, .istore_n 2, 0, 0, 0, 0) := (fe74 20).trans rfl
theorem f74_21 : gm_fetch 74 21 = some (22, .aload_n 0, 0, 0, 0, 0) := (fe74 21).trans rfl
theorem f74_22 : gm_fetch 74 22 = some (25, .getfield 12, 76, 6, 0, 0) := (fe74 22).trans rfl
theorem f74_25 : gm_fetch 74 25 = some (26, .iload_n 1, 0, 0, 0, 0) := (fe74 25).trans rfl
theorem f74_26 : gm_fetch 74 26 = some (29, .invokevirtual 82, 24, 4, 0, 0) := (fe74 26).trans rfl
theorem f74_29 : gm_fetch 74 29 = some (30, .iload_n 2, 0, 0, 0, 0) := (fe74 29).trans rfl
theorem f74_30 : gm_fetch 74 30 = some (31, .ireturn, 0, 0, 0, 0) := (fe74 30).trans rfl
set_option maxRecDepth 10000 in
theorem rg74_0 {mi : Mi} {ml : Ml} {F : Int32 → Mi → Ml → Prop} {x1 : Int32}  (h : ((x1 < 0) → F (-2) mi ml) ∧ (¬ (x1 < 0) → ((x1 ≤ 15) → Sg 4 0 [some (.ref 1), some (.int x1)] [] mi ml (qv fun mi2 ml3 => F (mi 1 4) mi2 ml3)) ∧ (¬ (x1 ≤ 15) → F (-2) mi ml))) : Sg 74 0 [some (.ref 0), some (.int x1), none] [] mi ml (qi F) := by
  refine sg_ld f74_0 (v := .int x1) rfl rfl ?_
  refine sg_if f74_1 (fun c => ?_) (fun c => ?_)
  · have h := h.1 c
    refine sg_psh f74_10 (v := .int (-2)) (by decide) ?_
    exact sg_iret f74_12 pq74 rfl rfl ⟨_, rfl, h⟩
  · have h := h.2 c
    refine sg_ld f74_4 (v := .int x1) rfl rfl ?_
    refine sg_psh f74_5 (v := .int 15) (by decide) ?_
    refine sg_icmp f74_7 (fun c => ?_) (fun c => ?_)
    · have h := h.1 c
      refine sg_ld f74_13 (v := .ref 0) rfl rfl ?_
      refine sg_getr f74_14 rfl rfl (w := 1) rfl ?_
      refine sg_geti f74_17 rfl rfl (x := (mi 1 4)) rfl ?_
      refine sg_st1 f74_20 (ls' := [some (.ref 0), some (.int x1), some (.int (mi 1 4))]) rfl rfl rfl rfl ?_
      refine sg_ld f74_21 (v := .ref 0) rfl rfl ?_
      refine sg_getr f74_22 rfl rfl (w := 1) rfl ?_
      refine sg_ld f74_25 (v := .int x1) rfl rfl ?_
      refine sg_cV f74_26 (vs := [.int x1]) (r := 1) (rest := []) (en := [some (.ref 1), some (.int x1)]) pq4 ⟨rfl, rfl⟩ rfl rfl rfl rfl rfl rfl h ?_
      intro _ mi2 ml3 h
      have h := gm_qv h
      refine sg_ld f74_29 (v := .int (mi 1 4)) rfl rfl ?_
      exact sg_iret f74_30 pq74 rfl rfl ⟨_, rfl, h⟩
    · have h := h.2 c
      refine sg_psh f74_10 (v := .int (-2)) (by decide) ?_
      exact sg_iret f74_12 pq74 rfl rfl ⟨_, rfl, h⟩

/-! X6_fault (II)I -/
theorem fe75 (pc : Nat) : gm_fetch 75 pc = gm_find pc cd_75 := rfl
theorem f75_0 : gm_fetch 75 0 = some (1, .aload_n 0, 0, 0, 0, 0) := (fe75 0).trans rfl
theorem f75_1 : gm_fetch 75 1 = some (4, .getfield 12, 76, 6, 0, 0) := (fe75 1).trans rfl
theorem f75_4 : gm_fetch 75 4 = some (5, .iload_n 1, 0, 0, 0, 0) := (fe75 4).trans rfl
theorem f75_5 : gm_fetch 75 5 = some (6, .iload_n 2, 0, 0, 0, 0) := (fe75 5).trans rfl
theorem f75_6 : gm_fetch 75 6 = some (9, .invokevirtual 85, 26, 7, 0, 0) := (fe75 6).trans rfl
theorem f75_9 : gm_fetch 75 9 = some (12, .ifCond .ne 6, 0, 15, 0, 0) := (fe75 9).trans rfl
theorem f75_12 : gm_fetch 75 12 = some (14, .bipush (-2), 0, 0, 0, 0) := (fe75 12).trans rfl
theorem f75_14 : gm_fetch 75 14 = some (15, .ireturn, 0, 0, 0, 0) := (fe75 14).trans rfl
theorem f75_15 : gm_fetch 75 15 = some (16, .aload_n 0, 0, 0, 0, 0) := (fe75 15).trans rfl
theorem f75_16 : gm_fetch 75 16 = some (19, .getfield 12, 76, 6, 0, 0) := (fe75 16).trans rfl
theorem f75_19 : gm_fetch 75 19 = some (20, .iload_n 2, 0, 0, 0, 0) := (fe75 19).trans rfl
theorem f75_20 : gm_fetch 75 20 = some (21, .aload_n 0, 0, 0, 0, 0) := (fe75 20).trans rfl
theorem f75_21 : gm_fetch 75 21 = some (24, .getfield 12, 76, 6, 0, 0) := (fe75 21).trans rfl
theorem f75_24 : gm_fetch 75 24 = some (27, .getfield 89, 27, 0, 6, 0) := (fe75 24).trans rfl
theorem f75_27 : gm_fetch 75 27 = some (28, .iload_n 2, 0, 0, 0, 0) := (fe75 27).trans rfl
theorem f75_28 : gm_fetch 75 28 = some (29, .iaload, 0, 0, 0, 0) := (fe75 28).trans rfl
theorem f75_29 : gm_fetch 75 29 = some (30, .iconst 1, 0, 0, 0, 0) := (fe75 29).trans rfl
theorem f75_30 : gm_fetch 75 30 = some (31, .iload_n 1, 0, 0, 0, 0) := (fe75 30).trans rfl
theorem f75_31 : gm_fetch 75 31 = some (32, .ishl, 0, 0, 0, 0) := (fe75 31).trans rfl
theorem f75_32 : gm_fetch 75 32 = some (33, .ixor, 0, 0, 0, 0) := (fe75 32).trans rfl
theorem f75_33 : gm_fetch 75 33 = some (36, .invokevirtual 93, 28, 5, 0, 0) := (fe75 33).trans rfl
theorem f75_36 : gm_fetch 75 36 = some (37, .aload_n 0, 0, 0, 0, 0) := (fe75 36).trans rfl
theorem f75_37 : gm_fetch 75 37 = some (40, .getfield 12, 76, 6, 0, 0) := (fe75 37).trans rfl
theorem f75_40 : gm_fetch 75 40 = some (43, .invokevirtual 96, 29, 11, 0, 0) := (fe75 40).trans rfl
theorem f75_43 : gm_fetch 75 43 = some (44, .ireturn, 0, 0, 0, 0) := (fe75 43).trans rfl
set_option maxRecDepth 10000 in
theorem rg75_0 {mi : Mi} {ml : Ml} {F : Int32 → Mi → Ml → Prop} {x1 : Int32} {x2 : Int32}  (h : Sg 7 0 [some (.ref 1), some (.int x1), some (.int x2)] [] mi ml (qi fun y1 mi2 ml3 => ((¬ y1 = 0) → (vp_in x2 7) ∧ (Sg 5 0 [some (.ref 1), some (.int x2), some (.int ((mi2 2 (Int32.toNatClampNeg x2)) ^^^ (1 <<< (x1 &&& 31))))] [] mi2 ml3 (qv fun mi6 ml7 => Sg 11 0 [some (.ref 1), none, none] [] mi6 ml7 (qi fun y8 mi9 ml10 => F y8 mi9 ml10)))) ∧ (¬ (¬ y1 = 0) → F (-2) mi2 ml3))) : Sg 75 0 [some (.ref 0), some (.int x1), some (.int x2)] [] mi ml (qi F) := by
  refine sg_ld f75_0 (v := .ref 0) rfl rfl ?_
  refine sg_getr f75_1 rfl rfl (w := 1) rfl ?_
  refine sg_ld f75_4 (v := .int x1) rfl rfl ?_
  refine sg_ld f75_5 (v := .int x2) rfl rfl ?_
  refine sg_cV f75_6 (vs := [.int x1, .int x2]) (r := 1) (rest := []) (en := [some (.ref 1), some (.int x1), some (.int x2)]) pq7 ⟨rfl, rfl⟩ rfl rfl rfl rfl rfl rfl h ?_
  rintro _ mi2 ml3 ⟨y1, rfl, h⟩
  refine sg_if f75_9 (fun c => ?_) (fun c => ?_)
  · have h := h.1 c
    refine sg_ld f75_15 (v := .ref 0) rfl rfl ?_
    refine sg_getr f75_16 rfl rfl (w := 1) rfl ?_
    refine sg_ld f75_19 (v := .int x2) rfl rfl ?_
    refine sg_ld f75_20 (v := .ref 0) rfl rfl ?_
    refine sg_getr f75_21 rfl rfl (w := 1) rfl ?_
    refine sg_getr f75_24 rfl rfl (w := 2) rfl ?_
    refine sg_ld f75_27 (v := .int x2) rfl rfl ?_
    obtain ⟨e4, h⟩ := h
    refine sg_iald f75_28 rfl e4 (x := (mi2 2 (Int32.toNatClampNeg x2))) rfl ?_
    refine sg_psh f75_29 (v := .int 1) (by decide) ?_
    refine sg_ld f75_30 (v := .int x1) rfl rfl ?_
    refine sg_bin f75_31 rfl ?_
    refine sg_bin f75_32 rfl ?_
    refine sg_cV f75_33 (vs := [.int x2, .int ((mi2 2 (Int32.toNatClampNeg x2)) ^^^ (1 <<< (x1 &&& 31)))]) (r := 1) (rest := []) (en := [some (.ref 1), some (.int x2), some (.int ((mi2 2 (Int32.toNatClampNeg x2)) ^^^ (1 <<< (x1 &&& 31))))]) pq5 ⟨rfl, rfl⟩ rfl rfl rfl rfl rfl rfl h ?_
    intro _ mi6 ml7 h
    have h := gm_qv h
    refine sg_ld f75_36 (v := .ref 0) rfl rfl ?_
    refine sg_getr f75_37 rfl rfl (w := 1) rfl ?_
    refine sg_cV f75_40 (vs := []) (r := 1) (rest := []) (en := [some (.ref 1), none, none]) pq11 ⟨rfl, rfl⟩ rfl rfl rfl rfl rfl rfl h ?_
    rintro _ mi9 ml10 ⟨y8, rfl, h⟩
    exact sg_iret f75_43 pq75 rfl rfl ⟨_, rfl, h⟩
  · have h := h.2 c
    refine sg_psh f75_12 (v := .int (-2)) (by decide) ?_
    exact sg_iret f75_14 pq75 rfl rfl ⟨_, rfl, h⟩

/-! X6_lots (II)I -/
theorem fe76 (pc : Nat) : gm_fetch 76 pc = gm_find pc cd_76 := rfl
theorem f76_0 : gm_fetch 76 0 = some (1, .iload_n 2, 0, 0, 0, 0) := (fe76 0).trans rfl
theorem f76_1 : gm_fetch 76 1 = some (4, .ifCond .lt 9, 0, 10, 0, 0) := (fe76 1).trans rfl
theorem f76_4 : gm_fetch 76 4 = some (5, .iload_n 2, 0, 0, 0, 0) := (fe76 4).trans rfl
theorem f76_5 : gm_fetch 76 5 = some (7, .bipush 16, 0, 0, 0, 0) := (fe76 5).trans rfl
theorem f76_7 : gm_fetch 76 7 = some (10, .if_icmp .le 6, 0, 13, 0, 0) := (fe76 7).trans rfl
theorem f76_10 : gm_fetch 76 10 = some (12, .bipush (-2), 0, 0, 0, 0) := (fe76 10).trans rfl
theorem f76_12 : gm_fetch 76 12 = some (13, .ireturn, 0, 0, 0, 0) := (fe76 12).trans rfl
theorem f76_13 : gm_fetch 76 13 = some (14, .iload_n 1, 0, 0, 0, 0) := (fe76 13).trans rfl
theorem f76_14 : gm_fetch 76 14 = some (15, .istore_n 3, 0, 0, 0, 0) := (fe76 14).trans rfl
theorem f76_15 : gm_fetch 76 15 = some (16, .iconst 0, 0, 0, 0, 0) := (fe76 15).trans rfl
theorem f76_16 : gm_fetch 76 16 = some (18, .istore 4, 0, 0, 0, 0) := (fe76 16).trans rfl
theorem f76_18 : gm_fetch 76 18 = some (20, .iload 4, 0, 0, 0, 0) := (fe76 18).trans rfl
theorem f76_20 : gm_fetch 76 20 = some (21, .aload_n 0, 0, 0, 0, 0) := (fe76 20).trans rfl
theorem f76_21 : gm_fetch 76 21 = some (24, .getfield 12, 76, 6, 0, 0) := (fe76 21).trans rfl
theorem f76_24 : gm_fetch 76 24 = some (27, .getfield 99, 4, 0, 0, 0) := (fe76 24).trans rfl
theorem f76_27 : gm_fetch 76 27 = some (30, .if_icmp .ge 73, 0, 100, 0, 0) := (fe76 27).trans rfl
theorem f76_30 : gm_fetch 76 30 = some (31, .iconst 0, 0, 0, 0, 0) := (fe76 30).trans rfl
theorem f76_31 : gm_fetch 76 31 = some (33, .istore 5, 0, 0, 0, 0) := (fe76 31).trans rfl
theorem f76_33 : gm_fetch 76 33 = some (34, .iconst 0, 0, 0, 0, 0) := (fe76 33).trans rfl
theorem f76_34 : gm_fetch 76 34 = some (36, .istore 6, 0, 0, 0, 0) := (fe76 34).trans rfl
theorem f76_36 : gm_fetch 76 36 = some (38, .iload 6, 0, 0, 0, 0) := (fe76 36).trans rfl
theorem f76_38 : gm_fetch 76 38 = some (39, .aload_n 0, 0, 0, 0, 0) := (fe76 38).trans rfl
theorem f76_39 : gm_fetch 76 39 = some (42, .getfield 12, 76, 6, 0, 0) := (fe76 39).trans rfl
theorem f76_42 : gm_fetch 76 42 = some (45, .getfield 62, 7, 0, 1, 0) := (fe76 42).trans rfl
theorem f76_45 : gm_fetch 76 45 = some (48, .if_icmp .ge 38, 0, 83, 0, 0) := (fe76 45).trans rfl
theorem f76_48 : gm_fetch 76 48 = some (50, .ldc 102, 3, 0, 0, 1103515245) := (fe76 48).trans rfl
theorem f76_50 : gm_fetch 76 50 = some (51, .iload_n 3, 0, 0, 0, 0) := (fe76 50).trans rfl
theorem f76_51 : gm_fetch 76 51 = some (52, .imul, 0, 0, 0, 0) := (fe76 51).trans rfl
theorem f76_52 : gm_fetch 76 52 = some (55, .sipush 12345, 0, 0, 0, 0) := (fe76 52).trans rfl
theorem f76_55 : gm_fetch 76 55 = some (56, .iadd, 0, 0, 0, 0) := (fe76 55).trans rfl
theorem f76_56 : gm_fetch 76 56 = some (57, .istore_n 3, 0, 0, 0, 0) := (fe76 56).trans rfl
theorem f76_57 : gm_fetch 76 57 = some (58, .iload_n 3, 0, 0, 0, 0) := (fe76 57).trans rfl
theorem f76_58 : gm_fetch 76 58 = some (60, .bipush 16, 0, 0, 0, 0) := (fe76 58).trans rfl
theorem f76_60 : gm_fetch 76 60 = some (61, .iushr, 0, 0, 0, 0) := (fe76 60).trans rfl
theorem f76_61 : gm_fetch 76 61 = some (63, .bipush 16, 0, 0, 0, 0) := (fe76 61).trans rfl
theorem f76_63 : gm_fetch 76 63 = some (64, .irem, 0, 0, 0, 0) := (fe76 63).trans rfl
theorem f76_64 : gm_fetch 76 64 = some (65, .iload_n 2, 0, 0, 0, 0) := (fe76 64).trans rfl
theorem f76_65 : gm_fetch 76 65 = some (68, .if_icmp .ge 12, 0, 77, 0, 0) := (fe76 65).trans rfl
theorem f76_68 : gm_fetch 76 68 = some (70, .iload 5, 0, 0, 0, 0) := (fe76 68).trans rfl
theorem f76_70 : gm_fetch 76 70 = some (71, .iconst 1, 0, 0, 0, 0) := (fe76 70).trans rfl
theorem f76_71 : gm_fetch 76 71 = some (73, .iload 6, 0, 0, 0, 0) := (fe76 71).trans rfl
theorem f76_73 : gm_fetch 76 73 = some (74, .ishl, 0, 0, 0, 0) := (fe76 73).trans rfl
theorem f76_74 : gm_fetch 76 74 = some (75, .ior, 0, 0, 0, 0) := (fe76 74).trans rfl
theorem f76_75 : gm_fetch 76 75 = some (77, .istore 5, 0, 0, 0, 0) := (fe76 75).trans rfl
theorem f76_77 : gm_fetch 76 77 = some (80, .iinc 6 1, 0, 0, 0, 0) := (fe76 77).trans rfl
theorem f76_80 : gm_fetch 76 80 = some (83, .goto (-44), 0, 36, 0, 0) := (fe76 80).trans rfl
theorem f76_83 : gm_fetch 76 83 = some (84, .aload_n 0, 0, 0, 0, 0) := (fe76 83).trans rfl
theorem f76_84 : gm_fetch 76 84 = some (87, .getfield 12, 76, 6, 0, 0) := (fe76 84).trans rfl
theorem f76_87 : gm_fetch 76 87 = some (89, .iload 4, 0, 0, 0, 0) := (fe76 87).trans rfl
theorem f76_89 : gm_fetch 76 89 = some (91, .iload 5, 0, 0, 0, 0) := (fe76 89).trans rfl
theorem f76_91 : gm_fetch 76 91 = some (94, .invokevirtual 93, 28, 5, 0, 0) := (fe76 91).trans rfl
theorem f76_94 : gm_fetch 76 94 = some (97, .iinc 4 1, 0, 0, 0, 0) := (fe76 94).trans rfl
theorem f76_97 : gm_fetch 76 97 = some (100, .goto (-79), 0, 18, 0, 0) := (fe76 97).trans rfl
theorem f76_100 : gm_fetch 76 100 = some (101, .aload_n 0, 0, 0, 0, 0) := (fe76 100).trans rfl
theorem f76_101 : gm_fetch 76 101 = some (104, .getfield 12, 76, 6, 0, 0) := (fe76 101).trans rfl
theorem f76_104 : gm_fetch 76 104 = some (107, .invokevirtual 96, 29, 11, 0, 0) := (fe76 104).trans rfl
theorem f76_107 : gm_fetch 76 107 = some (108, .ireturn, 0, 0, 0, 0) := (fe76 107).trans rfl
set_option maxRecDepth 10000 in
theorem rg76_0 {mi : Mi} {ml : Ml} {F : Int32 → Mi → Ml → Prop} {x1 : Int32} {x2 : Int32}  (h : ((x2 < 0) → F (-2) mi ml) ∧ (¬ (x2 < 0) → ((x2 ≤ 16) → Sg 76 18 [some (.ref 0), some (.int x1), some (.int x2), some (.int x1), some (.int 0), none, none] [] mi ml (qi F)) ∧ (¬ (x2 ≤ 16) → F (-2) mi ml))) : Sg 76 0 [some (.ref 0), some (.int x1), some (.int x2), none, none, none, none] [] mi ml (qi F) := by
  refine sg_ld f76_0 (v := .int x2) rfl rfl ?_
  refine sg_if f76_1 (fun c => ?_) (fun c => ?_)
  · have h := h.1 c
    refine sg_psh f76_10 (v := .int (-2)) (by decide) ?_
    exact sg_iret f76_12 pq76 rfl rfl ⟨_, rfl, h⟩
  · have h := h.2 c
    refine sg_ld f76_4 (v := .int x2) rfl rfl ?_
    refine sg_psh f76_5 (v := .int 16) (by decide) ?_
    refine sg_icmp f76_7 (fun c => ?_) (fun c => ?_)
    · have h := h.1 c
      refine sg_ld f76_13 (v := .int x1) rfl rfl ?_
      refine sg_st1 f76_14 (ls' := [some (.ref 0), some (.int x1), some (.int x2), some (.int x1), none, none, none]) rfl rfl rfl rfl ?_
      refine sg_psh f76_15 (v := .int 0) (by decide) ?_
      refine sg_st1 f76_16 (ls' := [some (.ref 0), some (.int x1), some (.int x2), some (.int x1), some (.int 0), none, none]) rfl rfl rfl rfl ?_
      exact h
    · have h := h.2 c
      refine sg_psh f76_10 (v := .int (-2)) (by decide) ?_
      exact sg_iret f76_12 pq76 rfl rfl ⟨_, rfl, h⟩

set_option maxRecDepth 10000 in
theorem rg76_18 {mi : Mi} {ml : Ml} {F : Int32 → Mi → Ml → Prop} {x1 : Int32} {x2 : Int32} {x3 : Int32} {x4 : Int32}  (h : (((mi 1 0) ≤ x4) → Sg 11 0 [some (.ref 1), none, none] [] mi ml (qi fun y1 mi2 ml3 => F y1 mi2 ml3)) ∧ (¬ ((mi 1 0) ≤ x4) → Sg 76 36 [some (.ref 0), some (.int x1), some (.int x2), some (.int x3), some (.int x4), some (.int 0), some (.int 0)] [] mi ml (qi F))) : Sg 76 18 [some (.ref 0), some (.int x1), some (.int x2), some (.int x3), some (.int x4), none, none] [] mi ml (qi F) := by
  refine sg_ld f76_18 (v := .int x4) rfl rfl ?_
  refine sg_ld f76_20 (v := .ref 0) rfl rfl ?_
  refine sg_getr f76_21 rfl rfl (w := 1) rfl ?_
  refine sg_geti f76_24 rfl rfl (x := (mi 1 0)) rfl ?_
  refine sg_icmp f76_27 (fun c => ?_) (fun c => ?_)
  · have h := h.1 c
    refine sg_ld f76_100 (v := .ref 0) rfl rfl ?_
    refine sg_getr f76_101 rfl rfl (w := 1) rfl ?_
    refine sg_cV f76_104 (vs := []) (r := 1) (rest := []) (en := [some (.ref 1), none, none]) pq11 ⟨rfl, rfl⟩ rfl rfl rfl rfl rfl rfl h ?_
    rintro _ mi2 ml3 ⟨y1, rfl, h⟩
    exact sg_iret f76_107 pq76 rfl rfl ⟨_, rfl, h⟩
  · have h := h.2 c
    refine sg_psh f76_30 (v := .int 0) (by decide) ?_
    refine sg_st1 f76_31 (ls' := [some (.ref 0), some (.int x1), some (.int x2), some (.int x3), some (.int x4), some (.int 0), none]) rfl rfl rfl rfl ?_
    refine sg_psh f76_33 (v := .int 0) (by decide) ?_
    refine sg_st1 f76_34 (ls' := [some (.ref 0), some (.int x1), some (.int x2), some (.int x3), some (.int x4), some (.int 0), some (.int 0)]) rfl rfl rfl rfl ?_
    exact h

set_option maxRecDepth 10000 in
theorem rg76_36 {mi : Mi} {ml : Ml} {F : Int32 → Mi → Ml → Prop} {x1 : Int32} {x2 : Int32} {x3 : Int32} {x4 : Int32} {x5 : Int32} {x6 : Int32}  (h : (((mi 1 1) ≤ x6) → Sg 5 0 [some (.ref 1), some (.int x4), some (.int x5)] [] mi ml (qv fun mi2 ml3 => Sg 76 18 [some (.ref 0), some (.int x1), some (.int x2), some (.int x3), some (.int (x4 + 1)), none, none] [] mi2 ml3 (qi F))) ∧ (¬ ((mi 1 1) ≤ x6) → ((x2 ≤ ((ushr ((1103515245 * x3) + 12345) 16) - (ushr ((1103515245 * x3) + 12345) 16) / 16 * 16)) → Sg 76 36 [some (.ref 0), some (.int x1), some (.int x2), some (.int ((1103515245 * x3) + 12345)), some (.int x4), some (.int x5), some (.int (x6 + 1))] [] mi ml (qi F)) ∧ (¬ (x2 ≤ ((ushr ((1103515245 * x3) + 12345) 16) - (ushr ((1103515245 * x3) + 12345) 16) / 16 * 16)) → Sg 76 36 [some (.ref 0), some (.int x1), some (.int x2), some (.int ((1103515245 * x3) + 12345)), some (.int x4), some (.int (x5 ||| (1 <<< (x6 &&& 31)))), some (.int (x6 + 1))] [] mi ml (qi F)))) : Sg 76 36 [some (.ref 0), some (.int x1), some (.int x2), some (.int x3), some (.int x4), some (.int x5), some (.int x6)] [] mi ml (qi F) := by
  refine sg_ld f76_36 (v := .int x6) rfl rfl ?_
  refine sg_ld f76_38 (v := .ref 0) rfl rfl ?_
  refine sg_getr f76_39 rfl rfl (w := 1) rfl ?_
  refine sg_geti f76_42 rfl rfl (x := (mi 1 1)) rfl ?_
  refine sg_icmp f76_45 (fun c => ?_) (fun c => ?_)
  · have h := h.1 c
    refine sg_ld f76_83 (v := .ref 0) rfl rfl ?_
    refine sg_getr f76_84 rfl rfl (w := 1) rfl ?_
    refine sg_ld f76_87 (v := .int x4) rfl rfl ?_
    refine sg_ld f76_89 (v := .int x5) rfl rfl ?_
    refine sg_cV f76_91 (vs := [.int x4, .int x5]) (r := 1) (rest := []) (en := [some (.ref 1), some (.int x4), some (.int x5)]) pq5 ⟨rfl, rfl⟩ rfl rfl rfl rfl rfl rfl h ?_
    intro _ mi2 ml3 h
    have h := gm_qv h
    refine sg_inc f76_94 (d := 1) (ls' := [some (.ref 0), some (.int x1), some (.int x2), some (.int x3), some (.int (x4 + 1)), some (.int x5), some (.int x6)]) rfl (by decide) rfl ?_
    refine sg_goto f76_97 ?_
    exact sg_drop [5, 6] rfl h
  · have h := h.2 c
    refine sg_psh f76_48 (v := .int 1103515245) (by decide) ?_
    refine sg_ld f76_50 (v := .int x3) rfl rfl ?_
    refine sg_bin f76_51 rfl ?_
    refine sg_psh f76_52 (v := .int 12345) (by decide) ?_
    refine sg_bin f76_55 rfl ?_
    refine sg_st1 f76_56 (ls' := [some (.ref 0), some (.int x1), some (.int x2), some (.int ((1103515245 * x3) + 12345)), some (.int x4), some (.int x5), some (.int x6)]) rfl rfl rfl rfl ?_
    refine sg_ld f76_57 (v := .int ((1103515245 * x3) + 12345)) rfl rfl ?_
    refine sg_psh f76_58 (v := .int 16) (by decide) ?_
    refine sg_bin f76_60 rfl ?_
    refine sg_psh f76_61 (v := .int 16) (by decide) ?_
    refine sg_rem f76_63 (by decide) ?_
    refine sg_ld f76_64 (v := .int x2) rfl rfl ?_
    refine sg_icmp f76_65 (fun c => ?_) (fun c => ?_)
    · have h := h.1 c
      refine sg_inc f76_77 (d := 1) (ls' := [some (.ref 0), some (.int x1), some (.int x2), some (.int ((1103515245 * x3) + 12345)), some (.int x4), some (.int x5), some (.int (x6 + 1))]) rfl (by decide) rfl ?_
      refine sg_goto f76_80 ?_
      exact h
    · have h := h.2 c
      refine sg_ld f76_68 (v := .int x5) rfl rfl ?_
      refine sg_psh f76_70 (v := .int 1) (by decide) ?_
      refine sg_ld f76_71 (v := .int x6) rfl rfl ?_
      refine sg_bin f76_73 rfl ?_
      refine sg_bin f76_74 rfl ?_
      refine sg_st1 f76_75 (ls' := [some (.ref 0), some (.int x1), some (.int x2), some (.int ((1103515245 * x3) + 12345)), some (.int x4), some (.int (x5 ||| (1 <<< (x6 &&& 31)))), some (.int x6)]) rfl rfl rfl rfl ?_
      refine sg_inc f76_77 (d := 1) (ls' := [some (.ref 0), some (.int x1), some (.int x2), some (.int ((1103515245 * x3) + 12345)), some (.int x4), some (.int (x5 ||| (1 <<< (x6 &&& 31)))), some (.int (x6 + 1))]) rfl (by decide) rfl ?_
      refine sg_goto f76_80 ?_
      exact h

/-! X6_read (II)I -/
theorem fe77 (pc : Nat) : gm_fetch 77 pc = gm_find pc cd_77 := rfl
theorem f77_0 : gm_fetch 77 0 = some (1, .aload_n 0, 0, 0, 0, 0) := (fe77 0).trans rfl
theorem f77_1 : gm_fetch 77 1 = some (2, .iload_n 2, 0, 0, 0, 0) := (fe77 1).trans rfl
theorem f77_2 : gm_fetch 77 2 = some (5, .invokevirtual 103, 33, 106, 0, 0) := (fe77 2).trans rfl
theorem f77_5 : gm_fetch 77 5 = some (6, .astore_n 3, 0, 0, 0, 0) := (fe77 5).trans rfl
theorem f77_6 : gm_fetch 77 6 = some (7, .aload_n 0, 0, 0, 0, 0) := (fe77 6).trans rfl
theorem f77_7 : gm_fetch 77 7 = some (10, .getfield 12, 76, 6, 0, 0) := (fe77 7).trans rfl
theorem f77_10 : gm_fetch 77 10 = some (11, .iload_n 1, 0, 0, 0, 0) := (fe77 10).trans rfl
theorem f77_11 : gm_fetch 77 11 = some (14, .invokevirtual 107, 34, 6, 0, 0) := (fe77 11).trans rfl
theorem f77_14 : gm_fetch 77 14 = some (17, .ifCond .eq 7, 0, 21, 0, 0) := (fe77 14).trans rfl
theorem f77_17 : gm_fetch 77 17 = some (18, .aload_n 3, 0, 0, 0, 0) := (fe77 17).trans rfl
theorem f77_18 : gm_fetch 77 18 = some (21, .ifnonnull 6, 0, 24, 0, 0) := (fe77 18).trans rfl
theorem f77_21 : gm_fetch 77 21 = some (23, .bipush (-2), 0, 0, 0, 0) := (fe77 21).trans rfl
theorem f77_23 : gm_fetch 77 23 = some (24, .ireturn, 0, 0, 0, 0) := (fe77 23).trans rfl
theorem f77_24 : gm_fetch 77 24 = some (25, .aload_n 3, 0, 0, 0, 0) := (fe77 24).trans rfl
theorem f77_25 : gm_fetch 77 25 = some (28, .getfield 111, 69, 5, 0, 0) := (fe77 25).trans rfl
theorem f77_28 : gm_fetch 77 28 = some (31, .ifCond .eq 9, 0, 37, 0, 0) := (fe77 28).trans rfl
theorem f77_31 : gm_fetch 77 31 = some (32, .aload_n 0, 0, 0, 0, 0) := (fe77 31).trans rfl
theorem f77_32 : gm_fetch 77 32 = some (33, .iconst 1, 0, 0, 0, 0) := (fe77 32).trans rfl
theorem f77_33 : gm_fetch 77 33 = some (36, .invokevirtual 114, 35, 104, 0, 0) := (fe77 33).trans rfl
theorem f77_36 : gm_fetch 77 36 = some (37, .ireturn, 0, 0, 0, 0) := (fe77 36).trans rfl
theorem f77_37 : gm_fetch 77 37 = some (38, .aload_n 3, 0, 0, 0, 0) := (fe77 37).trans rfl
theorem f77_38 : gm_fetch 77 38 = some (41, .getfield 118, 73, 5, 2, 0) := (fe77 38).trans rfl
theorem f77_41 : gm_fetch 77 41 = some (42, .aload_n 0, 0, 0, 0, 0) := (fe77 41).trans rfl
theorem f77_42 : gm_fetch 77 42 = some (45, .getfield 12, 76, 6, 0, 0) := (fe77 42).trans rfl
theorem f77_45 : gm_fetch 77 45 = some (48, .getfield 62, 7, 0, 1, 0) := (fe77 45).trans rfl
theorem f77_48 : gm_fetch 77 48 = some (51, .invokestatic 121, 36, 197, 4, 0) := (fe77 48).trans rfl
theorem f77_51 : gm_fetch 77 51 = some (53, .istore 4, 0, 0, 0, 0) := (fe77 51).trans rfl
theorem f77_53 : gm_fetch 77 53 = some (54, .aload_n 0, 0, 0, 0, 0) := (fe77 53).trans rfl
theorem f77_54 : gm_fetch 77 54 = some (57, .getfield 12, 76, 6, 0, 0) := (fe77 54).trans rfl
theorem f77_57 : gm_fetch 77 57 = some (60, .getfield 89, 27, 0, 6, 0) := (fe77 57).trans rfl
theorem f77_60 : gm_fetch 77 60 = some (61, .iload_n 1, 0, 0, 0, 0) := (fe77 60).trans rfl
theorem f77_61 : gm_fetch 77 61 = some (62, .iaload, 0, 0, 0, 0) := (fe77 61).trans rfl
theorem f77_62 : gm_fetch 77 62 = some (64, .istore 5, 0, 0, 0, 0) := (fe77 62).trans rfl
theorem f77_64 : gm_fetch 77 64 = some (65, .iconst 0, 0, 0, 0, 0) := (fe77 64).trans rfl
theorem f77_65 : gm_fetch 77 65 = some (67, .istore 6, 0, 0, 0, 0) := (fe77 65).trans rfl
theorem f77_67 : gm_fetch 77 67 = some (69, .iload 6, 0, 0, 0, 0) := (fe77 67).trans rfl
theorem f77_69 : gm_fetch 77 69 = some (71, .iload 4, 0, 0, 0, 0) := (fe77 69).trans rfl
theorem f77_71 : gm_fetch 77 71 = some (74, .if_icmp .ge 40, 0, 111, 0, 0) := (fe77 71).trans rfl
theorem f77_74 : gm_fetch 77 74 = some (75, .aload_n 3, 0, 0, 0, 0) := (fe77 74).trans rfl
theorem f77_75 : gm_fetch 77 75 = some (78, .getfield 127, 75, 5, 3, 0) := (fe77 75).trans rfl
theorem f77_78 : gm_fetch 77 78 = some (80, .iload 6, 0, 0, 0, 0) := (fe77 78).trans rfl
theorem f77_80 : gm_fetch 77 80 = some (81, .iaload, 0, 0, 0, 0) := (fe77 80).trans rfl
theorem f77_81 : gm_fetch 77 81 = some (84, .ifCond .eq 13, 0, 94, 0, 0) := (fe77 81).trans rfl
theorem f77_84 : gm_fetch 77 84 = some (86, .iload 5, 0, 0, 0, 0) := (fe77 84).trans rfl
theorem f77_86 : gm_fetch 77 86 = some (87, .iconst 1, 0, 0, 0, 0) := (fe77 86).trans rfl
theorem f77_87 : gm_fetch 77 87 = some (89, .iload 6, 0, 0, 0, 0) := (fe77 87).trans rfl
theorem f77_89 : gm_fetch 77 89 = some (90, .ishl, 0, 0, 0, 0) := (fe77 89).trans rfl
theorem f77_90 : gm_fetch 77 90 = some (91, .ior, 0, 0, 0, 0) := (fe77 90).trans rfl
theorem f77_91 : gm_fetch 77 91 = some (94, .goto 12, 0, 103, 0, 0) := (fe77 91).trans rfl
theorem f77_94 : gm_fetch 77 94 = some (96, .iload 5, 0, 0, 0, 0) := (fe77 94).trans rfl
theorem f77_96 : gm_fetch 77 96 = some (97, .iconst 1, 0, 0, 0, 0) := (fe77 96).trans rfl
theorem f77_97 : gm_fetch 77 97 = some (99, .iload 6, 0, 0, 0, 0) := (fe77 97).trans rfl
theorem f77_99 : gm_fetch 77 99 = some (100, .ishl, 0, 0, 0, 0) := (fe77 99).trans rfl
theorem f77_100 : gm_fetch 77 100 = some (101, .iconst (-1), 0, 0, 0, 0) := (fe77 100).trans rfl
theorem f77_101 : gm_fetch 77 101 = some (102, .ixor, 0, 0, 0, 0) := (fe77 101).trans rfl
theorem f77_102 : gm_fetch 77 102 = some (103, .iand, 0, 0, 0, 0) := (fe77 102).trans rfl
theorem f77_103 : gm_fetch 77 103 = some (105, .istore 5, 0, 0, 0, 0) := (fe77 103).trans rfl
theorem f77_105 : gm_fetch 77 105 = some (108, .iinc 6 1, 0, 0, 0, 0) := (fe77 105).trans rfl
theorem f77_108 : gm_fetch 77 108 = some (111, .goto (-41), 0, 67, 0, 0) := (fe77 108).trans rfl
theorem f77_111 : gm_fetch 77 111 = some (112, .aload_n 0, 0, 0, 0, 0) := (fe77 111).trans rfl
theorem f77_112 : gm_fetch 77 112 = some (115, .getfield 12, 76, 6, 0, 0) := (fe77 112).trans rfl
theorem f77_115 : gm_fetch 77 115 = some (116, .iload_n 1, 0, 0, 0, 0) := (fe77 115).trans rfl
theorem f77_116 : gm_fetch 77 116 = some (118, .iload 5, 0, 0, 0, 0) := (fe77 116).trans rfl
theorem f77_118 : gm_fetch 77 118 = some (121, .invokevirtual 93, 28, 5, 0, 0) := (fe77 118).trans rfl
theorem f77_121 : gm_fetch 77 121 = some (123, .iload 4, 0, 0, 0, 0) := (fe77 121).trans rfl
theorem f77_123 : gm_fetch 77 123 = some (124, .ireturn, 0, 0, 0, 0) := (fe77 123).trans rfl
set_option maxRecDepth 10000 in
theorem rg77_0 {mi : Mi} {ml : Ml} {F : Int32 → Mi → Ml → Prop} {x1 : Int32} {x2 : Int32}  (h : Sg 106 0 [some (.ref 0), some (.int x2)] [] mi ml (qr fun y1 mi2 ml3 => Sg 6 0 [some (.ref 1), some (.int x1)] [] mi2 ml3 (qi fun y4 mi5 ml6 => ((y4 = 0) → F (-2) mi5 ml6) ∧ (¬ (y4 = 0) → ((y1 = none) → F (-2) mi5 ml6) ∧ (∀ r7 : Nat, y1 = some r7 → isS r7 ∧ ((((mi5 r7 0) = 0) → (vp_in x1 7) ∧ (Sg 77 67 [some (.ref 0), some (.int x1), some (.int x2), some (.ref r7), some (.int (if (mi5 1 1) < (mi5 r7 2) then (mi5 1 1) else (mi5 r7 2))), some (.int (mi5 2 (Int32.toNatClampNeg x1))), some (.int 0)] [] mi5 ml6 (qi F))) ∧ (¬ ((mi5 r7 0) = 0) → Sg 104 0 [some (.ref 0), some (.int 1)] [] mi5 ml6 (qi fun y9 mi10 ml11 => F y9 mi10 ml11)))))))) : Sg 77 0 [some (.ref 0), some (.int x1), some (.int x2), none, none, none, none] [] mi ml (qi F) := by
  refine sg_ld f77_0 (v := .ref 0) rfl rfl ?_
  refine sg_ld f77_1 (v := .int x2) rfl rfl ?_
  refine sg_cV f77_2 (vs := [.int x2]) (r := 0) (rest := []) (en := [some (.ref 0), some (.int x2)]) pq106 ⟨rfl, rfl⟩ rfl rfl rfl rfl rfl rfl h ?_
  rintro _ mi2 ml3 ⟨y1, rfl, h⟩
  refine sg_sto f77_5 (ls' := [some (.ref 0), some (.int x1), some (.int x2), some (gm_ov y1), none, none, none]) rfl rfl rfl ?_
  refine sg_ld f77_6 (v := .ref 0) rfl rfl ?_
  refine sg_getr f77_7 rfl rfl (w := 1) rfl ?_
  refine sg_ld f77_10 (v := .int x1) rfl rfl ?_
  refine sg_cV f77_11 (vs := [.int x1]) (r := 1) (rest := []) (en := [some (.ref 1), some (.int x1)]) pq6 ⟨rfl, rfl⟩ rfl rfl rfl rfl rfl rfl h ?_
  rintro _ mi5 ml6 ⟨y4, rfl, h⟩
  refine sg_if f77_14 (fun c => ?_) (fun c => ?_)
  · have h := h.1 c
    refine sg_psh f77_21 (v := .int (-2)) (by decide) ?_
    exact sg_iret f77_23 pq77 rfl rfl ⟨_, rfl, h⟩
  · have h := h.2 c
    refine sg_ldo f77_17 rfl rfl ?_
    cases y1 with
    | none =>
      have h := h.1 rfl
      refine sg_ifnnN f77_18 ?_
      refine sg_psh f77_21 (v := .int (-2)) (by decide) ?_
      exact sg_iret f77_23 pq77 rfl rfl ⟨_, rfl, h⟩
    | some r7 =>
      obtain ⟨hr7, h⟩ := h.2 r7 rfl
      refine sg_ifnn f77_18 ?_
      refine sg_ld f77_24 (v := .ref r7) rfl rfl ?_
      refine sg_geti f77_25 hr7.1 rfl (x := (mi5 r7 0)) rfl ?_
      refine sg_if f77_28 (fun c => ?_) (fun c => ?_)
      · have h := h.1 c
        refine sg_ld f77_37 (v := .ref r7) rfl rfl ?_
        refine sg_geti f77_38 hr7.1 rfl (x := (mi5 r7 2)) rfl ?_
        refine sg_ld f77_41 (v := .ref 0) rfl rfl ?_
        refine sg_getr f77_42 rfl rfl (w := 1) rfl ?_
        refine sg_geti f77_45 rfl rfl (x := (mi5 1 1)) rfl ?_
        refine sg_mmin f77_48 rfl ?_
        refine sg_st1 f77_51 (ls' := [some (.ref 0), some (.int x1), some (.int x2), some (.ref r7), some (.int (if (mi5 1 1) < (mi5 r7 2) then (mi5 1 1) else (mi5 r7 2))), none, none]) rfl rfl rfl rfl ?_
        refine sg_ld f77_53 (v := .ref 0) rfl rfl ?_
        refine sg_getr f77_54 rfl rfl (w := 1) rfl ?_
        refine sg_getr f77_57 rfl rfl (w := 2) rfl ?_
        refine sg_ld f77_60 (v := .int x1) rfl rfl ?_
        obtain ⟨e8, h⟩ := h
        refine sg_iald f77_61 rfl e8 (x := (mi5 2 (Int32.toNatClampNeg x1))) rfl ?_
        refine sg_st1 f77_62 (ls' := [some (.ref 0), some (.int x1), some (.int x2), some (.ref r7), some (.int (if (mi5 1 1) < (mi5 r7 2) then (mi5 1 1) else (mi5 r7 2))), some (.int (mi5 2 (Int32.toNatClampNeg x1))), none]) rfl rfl rfl rfl ?_
        refine sg_psh f77_64 (v := .int 0) (by decide) ?_
        refine sg_st1 f77_65 (ls' := [some (.ref 0), some (.int x1), some (.int x2), some (.ref r7), some (.int (if (mi5 1 1) < (mi5 r7 2) then (mi5 1 1) else (mi5 r7 2))), some (.int (mi5 2 (Int32.toNatClampNeg x1))), some (.int 0)]) rfl rfl rfl rfl ?_
        exact h
      · have h := h.2 c
        refine sg_ld f77_31 (v := .ref 0) rfl rfl ?_
        refine sg_psh f77_32 (v := .int 1) (by decide) ?_
        refine sg_cV f77_33 (vs := [.int 1]) (r := 0) (rest := []) (en := [some (.ref 0), some (.int 1)]) pq104 ⟨rfl, rfl⟩ rfl rfl rfl rfl rfl rfl h ?_
        rintro _ mi10 ml11 ⟨y9, rfl, h⟩
        exact sg_iret f77_36 pq77 rfl rfl ⟨_, rfl, h⟩

set_option maxRecDepth 10000 in
theorem rg77_67 {mi : Mi} {ml : Ml} {F : Int32 → Mi → Ml → Prop} {x1 : Int32} {x2 : Int32} {rx3 : Nat} {x4 : Int32} {x5 : Int32} {x6 : Int32} (hrx3 : isS rx3) (h : ((x4 ≤ x6) → Sg 5 0 [some (.ref 1), some (.int x1), some (.int x5)] [] mi ml (qv fun mi2 ml3 => F x4 mi2 ml3)) ∧ (¬ (x4 ≤ x6) → (vp_in x6 60) ∧ ((((mi (rx3 + 1) (Int32.toNatClampNeg x6)) = 0) → Sg 77 67 [some (.ref 0), some (.int x1), some (.int x2), some (.ref rx3), some (.int x4), some (.int (x5 &&& ((1 <<< (x6 &&& 31)) ^^^ (-1)))), some (.int (x6 + 1))] [] mi ml (qi F)) ∧ (¬ ((mi (rx3 + 1) (Int32.toNatClampNeg x6)) = 0) → Sg 77 67 [some (.ref 0), some (.int x1), some (.int x2), some (.ref rx3), some (.int x4), some (.int (x5 ||| (1 <<< (x6 &&& 31)))), some (.int (x6 + 1))] [] mi ml (qi F))))) : Sg 77 67 [some (.ref 0), some (.int x1), some (.int x2), some (.ref rx3), some (.int x4), some (.int x5), some (.int x6)] [] mi ml (qi F) := by
  refine sg_ld f77_67 (v := .int x6) rfl rfl ?_
  refine sg_ld f77_69 (v := .int x4) rfl rfl ?_
  refine sg_icmp f77_71 (fun c => ?_) (fun c => ?_)
  · have h := h.1 c
    refine sg_ld f77_111 (v := .ref 0) rfl rfl ?_
    refine sg_getr f77_112 rfl rfl (w := 1) rfl ?_
    refine sg_ld f77_115 (v := .int x1) rfl rfl ?_
    refine sg_ld f77_116 (v := .int x5) rfl rfl ?_
    refine sg_cV f77_118 (vs := [.int x1, .int x5]) (r := 1) (rest := []) (en := [some (.ref 1), some (.int x1), some (.int x5)]) pq5 ⟨rfl, rfl⟩ rfl rfl rfl rfl rfl rfl h ?_
    intro _ mi2 ml3 h
    have h := gm_qv h
    refine sg_ld f77_121 (v := .int x4) rfl rfl ?_
    exact sg_iret f77_123 pq77 rfl rfl ⟨_, rfl, h⟩
  · have h := h.2 c
    refine sg_ld f77_74 (v := .ref rx3) rfl rfl ?_
    refine sg_getr f77_75 hrx3.1 rfl (w := rx3 + 1) hrx3.2.1 ?_
    refine sg_ld f77_78 (v := .int x6) rfl rfl ?_
    obtain ⟨e4, h⟩ := h
    refine sg_iald f77_80 hrx3.2.2 e4 (x := (mi (rx3 + 1) (Int32.toNatClampNeg x6))) rfl ?_
    refine sg_if f77_81 (fun c => ?_) (fun c => ?_)
    · have h := h.1 c
      refine sg_ld f77_94 (v := .int x5) rfl rfl ?_
      refine sg_psh f77_96 (v := .int 1) (by decide) ?_
      refine sg_ld f77_97 (v := .int x6) rfl rfl ?_
      refine sg_bin f77_99 rfl ?_
      refine sg_psh f77_100 (v := .int (-1)) (by decide) ?_
      refine sg_bin f77_101 rfl ?_
      refine sg_bin f77_102 rfl ?_
      refine sg_st1 f77_103 (ls' := [some (.ref 0), some (.int x1), some (.int x2), some (.ref rx3), some (.int x4), some (.int (x5 &&& ((1 <<< (x6 &&& 31)) ^^^ (-1)))), some (.int x6)]) rfl rfl rfl rfl ?_
      refine sg_inc f77_105 (d := 1) (ls' := [some (.ref 0), some (.int x1), some (.int x2), some (.ref rx3), some (.int x4), some (.int (x5 &&& ((1 <<< (x6 &&& 31)) ^^^ (-1)))), some (.int (x6 + 1))]) rfl (by decide) rfl ?_
      refine sg_goto f77_108 ?_
      exact h
    · have h := h.2 c
      refine sg_ld f77_84 (v := .int x5) rfl rfl ?_
      refine sg_psh f77_86 (v := .int 1) (by decide) ?_
      refine sg_ld f77_87 (v := .int x6) rfl rfl ?_
      refine sg_bin f77_89 rfl ?_
      refine sg_bin f77_90 rfl ?_
      refine sg_goto f77_91 ?_
      refine sg_st1 f77_103 (ls' := [some (.ref 0), some (.int x1), some (.int x2), some (.ref rx3), some (.int x4), some (.int (x5 ||| (1 <<< (x6 &&& 31)))), some (.int x6)]) rfl rfl rfl rfl ?_
      refine sg_inc f77_105 (d := 1) (ls' := [some (.ref 0), some (.int x1), some (.int x2), some (.ref rx3), some (.int x4), some (.int (x5 ||| (1 <<< (x6 &&& 31)))), some (.int (x6 + 1))]) rfl (by decide) rfl ?_
      refine sg_goto f77_108 ?_
      exact h

/-! X6_cell (III)I -/
theorem fe78 (pc : Nat) : gm_fetch 78 pc = gm_find pc cd_78 := rfl
theorem f78_0 : gm_fetch 78 0 = some (1, .aload_n 0, 0, 0, 0, 0) := (fe78 0).trans rfl
theorem f78_1 : gm_fetch 78 1 = some (4, .getfield 12, 76, 6, 0, 0) := (fe78 1).trans rfl
theorem f78_4 : gm_fetch 78 4 = some (5, .iload_n 1, 0, 0, 0, 0) := (fe78 4).trans rfl
theorem f78_5 : gm_fetch 78 5 = some (6, .iload_n 2, 0, 0, 0, 0) := (fe78 5).trans rfl
theorem f78_6 : gm_fetch 78 6 = some (9, .invokevirtual 85, 26, 7, 0, 0) := (fe78 6).trans rfl
theorem f78_9 : gm_fetch 78 9 = some (12, .ifCond .ne 6, 0, 15, 0, 0) := (fe78 9).trans rfl
theorem f78_12 : gm_fetch 78 12 = some (14, .bipush (-2), 0, 0, 0, 0) := (fe78 12).trans rfl
theorem f78_14 : gm_fetch 78 14 = some (15, .ireturn, 0, 0, 0, 0) := (fe78 14).trans rfl
theorem f78_15 : gm_fetch 78 15 = some (16, .iload_n 3, 0, 0, 0, 0) := (fe78 15).trans rfl
theorem f78_16 : gm_fetch 78 16 = some (52, .tableswitch 125 0 4 #[36, 50, 78, 91, 104], 0, 0, 0, 0) := (fe78 16).trans rfl
theorem f78_52 : gm_fetch 78 52 = some (53, .aload_n 0, 0, 0, 0, 0) := (fe78 52).trans rfl
theorem f78_53 : gm_fetch 78 53 = some (56, .getfield 12, 76, 6, 0, 0) := (fe78 53).trans rfl
theorem f78_56 : gm_fetch 78 56 = some (59, .getfield 89, 27, 0, 6, 0) := (fe78 56).trans rfl
theorem f78_59 : gm_fetch 78 59 = some (60, .iload_n 2, 0, 0, 0, 0) := (fe78 59).trans rfl
theorem f78_60 : gm_fetch 78 60 = some (61, .iaload, 0, 0, 0, 0) := (fe78 60).trans rfl
theorem f78_61 : gm_fetch 78 61 = some (62, .iload_n 1, 0, 0, 0, 0) := (fe78 61).trans rfl
theorem f78_62 : gm_fetch 78 62 = some (65, .invokestatic 130, 38, 109, 0, 0) := (fe78 62).trans rfl
theorem f78_65 : gm_fetch 78 65 = some (66, .ireturn, 0, 0, 0, 0) := (fe78 65).trans rfl
theorem f78_66 : gm_fetch 78 66 = some (67, .aload_n 0, 0, 0, 0, 0) := (fe78 66).trans rfl
theorem f78_67 : gm_fetch 78 67 = some (70, .getfield 35, 79, 6, 3, 0) := (fe78 67).trans rfl
theorem f78_70 : gm_fetch 78 70 = some (73, .getfield 54, 61, 2, 0, 0) := (fe78 70).trans rfl
theorem f78_73 : gm_fetch 78 73 = some (76, .ifCond .eq 19, 0, 92, 0, 0) := (fe78 73).trans rfl
theorem f78_76 : gm_fetch 78 76 = some (77, .aload_n 0, 0, 0, 0, 0) := (fe78 76).trans rfl
theorem f78_77 : gm_fetch 78 77 = some (80, .getfield 35, 79, 6, 3, 0) := (fe78 77).trans rfl
theorem f78_80 : gm_fetch 78 80 = some (83, .getfield 133, 66, 2, 4, 0) := (fe78 80).trans rfl
theorem f78_83 : gm_fetch 78 83 = some (84, .iload_n 2, 0, 0, 0, 0) := (fe78 83).trans rfl
theorem f78_84 : gm_fetch 78 84 = some (85, .iaload, 0, 0, 0, 0) := (fe78 84).trans rfl
theorem f78_85 : gm_fetch 78 85 = some (86, .iload_n 1, 0, 0, 0, 0) := (fe78 85).trans rfl
theorem f78_86 : gm_fetch 78 86 = some (89, .invokestatic 136, 39, 111, 0, 0) := (fe78 86).trans rfl
theorem f78_89 : gm_fetch 78 89 = some (92, .goto 4, 0, 93, 0, 0) := (fe78 89).trans rfl
theorem f78_92 : gm_fetch 78 92 = some (93, .iconst (-1), 0, 0, 0, 0) := (fe78 92).trans rfl
theorem f78_93 : gm_fetch 78 93 = some (94, .ireturn, 0, 0, 0, 0) := (fe78 93).trans rfl
theorem f78_94 : gm_fetch 78 94 = some (95, .aload_n 0, 0, 0, 0, 0) := (fe78 94).trans rfl
theorem f78_95 : gm_fetch 78 95 = some (98, .getfield 21, 77, 6, 1, 0) := (fe78 95).trans rfl
theorem f78_98 : gm_fetch 78 98 = some (99, .iload_n 2, 0, 0, 0, 0) := (fe78 98).trans rfl
theorem f78_99 : gm_fetch 78 99 = some (102, .invokevirtual 139, 41, 42, 0, 0) := (fe78 99).trans rfl
theorem f78_102 : gm_fetch 78 102 = some (103, .iload_n 1, 0, 0, 0, 0) := (fe78 102).trans rfl
theorem f78_103 : gm_fetch 78 103 = some (106, .invokestatic 130, 38, 109, 0, 0) := (fe78 103).trans rfl
theorem f78_106 : gm_fetch 78 106 = some (107, .ireturn, 0, 0, 0, 0) := (fe78 106).trans rfl
theorem f78_107 : gm_fetch 78 107 = some (108, .aload_n 0, 0, 0, 0, 0) := (fe78 107).trans rfl
theorem f78_108 : gm_fetch 78 108 = some (111, .getfield 21, 77, 6, 1, 0) := (fe78 108).trans rfl
theorem f78_111 : gm_fetch 78 111 = some (112, .iload_n 2, 0, 0, 0, 0) := (fe78 111).trans rfl
theorem f78_112 : gm_fetch 78 112 = some (115, .invokevirtual 142, 60, 41, 0, 0) := (fe78 112).trans rfl
theorem f78_115 : gm_fetch 78 115 = some (116, .iload_n 1, 0, 0, 0, 0) := (fe78 115).trans rfl
theorem f78_116 : gm_fetch 78 116 = some (119, .invokestatic 130, 38, 109, 0, 0) := (fe78 116).trans rfl
theorem f78_119 : gm_fetch 78 119 = some (120, .ireturn, 0, 0, 0, 0) := (fe78 119).trans rfl
theorem f78_120 : gm_fetch 78 120 = some (121, .aload_n 0, 0, 0, 0, 0) := (fe78 120).trans rfl
theorem f78_121 : gm_fetch 78 121 = some (124, .getfield 28, 78, 6, 2, 0) := (fe78 121).trans rfl
theorem f78_124 : gm_fetch 78 124 = some (127, .invokevirtual 145, 61, 14, 0, 0) := (fe78 124).trans rfl
theorem f78_127 : gm_fetch 78 127 = some (128, .aload_n 0, 0, 0, 0, 0) := (fe78 127).trans rfl
theorem f78_128 : gm_fetch 78 128 = some (131, .getfield 12, 76, 6, 0, 0) := (fe78 128).trans rfl
theorem f78_131 : gm_fetch 78 131 = some (132, .iload_n 1, 0, 0, 0, 0) := (fe78 131).trans rfl
theorem f78_132 : gm_fetch 78 132 = some (133, .iload_n 2, 0, 0, 0, 0) := (fe78 132).trans rfl
theorem f78_133 : gm_fetch 78 133 = some (136, .invokevirtual 149, 75, 9, 0, 0) := (fe78 133).trans rfl
theorem f78_136 : gm_fetch 78 136 = some (137, .lushr, 0, 0, 0, 0) := (fe78 136).trans rfl
theorem f78_137 : gm_fetch 78 137 = some (138, .l2i, 0, 0, 0, 0) := (fe78 137).trans rfl
theorem f78_138 : gm_fetch 78 138 = some (139, .iconst 1, 0, 0, 0, 0) := (fe78 138).trans rfl
theorem f78_139 : gm_fetch 78 139 = some (140, .iand, 0, 0, 0, 0) := (fe78 139).trans rfl
theorem f78_140 : gm_fetch 78 140 = some (141, .ireturn, 0, 0, 0, 0) := (fe78 140).trans rfl
theorem f78_141 : gm_fetch 78 141 = some (143, .bipush (-2), 0, 0, 0, 0) := (fe78 141).trans rfl
theorem f78_143 : gm_fetch 78 143 = some (144, .ireturn, 0, 0, 0, 0) := (fe78 143).trans rfl
set_option maxRecDepth 10000 in
theorem rg78_0 {mi : Mi} {ml : Ml} {F : Int32 → Mi → Ml → Prop} {x1 : Int32} {x2 : Int32} {x3 : Int32}  (h : Sg 7 0 [some (.ref 1), some (.int x1), some (.int x2)] [] mi ml (qi fun y1 mi2 ml3 => ((¬ y1 = 0) → ((Int32.toInt x3 < 0 ∨ 4 < Int32.toInt x3) → F (-2) mi2 ml3) ∧ (x3 = nI 0 → (vp_in x2 7) ∧ (Sg 109 0 [some (.int (mi2 2 (Int32.toNatClampNeg x2))), some (.int x1)] [] mi2 ml3 (qi fun y5 mi6 ml7 => F y5 mi6 ml7))) ∧ (x3 = nI 1 → (((mi2 23 0) = 0) → F (-1) mi2 ml3) ∧ (¬ ((mi2 23 0) = 0) → (vp_in x2 7) ∧ (Sg 111 0 [some (.int (mi2 24 (Int32.toNatClampNeg x2))), some (.int x1)] [] mi2 ml3 (qi fun y9 mi10 ml11 => F y9 mi10 ml11)))) ∧ (x3 = nI 2 → Sg 42 0 [some (.ref 3), some (.int x2)] [] mi2 ml3 (qi fun y12 mi13 ml14 => Sg 109 0 [some (.int y12), some (.int x1)] [] mi13 ml14 (qi fun y15 mi16 ml17 => F y15 mi16 ml17))) ∧ (x3 = nI 3 → Sg 41 0 [some (.ref 3), some (.int x2)] [] mi2 ml3 (qi fun y18 mi19 ml20 => Sg 109 0 [some (.int y18), some (.int x1)] [] mi19 ml20 (qi fun y21 mi22 ml23 => F y21 mi22 ml23))) ∧ (x3 = nI 4 → Sg 14 0 [some (.ref 18)] [] mi2 ml3 (ql fun y24 mi25 ml26 => Sg 9 0 [some (.ref 1), some (.int x1), some (.int x2)] [] mi25 ml26 (qi fun y27 mi28 ml29 => F ((Int64.toInt32 (lushr y24 y27)) &&& 1) mi28 ml29)))) ∧ (¬ (¬ y1 = 0) → F (-2) mi2 ml3))) : Sg 78 0 [some (.ref 0), some (.int x1), some (.int x2), some (.int x3)] [] mi ml (qi F) := by
  refine sg_ld f78_0 (v := .ref 0) rfl rfl ?_
  refine sg_getr f78_1 rfl rfl (w := 1) rfl ?_
  refine sg_ld f78_4 (v := .int x1) rfl rfl ?_
  refine sg_ld f78_5 (v := .int x2) rfl rfl ?_
  refine sg_cV f78_6 (vs := [.int x1, .int x2]) (r := 1) (rest := []) (en := [some (.ref 1), some (.int x1), some (.int x2)]) pq7 ⟨rfl, rfl⟩ rfl rfl rfl rfl rfl rfl h ?_
  rintro _ mi2 ml3 ⟨y1, rfl, h⟩
  refine sg_if f78_9 (fun c => ?_) (fun c => ?_)
  · have h := h.1 c
    refine sg_ld f78_15 (v := .int x3) rfl rfl ?_
    by_cases c : Int32.toInt x3 < 0 ∨ 4 < Int32.toInt x3
    · have h := h.1 c
      refine sg_tabO f78_16 c (t := 141) (by decide) ?_
      refine sg_psh f78_141 (v := .int (-2)) (by decide) ?_
      exact sg_iret f78_143 pq78 rfl rfl ⟨_, rfl, h⟩
    · have h := h.2
      obtain ⟨kk, hk, hx⟩ := gm_swk (n := 4) c
      rcases (show kk = 0 ∨ kk = 1 ∨ kk = 2 ∨ kk = 3 ∨ kk = 4 by omega) with rfl | rfl | rfl | rfl | rfl
      · have h := h.1 hx
        refine sg_tabI f78_16 (by rw [hx]; decide) (by rw [hx]; decide) (off := 36) (t := 52) (by rw [hx]; decide) (by decide) ?_
        refine sg_ld f78_52 (v := .ref 0) rfl rfl ?_
        refine sg_getr f78_53 rfl rfl (w := 1) rfl ?_
        refine sg_getr f78_56 rfl rfl (w := 2) rfl ?_
        refine sg_ld f78_59 (v := .int x2) rfl rfl ?_
        obtain ⟨e4, h⟩ := h
        refine sg_iald f78_60 rfl e4 (x := (mi2 2 (Int32.toNatClampNeg x2))) rfl ?_
        refine sg_ld f78_61 (v := .int x1) rfl rfl ?_
        refine sg_cS f78_62 (vs := [.int (mi2 2 (Int32.toNatClampNeg x2)), .int x1]) (rest := []) (en := [some (.int (mi2 2 (Int32.toNatClampNeg x2))), some (.int x1)]) (by decide) pq109 ⟨rfl, rfl⟩ rfl rfl rfl rfl rfl h ?_
        rintro _ mi6 ml7 ⟨y5, rfl, h⟩
        exact sg_iret f78_65 pq78 rfl rfl ⟨_, rfl, h⟩
      · have h := h.2.1 hx
        refine sg_tabI f78_16 (by rw [hx]; decide) (by rw [hx]; decide) (off := 50) (t := 66) (by rw [hx]; decide) (by decide) ?_
        refine sg_ld f78_66 (v := .ref 0) rfl rfl ?_
        refine sg_getr f78_67 rfl rfl (w := 23) rfl ?_
        refine sg_geti f78_70 rfl rfl (x := (mi2 23 0)) rfl ?_
        refine sg_if f78_73 (fun c => ?_) (fun c => ?_)
        · have h := h.1 c
          refine sg_psh f78_92 (v := .int (-1)) (by decide) ?_
          exact sg_iret f78_93 pq78 rfl rfl ⟨_, rfl, h⟩
        · have h := h.2 c
          refine sg_ld f78_76 (v := .ref 0) rfl rfl ?_
          refine sg_getr f78_77 rfl rfl (w := 23) rfl ?_
          refine sg_getr f78_80 rfl rfl (w := 24) rfl ?_
          refine sg_ld f78_83 (v := .int x2) rfl rfl ?_
          obtain ⟨e8, h⟩ := h
          refine sg_iald f78_84 rfl e8 (x := (mi2 24 (Int32.toNatClampNeg x2))) rfl ?_
          refine sg_ld f78_85 (v := .int x1) rfl rfl ?_
          refine sg_cS f78_86 (vs := [.int (mi2 24 (Int32.toNatClampNeg x2)), .int x1]) (rest := []) (en := [some (.int (mi2 24 (Int32.toNatClampNeg x2))), some (.int x1)]) (by decide) pq111 ⟨rfl, rfl⟩ rfl rfl rfl rfl rfl h ?_
          rintro _ mi10 ml11 ⟨y9, rfl, h⟩
          refine sg_goto f78_89 ?_
          exact sg_iret f78_93 pq78 rfl rfl ⟨_, rfl, h⟩
      · have h := h.2.2.1 hx
        refine sg_tabI f78_16 (by rw [hx]; decide) (by rw [hx]; decide) (off := 78) (t := 94) (by rw [hx]; decide) (by decide) ?_
        refine sg_ld f78_94 (v := .ref 0) rfl rfl ?_
        refine sg_getr f78_95 rfl rfl (w := 3) rfl ?_
        refine sg_ld f78_98 (v := .int x2) rfl rfl ?_
        refine sg_cV f78_99 (vs := [.int x2]) (r := 3) (rest := []) (en := [some (.ref 3), some (.int x2)]) pq42 ⟨rfl, rfl⟩ rfl rfl rfl rfl rfl rfl h ?_
        rintro _ mi13 ml14 ⟨y12, rfl, h⟩
        refine sg_ld f78_102 (v := .int x1) rfl rfl ?_
        refine sg_cS f78_103 (vs := [.int y12, .int x1]) (rest := []) (en := [some (.int y12), some (.int x1)]) (by decide) pq109 ⟨rfl, rfl⟩ rfl rfl rfl rfl rfl h ?_
        rintro _ mi16 ml17 ⟨y15, rfl, h⟩
        exact sg_iret f78_106 pq78 rfl rfl ⟨_, rfl, h⟩
      · have h := h.2.2.2.1 hx
        refine sg_tabI f78_16 (by rw [hx]; decide) (by rw [hx]; decide) (off := 91) (t := 107) (by rw [hx]; decide) (by decide) ?_
        refine sg_ld f78_107 (v := .ref 0) rfl rfl ?_
        refine sg_getr f78_108 rfl rfl (w := 3) rfl ?_
        refine sg_ld f78_111 (v := .int x2) rfl rfl ?_
        refine sg_cV f78_112 (vs := [.int x2]) (r := 3) (rest := []) (en := [some (.ref 3), some (.int x2)]) pq41 ⟨rfl, rfl⟩ rfl rfl rfl rfl rfl rfl h ?_
        rintro _ mi19 ml20 ⟨y18, rfl, h⟩
        refine sg_ld f78_115 (v := .int x1) rfl rfl ?_
        refine sg_cS f78_116 (vs := [.int y18, .int x1]) (rest := []) (en := [some (.int y18), some (.int x1)]) (by decide) pq109 ⟨rfl, rfl⟩ rfl rfl rfl rfl rfl h ?_
        rintro _ mi22 ml23 ⟨y21, rfl, h⟩
        exact sg_iret f78_119 pq78 rfl rfl ⟨_, rfl, h⟩
      · have h := h.2.2.2.2 hx
        refine sg_tabI f78_16 (by rw [hx]; decide) (by rw [hx]; decide) (off := 104) (t := 120) (by rw [hx]; decide) (by decide) ?_
        refine sg_ld f78_120 (v := .ref 0) rfl rfl ?_
        refine sg_getr f78_121 rfl rfl (w := 18) rfl ?_
        refine sg_cV f78_124 (vs := []) (r := 18) (rest := []) (en := [some (.ref 18)]) pq14 ⟨rfl, rfl⟩ rfl rfl rfl rfl rfl rfl h ?_
        rintro _ mi25 ml26 ⟨y24, rfl, h⟩
        refine sg_ld f78_127 (v := .ref 0) rfl rfl ?_
        refine sg_getr f78_128 rfl rfl (w := 1) rfl ?_
        refine sg_ld f78_131 (v := .int x1) rfl rfl ?_
        refine sg_ld f78_132 (v := .int x2) rfl rfl ?_
        refine sg_cV f78_133 (vs := [.int x1, .int x2]) (r := 1) (rest := [.long y24]) (en := [some (.ref 1), some (.int x1), some (.int x2)]) pq9 ⟨rfl, rfl⟩ rfl rfl rfl rfl rfl rfl h ?_
        rintro _ mi28 ml29 ⟨y27, rfl, h⟩
        refine sg_shl f78_136 rfl ?_
        refine sg_l2i f78_137 ?_
        refine sg_psh f78_138 (v := .int 1) (by decide) ?_
        refine sg_bin f78_139 rfl ?_
        exact sg_iret f78_140 pq78 rfl rfl ⟨_, rfl, h⟩
  · have h := h.2 c
    refine sg_psh f78_12 (v := .int (-2)) (by decide) ?_
    exact sg_iret f78_14 pq78 rfl rfl ⟨_, rfl, h⟩

/-! X6_whole ()I -/
theorem fe79 (pc : Nat) : gm_fetch 79 pc = gm_find pc cd_79 := rfl
theorem f79_0 : gm_fetch 79 0 = some (1, .aload_n 0, 0, 0, 0, 0) := (fe79 0).trans rfl
theorem f79_1 : gm_fetch 79 1 = some (4, .getfield 21, 77, 6, 1, 0) := (fe79 1).trans rfl
theorem f79_4 : gm_fetch 79 4 = some (7, .invokevirtual 152, 77, 36, 0, 0) := (fe79 4).trans rfl
theorem f79_7 : gm_fetch 79 7 = some (10, .ifCond .eq 7, 0, 14, 0, 0) := (fe79 7).trans rfl
theorem f79_10 : gm_fetch 79 10 = some (11, .iconst 1, 0, 0, 0, 0) := (fe79 10).trans rfl
theorem f79_11 : gm_fetch 79 11 = some (14, .goto 4, 0, 15, 0, 0) := (fe79 11).trans rfl
theorem f79_14 : gm_fetch 79 14 = some (15, .iconst 0, 0, 0, 0, 0) := (fe79 14).trans rfl
theorem f79_15 : gm_fetch 79 15 = some (16, .ireturn, 0, 0, 0, 0) := (fe79 15).trans rfl
set_option maxRecDepth 10000 in
theorem rg79_0 {mi : Mi} {ml : Ml} {F : Int32 → Mi → Ml → Prop}   (h : Sg 36 0 [some (.ref 3)] [] mi ml (qi fun y1 mi2 ml3 => ((y1 = 0) → F 0 mi2 ml3) ∧ (¬ (y1 = 0) → F 1 mi2 ml3))) : Sg 79 0 [some (.ref 0)] [] mi ml (qi F) := by
  refine sg_ld f79_0 (v := .ref 0) rfl rfl ?_
  refine sg_getr f79_1 rfl rfl (w := 3) rfl ?_
  refine sg_cV f79_4 (vs := []) (r := 3) (rest := []) (en := [some (.ref 3)]) pq36 ⟨rfl, rfl⟩ rfl rfl rfl rfl rfl rfl h ?_
  rintro _ mi2 ml3 ⟨y1, rfl, h⟩
  refine sg_if f79_7 (fun c => ?_) (fun c => ?_)
  · have h := h.1 c
    refine sg_psh f79_14 (v := .int 0) (by decide) ?_
    exact sg_iret f79_15 pq79 rfl rfl ⟨_, rfl, h⟩
  · have h := h.2 c
    refine sg_psh f79_10 (v := .int 1) (by decide) ?_
    refine sg_goto f79_11 ?_
    exact sg_iret f79_15 pq79 rfl rfl ⟨_, rfl, h⟩

/-! X6_mend ()I -/
theorem fe80 (pc : Nat) : gm_fetch 80 pc = gm_find pc cd_80 := rfl
theorem f80_0 : gm_fetch 80 0 = some (1, .aload_n 0, 0, 0, 0, 0) := (fe80 0).trans rfl
theorem f80_1 : gm_fetch 80 1 = some (4, .getfield 21, 77, 6, 1, 0) := (fe80 1).trans rfl
theorem f80_4 : gm_fetch 80 4 = some (5, .aload_n 0, 0, 0, 0, 0) := (fe80 4).trans rfl
theorem f80_5 : gm_fetch 80 5 = some (8, .getfield 35, 79, 6, 3, 0) := (fe80 5).trans rfl
theorem f80_8 : gm_fetch 80 8 = some (11, .invokevirtual 156, 79, 49, 0, 0) := (fe80 8).trans rfl
theorem f80_11 : gm_fetch 80 11 = some (12, .istore_n 1, 0, 0, 0, 0) := (fe80 11).trans rfl
theorem f80_12 : gm_fetch 80 12 = some (13, .iload_n 1, 0, 0, 0, 0) := (fe80 12).trans rfl
theorem f80_13 : gm_fetch 80 13 = some (14, .iconst (-1), 0, 0, 0, 0) := (fe80 13).trans rfl
theorem f80_14 : gm_fetch 80 14 = some (17, .if_icmp .ne 6, 0, 20, 0, 0) := (fe80 14).trans rfl
theorem f80_17 : gm_fetch 80 17 = some (19, .bipush (-3), 0, 0, 0, 0) := (fe80 17).trans rfl
theorem f80_19 : gm_fetch 80 19 = some (20, .ireturn, 0, 0, 0, 0) := (fe80 19).trans rfl
theorem f80_20 : gm_fetch 80 20 = some (21, .aload_n 0, 0, 0, 0, 0) := (fe80 20).trans rfl
theorem f80_21 : gm_fetch 80 21 = some (24, .getfield 21, 77, 6, 1, 0) := (fe80 21).trans rfl
theorem f80_24 : gm_fetch 80 24 = some (25, .aload_n 0, 0, 0, 0, 0) := (fe80 24).trans rfl
theorem f80_25 : gm_fetch 80 25 = some (28, .getfield 35, 79, 6, 3, 0) := (fe80 25).trans rfl
theorem f80_28 : gm_fetch 80 28 = some (31, .invokevirtual 160, 88, 54, 0, 0) := (fe80 28).trans rfl
theorem f80_31 : gm_fetch 80 31 = some (32, .aload_n 0, 0, 0, 0, 0) := (fe80 31).trans rfl
theorem f80_32 : gm_fetch 80 32 = some (33, .dup, 0, 0, 0, 0) := (fe80 32).trans rfl
theorem f80_33 : gm_fetch 80 33 = some (36, .getfield 164, 82, 6, 6, 0) := (fe80 33).trans rfl
theorem f80_36 : gm_fetch 80 36 = some (37, .iload_n 1, 0, 0, 0, 0) := (fe80 36).trans rfl
theorem f80_37 : gm_fetch 80 37 = some (38, .iadd, 0, 0, 0, 0) := (fe80 37).trans rfl
theorem f80_38 : gm_fetch 80 38 = some (41, .putfield 164, 82, 6, 6, 0) := (fe80 38).trans rfl
theorem f80_41 : gm_fetch 80 41 = some (42, .iload_n 1, 0, 0, 0, 0) := (fe80 41).trans rfl
theorem f80_42 : gm_fetch 80 42 = some (43, .ireturn, 0, 0, 0, 0) := (fe80 42).trans rfl
set_option maxRecDepth 10000 in
theorem rg80_0 {mi : Mi} {ml : Ml} {F : Int32 → Mi → Ml → Prop}   (h : Sg 49 0 [some (.ref 3), some (.ref 23), none] [] mi ml (qi fun y1 mi2 ml3 => ((¬ y1 = (-1)) → Sg 54 0 [some (.ref 3), some (.ref 23), none, none, none, none, none] [] mi2 ml3 (qv fun mi5 ml6 => F y1 (va_up mi5 0 (va_up (mi5 0) 6 ((mi5 0 6) + y1))) ml6)) ∧ (¬ (¬ y1 = (-1)) → F (-3) mi2 ml3))) : Sg 80 0 [some (.ref 0), none] [] mi ml (qi F) := by
  refine sg_ld f80_0 (v := .ref 0) rfl rfl ?_
  refine sg_getr f80_1 rfl rfl (w := 3) rfl ?_
  refine sg_ld f80_4 (v := .ref 0) rfl rfl ?_
  refine sg_getr f80_5 rfl rfl (w := 23) rfl ?_
  refine sg_cV f80_8 (vs := [.ref 23]) (r := 3) (rest := []) (en := [some (.ref 3), some (.ref 23), none]) pq49 ⟨rfl, rfl⟩ rfl rfl rfl rfl rfl rfl h ?_
  rintro _ mi2 ml3 ⟨y1, rfl, h⟩
  refine sg_st1 f80_11 (ls' := [some (.ref 0), some (.int y1)]) rfl rfl rfl rfl ?_
  refine sg_ld f80_12 (v := .int y1) rfl rfl ?_
  refine sg_psh f80_13 (v := .int (-1)) (by decide) ?_
  refine sg_icmp f80_14 (fun c => ?_) (fun c => ?_)
  · have h := h.1 c
    refine sg_ld f80_20 (v := .ref 0) rfl rfl ?_
    refine sg_getr f80_21 rfl rfl (w := 3) rfl ?_
    refine sg_ld f80_24 (v := .ref 0) rfl rfl ?_
    refine sg_getr f80_25 rfl rfl (w := 23) rfl ?_
    refine sg_cV f80_28 (vs := [.ref 23]) (r := 3) (rest := []) (en := [some (.ref 3), some (.ref 23), none, none, none, none, none]) pq54 ⟨rfl, rfl⟩ rfl rfl rfl rfl rfl rfl h ?_
    intro _ mi5 ml6 h
    have h := gm_qv h
    refine sg_ld f80_31 (v := .ref 0) rfl rfl ?_
    refine sg_dup f80_32 rfl ?_
    refine sg_geti f80_33 rfl rfl (x := (mi5 0 6)) rfl ?_
    refine sg_ld f80_36 (v := .int y1) rfl rfl ?_
    refine sg_bin f80_37 rfl ?_
    refine sg_puti f80_38 rfl rfl rfl (fun hz => by cases hz) ?_
    refine sg_ld f80_41 (v := .int y1) rfl rfl ?_
    exact sg_iret f80_42 pq80 rfl rfl ⟨_, rfl, h⟩
  · have h := h.2 c
    refine sg_psh f80_17 (v := .int (-3)) (by decide) ?_
    exact sg_iret f80_19 pq80 rfl rfl ⟨_, rfl, h⟩

/-! X6_moves ()I -/
theorem fe81 (pc : Nat) : gm_fetch 81 pc = gm_find pc cd_81 := rfl
theorem f81_0 : gm_fetch 81 0 = some (1, .aload_n 0, 0, 0, 0, 0) := (fe81 0).trans rfl
theorem f81_1 : gm_fetch 81 1 = some (4, .getfield 21, 77, 6, 1, 0) := (fe81 1).trans rfl
theorem f81_4 : gm_fetch 81 4 = some (5, .aload_n 0, 0, 0, 0, 0) := (fe81 4).trans rfl
theorem f81_5 : gm_fetch 81 5 = some (8, .getfield 35, 79, 6, 3, 0) := (fe81 5).trans rfl
theorem f81_8 : gm_fetch 81 8 = some (11, .invokevirtual 156, 79, 49, 0, 0) := (fe81 8).trans rfl
theorem f81_11 : gm_fetch 81 11 = some (12, .ireturn, 0, 0, 0, 0) := (fe81 11).trans rfl
set_option maxRecDepth 10000 in
theorem rg81_0 {mi : Mi} {ml : Ml} {F : Int32 → Mi → Ml → Prop}   (h : Sg 49 0 [some (.ref 3), some (.ref 23), none] [] mi ml (qi fun y1 mi2 ml3 => F y1 mi2 ml3)) : Sg 81 0 [some (.ref 0)] [] mi ml (qi F) := by
  refine sg_ld f81_0 (v := .ref 0) rfl rfl ?_
  refine sg_getr f81_1 rfl rfl (w := 3) rfl ?_
  refine sg_ld f81_4 (v := .ref 0) rfl rfl ?_
  refine sg_getr f81_5 rfl rfl (w := 23) rfl ?_
  refine sg_cV f81_8 (vs := [.ref 23]) (r := 3) (rest := []) (en := [some (.ref 3), some (.ref 23), none]) pq49 ⟨rfl, rfl⟩ rfl rfl rfl rfl rfl rfl h ?_
  rintro _ mi2 ml3 ⟨y1, rfl, h⟩
  exact sg_iret f81_11 pq81 rfl rfl ⟨_, rfl, h⟩

/-! X6_seat (II)I -/
theorem fe82 (pc : Nat) : gm_fetch 82 pc = gm_find pc cd_82 := rfl
theorem f82_0 : gm_fetch 82 0 = some (1, .aload_n 0, 0, 0, 0, 0) := (fe82 0).trans rfl
theorem f82_1 : gm_fetch 82 1 = some (4, .getfield 12, 76, 6, 0, 0) := (fe82 1).trans rfl
theorem f82_4 : gm_fetch 82 4 = some (5, .iload_n 1, 0, 0, 0, 0) := (fe82 4).trans rfl
theorem f82_5 : gm_fetch 82 5 = some (8, .invokevirtual 107, 34, 6, 0, 0) := (fe82 5).trans rfl
theorem f82_8 : gm_fetch 82 8 = some (11, .ifCond .eq 34, 0, 42, 0, 0) := (fe82 8).trans rfl
theorem f82_11 : gm_fetch 82 11 = some (12, .iload_n 2, 0, 0, 0, 0) := (fe82 11).trans rfl
theorem f82_12 : gm_fetch 82 12 = some (15, .ifCond .lt 30, 0, 42, 0, 0) := (fe82 12).trans rfl
theorem f82_15 : gm_fetch 82 15 = some (16, .iload_n 2, 0, 0, 0, 0) := (fe82 15).trans rfl
theorem f82_16 : gm_fetch 82 16 = some (17, .iconst 1, 0, 0, 0, 0) := (fe82 16).trans rfl
theorem f82_17 : gm_fetch 82 17 = some (18, .aload_n 0, 0, 0, 0, 0) := (fe82 17).trans rfl
theorem f82_18 : gm_fetch 82 18 = some (21, .getfield 12, 76, 6, 0, 0) := (fe82 18).trans rfl
theorem f82_21 : gm_fetch 82 21 = some (24, .getfield 62, 7, 0, 1, 0) := (fe82 21).trans rfl
theorem f82_24 : gm_fetch 82 24 = some (25, .ishl, 0, 0, 0, 0) := (fe82 24).trans rfl
theorem f82_25 : gm_fetch 82 25 = some (28, .if_icmp .ge 17, 0, 42, 0, 0) := (fe82 25).trans rfl
theorem f82_28 : gm_fetch 82 28 = some (29, .iload_n 2, 0, 0, 0, 0) := (fe82 28).trans rfl
theorem f82_29 : gm_fetch 82 29 = some (32, .invokestatic 167, 40, 194, 0, 0) := (fe82 29).trans rfl
theorem f82_32 : gm_fetch 82 32 = some (33, .aload_n 0, 0, 0, 0, 0) := (fe82 32).trans rfl
theorem f82_33 : gm_fetch 82 33 = some (36, .getfield 12, 76, 6, 0, 0) := (fe82 33).trans rfl
theorem f82_36 : gm_fetch 82 36 = some (39, .getfield 66, 12, 0, 2, 0) := (fe82 36).trans rfl
theorem f82_39 : gm_fetch 82 39 = some (42, .if_icmp .eq 6, 0, 45, 0, 0) := (fe82 39).trans rfl
theorem f82_42 : gm_fetch 82 42 = some (44, .bipush (-2), 0, 0, 0, 0) := (fe82 42).trans rfl
theorem f82_44 : gm_fetch 82 44 = some (45, .ireturn, 0, 0, 0, 0) := (fe82 44).trans rfl
theorem f82_45 : gm_fetch 82 45 = some (46, .aload_n 0, 0, 0, 0, 0) := (fe82 45).trans rfl
theorem f82_46 : gm_fetch 82 46 = some (49, .getfield 35, 79, 6, 3, 0) := (fe82 46).trans rfl
theorem f82_49 : gm_fetch 82 49 = some (52, .getfield 54, 61, 2, 0, 0) := (fe82 49).trans rfl
theorem f82_52 : gm_fetch 82 52 = some (55, .ifCond .ne 6, 0, 58, 0, 0) := (fe82 52).trans rfl
theorem f82_55 : gm_fetch 82 55 = some (57, .bipush (-3), 0, 0, 0, 0) := (fe82 55).trans rfl
theorem f82_57 : gm_fetch 82 57 = some (58, .ireturn, 0, 0, 0, 0) := (fe82 57).trans rfl
theorem f82_58 : gm_fetch 82 58 = some (59, .aload_n 0, 0, 0, 0, 0) := (fe82 58).trans rfl
theorem f82_59 : gm_fetch 82 59 = some (62, .getfield 35, 79, 6, 3, 0) := (fe82 59).trans rfl
theorem f82_62 : gm_fetch 82 62 = some (65, .getfield 133, 66, 2, 4, 0) := (fe82 62).trans rfl
theorem f82_65 : gm_fetch 82 65 = some (66, .iload_n 1, 0, 0, 0, 0) := (fe82 65).trans rfl
theorem f82_66 : gm_fetch 82 66 = some (67, .iaload, 0, 0, 0, 0) := (fe82 66).trans rfl
theorem f82_67 : gm_fetch 82 67 = some (68, .iload_n 2, 0, 0, 0, 0) := (fe82 67).trans rfl
theorem f82_68 : gm_fetch 82 68 = some (69, .aload_n 0, 0, 0, 0, 0) := (fe82 68).trans rfl
theorem f82_69 : gm_fetch 82 69 = some (72, .getfield 12, 76, 6, 0, 0) := (fe82 69).trans rfl
theorem f82_72 : gm_fetch 82 72 = some (75, .getfield 66, 12, 0, 2, 0) := (fe82 72).trans rfl
theorem f82_75 : gm_fetch 82 75 = some (78, .invokestatic 172, 92, 112, 0, 0) := (fe82 75).trans rfl
theorem f82_78 : gm_fetch 82 78 = some (79, .istore_n 3, 0, 0, 0, 0) := (fe82 78).trans rfl
theorem f82_79 : gm_fetch 82 79 = some (80, .aload_n 0, 0, 0, 0, 0) := (fe82 79).trans rfl
theorem f82_80 : gm_fetch 82 80 = some (83, .getfield 35, 79, 6, 3, 0) := (fe82 80).trans rfl
theorem f82_83 : gm_fetch 82 83 = some (86, .getfield 133, 66, 2, 4, 0) := (fe82 83).trans rfl
theorem f82_86 : gm_fetch 82 86 = some (87, .iload_n 1, 0, 0, 0, 0) := (fe82 86).trans rfl
theorem f82_87 : gm_fetch 82 87 = some (88, .iload_n 2, 0, 0, 0, 0) := (fe82 87).trans rfl
theorem f82_88 : gm_fetch 82 88 = some (89, .iastore, 0, 0, 0, 0) := (fe82 88).trans rfl
theorem f82_89 : gm_fetch 82 89 = some (90, .iload_n 3, 0, 0, 0, 0) := (fe82 89).trans rfl
theorem f82_90 : gm_fetch 82 90 = some (91, .ireturn, 0, 0, 0, 0) := (fe82 90).trans rfl
set_option maxRecDepth 10000 in
theorem rg82_0 {mi : Mi} {ml : Ml} {F : Int32 → Mi → Ml → Prop} {x1 : Int32} {x2 : Int32}  (h : Sg 6 0 [some (.ref 1), some (.int x1)] [] mi ml (qi fun y1 mi2 ml3 => ((y1 = 0) → F (-2) mi2 ml3) ∧ (¬ (y1 = 0) → ((x2 < 0) → F (-2) mi2 ml3) ∧ (¬ (x2 < 0) → (((1 <<< ((mi2 1 1) &&& 31)) ≤ x2) → F (-2) mi2 ml3) ∧ (¬ ((1 <<< ((mi2 1 1) &&& 31)) ≤ x2) → Sg 194 0 [some (.int x2)] [] mi2 ml3 (qi fun y4 mi5 ml6 => ((y4 = (mi5 1 2)) → ((¬ (mi5 23 0) = 0) → (vp_in x1 7) ∧ (Sg 112 0 [some (.int (mi5 24 (Int32.toNatClampNeg x1))), some (.int x2), some (.int (mi5 1 2)), none, none] [] mi5 ml6 (qi fun y8 mi9 ml10 => F y8 (va_up mi9 24 (va_up (mi9 24) (Int32.toNatClampNeg x1) x2)) ml10))) ∧ (¬ (¬ (mi5 23 0) = 0) → F (-3) mi5 ml6)) ∧ (¬ (y4 = (mi5 1 2)) → F (-2) mi5 ml6))))))) : Sg 82 0 [some (.ref 0), some (.int x1), some (.int x2), none] [] mi ml (qi F) := by
  refine sg_ld f82_0 (v := .ref 0) rfl rfl ?_
  refine sg_getr f82_1 rfl rfl (w := 1) rfl ?_
  refine sg_ld f82_4 (v := .int x1) rfl rfl ?_
  refine sg_cV f82_5 (vs := [.int x1]) (r := 1) (rest := []) (en := [some (.ref 1), some (.int x1)]) pq6 ⟨rfl, rfl⟩ rfl rfl rfl rfl rfl rfl h ?_
  rintro _ mi2 ml3 ⟨y1, rfl, h⟩
  refine sg_if f82_8 (fun c => ?_) (fun c => ?_)
  · have h := h.1 c
    refine sg_psh f82_42 (v := .int (-2)) (by decide) ?_
    exact sg_iret f82_44 pq82 rfl rfl ⟨_, rfl, h⟩
  · have h := h.2 c
    refine sg_ld f82_11 (v := .int x2) rfl rfl ?_
    refine sg_if f82_12 (fun c => ?_) (fun c => ?_)
    · have h := h.1 c
      refine sg_psh f82_42 (v := .int (-2)) (by decide) ?_
      exact sg_iret f82_44 pq82 rfl rfl ⟨_, rfl, h⟩
    · have h := h.2 c
      refine sg_ld f82_15 (v := .int x2) rfl rfl ?_
      refine sg_psh f82_16 (v := .int 1) (by decide) ?_
      refine sg_ld f82_17 (v := .ref 0) rfl rfl ?_
      refine sg_getr f82_18 rfl rfl (w := 1) rfl ?_
      refine sg_geti f82_21 rfl rfl (x := (mi2 1 1)) rfl ?_
      refine sg_bin f82_24 rfl ?_
      refine sg_icmp f82_25 (fun c => ?_) (fun c => ?_)
      · have h := h.1 c
        refine sg_psh f82_42 (v := .int (-2)) (by decide) ?_
        exact sg_iret f82_44 pq82 rfl rfl ⟨_, rfl, h⟩
      · have h := h.2 c
        refine sg_ld f82_28 (v := .int x2) rfl rfl ?_
        refine sg_cS f82_29 (vs := [.int x2]) (rest := []) (en := [some (.int x2)]) (by decide) pq194 ⟨rfl, rfl⟩ rfl rfl rfl rfl rfl h ?_
        rintro _ mi5 ml6 ⟨y4, rfl, h⟩
        refine sg_ld f82_32 (v := .ref 0) rfl rfl ?_
        refine sg_getr f82_33 rfl rfl (w := 1) rfl ?_
        refine sg_geti f82_36 rfl rfl (x := (mi5 1 2)) rfl ?_
        refine sg_icmp f82_39 (fun c => ?_) (fun c => ?_)
        · have h := h.1 c
          refine sg_ld f82_45 (v := .ref 0) rfl rfl ?_
          refine sg_getr f82_46 rfl rfl (w := 23) rfl ?_
          refine sg_geti f82_49 rfl rfl (x := (mi5 23 0)) rfl ?_
          refine sg_if f82_52 (fun c => ?_) (fun c => ?_)
          · have h := h.1 c
            refine sg_ld f82_58 (v := .ref 0) rfl rfl ?_
            refine sg_getr f82_59 rfl rfl (w := 23) rfl ?_
            refine sg_getr f82_62 rfl rfl (w := 24) rfl ?_
            refine sg_ld f82_65 (v := .int x1) rfl rfl ?_
            obtain ⟨e7, h⟩ := h
            refine sg_iald f82_66 rfl e7 (x := (mi5 24 (Int32.toNatClampNeg x1))) rfl ?_
            refine sg_ld f82_67 (v := .int x2) rfl rfl ?_
            refine sg_ld f82_68 (v := .ref 0) rfl rfl ?_
            refine sg_getr f82_69 rfl rfl (w := 1) rfl ?_
            refine sg_geti f82_72 rfl rfl (x := (mi5 1 2)) rfl ?_
            refine sg_cS f82_75 (vs := [.int (mi5 24 (Int32.toNatClampNeg x1)), .int x2, .int (mi5 1 2)]) (rest := []) (en := [some (.int (mi5 24 (Int32.toNatClampNeg x1))), some (.int x2), some (.int (mi5 1 2)), none, none]) (by decide) pq112 ⟨rfl, rfl⟩ rfl rfl rfl rfl rfl h ?_
            rintro _ mi9 ml10 ⟨y8, rfl, h⟩
            refine sg_st1 f82_78 (ls' := [some (.ref 0), some (.int x1), some (.int x2), some (.int y8)]) rfl rfl rfl rfl ?_
            refine sg_ld f82_79 (v := .ref 0) rfl rfl ?_
            refine sg_getr f82_80 rfl rfl (w := 23) rfl ?_
            refine sg_getr f82_83 rfl rfl (w := 24) rfl ?_
            refine sg_ld f82_86 (v := .int x1) rfl rfl ?_
            refine sg_ld f82_87 (v := .int x2) rfl rfl ?_
            refine sg_iast f82_88 rfl e7 ?_
            refine sg_ld f82_89 (v := .int y8) rfl rfl ?_
            exact sg_iret f82_90 pq82 rfl rfl ⟨_, rfl, h⟩
          · have h := h.2 c
            refine sg_psh f82_55 (v := .int (-3)) (by decide) ?_
            exact sg_iret f82_57 pq82 rfl rfl ⟨_, rfl, h⟩
        · have h := h.2 c
          refine sg_psh f82_42 (v := .int (-2)) (by decide) ?_
          exact sg_iret f82_44 pq82 rfl rfl ⟨_, rfl, h⟩

/-! X6_column (II)I -/
theorem fe83 (pc : Nat) : gm_fetch 83 pc = gm_find pc cd_83 := rfl
theorem f83_0 : gm_fetch 83 0 = some (1, .aload_n 0, 0, 0, 0, 0) := (fe83 0).trans rfl
theorem f83_1 : gm_fetch 83 1 = some (4, .getfield 12, 76, 6, 0, 0) := (fe83 1).trans rfl
theorem f83_4 : gm_fetch 83 4 = some (5, .iload_n 1, 0, 0, 0, 0) := (fe83 4).trans rfl
theorem f83_5 : gm_fetch 83 5 = some (8, .invokevirtual 107, 34, 6, 0, 0) := (fe83 5).trans rfl
theorem f83_8 : gm_fetch 83 8 = some (11, .ifCond .eq 18, 0, 26, 0, 0) := (fe83 8).trans rfl
theorem f83_11 : gm_fetch 83 11 = some (12, .iload_n 2, 0, 0, 0, 0) := (fe83 11).trans rfl
theorem f83_12 : gm_fetch 83 12 = some (15, .ifCond .lt 14, 0, 26, 0, 0) := (fe83 12).trans rfl
theorem f83_15 : gm_fetch 83 15 = some (16, .iload_n 2, 0, 0, 0, 0) := (fe83 15).trans rfl
theorem f83_16 : gm_fetch 83 16 = some (17, .aload_n 0, 0, 0, 0, 0) := (fe83 16).trans rfl
theorem f83_17 : gm_fetch 83 17 = some (20, .getfield 12, 76, 6, 0, 0) := (fe83 17).trans rfl
theorem f83_20 : gm_fetch 83 20 = some (23, .getfield 66, 12, 0, 2, 0) := (fe83 20).trans rfl
theorem f83_23 : gm_fetch 83 23 = some (26, .if_icmp .lt 6, 0, 29, 0, 0) := (fe83 23).trans rfl
theorem f83_26 : gm_fetch 83 26 = some (28, .bipush (-2), 0, 0, 0, 0) := (fe83 26).trans rfl
theorem f83_28 : gm_fetch 83 28 = some (29, .ireturn, 0, 0, 0, 0) := (fe83 28).trans rfl
theorem f83_29 : gm_fetch 83 29 = some (30, .aload_n 0, 0, 0, 0, 0) := (fe83 29).trans rfl
theorem f83_30 : gm_fetch 83 30 = some (33, .getfield 35, 79, 6, 3, 0) := (fe83 30).trans rfl
theorem f83_33 : gm_fetch 83 33 = some (36, .getfield 54, 61, 2, 0, 0) := (fe83 33).trans rfl
theorem f83_36 : gm_fetch 83 36 = some (39, .ifCond .eq 19, 0, 55, 0, 0) := (fe83 36).trans rfl
theorem f83_39 : gm_fetch 83 39 = some (40, .aload_n 0, 0, 0, 0, 0) := (fe83 39).trans rfl
theorem f83_40 : gm_fetch 83 40 = some (43, .getfield 35, 79, 6, 3, 0) := (fe83 40).trans rfl
theorem f83_43 : gm_fetch 83 43 = some (46, .getfield 133, 66, 2, 4, 0) := (fe83 43).trans rfl
theorem f83_46 : gm_fetch 83 46 = some (47, .iload_n 1, 0, 0, 0, 0) := (fe83 46).trans rfl
theorem f83_47 : gm_fetch 83 47 = some (48, .iaload, 0, 0, 0, 0) := (fe83 47).trans rfl
theorem f83_48 : gm_fetch 83 48 = some (49, .iload_n 2, 0, 0, 0, 0) := (fe83 48).trans rfl
theorem f83_49 : gm_fetch 83 49 = some (52, .invokestatic 176, 93, 110, 0, 0) := (fe83 49).trans rfl
theorem f83_52 : gm_fetch 83 52 = some (55, .goto 4, 0, 56, 0, 0) := (fe83 52).trans rfl
theorem f83_55 : gm_fetch 83 55 = some (56, .iconst (-1), 0, 0, 0, 0) := (fe83 55).trans rfl
theorem f83_56 : gm_fetch 83 56 = some (57, .ireturn, 0, 0, 0, 0) := (fe83 56).trans rfl
set_option maxRecDepth 10000 in
theorem rg83_0 {mi : Mi} {ml : Ml} {F : Int32 → Mi → Ml → Prop} {x1 : Int32} {x2 : Int32}  (h : Sg 6 0 [some (.ref 1), some (.int x1)] [] mi ml (qi fun y1 mi2 ml3 => ((y1 = 0) → F (-2) mi2 ml3) ∧ (¬ (y1 = 0) → ((x2 < 0) → F (-2) mi2 ml3) ∧ (¬ (x2 < 0) → ((x2 < (mi2 1 2)) → (((mi2 23 0) = 0) → F (-1) mi2 ml3) ∧ (¬ ((mi2 23 0) = 0) → (vp_in x1 7) ∧ (Sg 110 0 [some (.int (mi2 24 (Int32.toNatClampNeg x1))), some (.int x2), none, none] [] mi2 ml3 (qi fun y5 mi6 ml7 => F y5 mi6 ml7)))) ∧ (¬ (x2 < (mi2 1 2)) → F (-2) mi2 ml3))))) : Sg 83 0 [some (.ref 0), some (.int x1), some (.int x2)] [] mi ml (qi F) := by
  refine sg_ld f83_0 (v := .ref 0) rfl rfl ?_
  refine sg_getr f83_1 rfl rfl (w := 1) rfl ?_
  refine sg_ld f83_4 (v := .int x1) rfl rfl ?_
  refine sg_cV f83_5 (vs := [.int x1]) (r := 1) (rest := []) (en := [some (.ref 1), some (.int x1)]) pq6 ⟨rfl, rfl⟩ rfl rfl rfl rfl rfl rfl h ?_
  rintro _ mi2 ml3 ⟨y1, rfl, h⟩
  refine sg_if f83_8 (fun c => ?_) (fun c => ?_)
  · have h := h.1 c
    refine sg_psh f83_26 (v := .int (-2)) (by decide) ?_
    exact sg_iret f83_28 pq83 rfl rfl ⟨_, rfl, h⟩
  · have h := h.2 c
    refine sg_ld f83_11 (v := .int x2) rfl rfl ?_
    refine sg_if f83_12 (fun c => ?_) (fun c => ?_)
    · have h := h.1 c
      refine sg_psh f83_26 (v := .int (-2)) (by decide) ?_
      exact sg_iret f83_28 pq83 rfl rfl ⟨_, rfl, h⟩
    · have h := h.2 c
      refine sg_ld f83_15 (v := .int x2) rfl rfl ?_
      refine sg_ld f83_16 (v := .ref 0) rfl rfl ?_
      refine sg_getr f83_17 rfl rfl (w := 1) rfl ?_
      refine sg_geti f83_20 rfl rfl (x := (mi2 1 2)) rfl ?_
      refine sg_icmp f83_23 (fun c => ?_) (fun c => ?_)
      · have h := h.1 c
        refine sg_ld f83_29 (v := .ref 0) rfl rfl ?_
        refine sg_getr f83_30 rfl rfl (w := 23) rfl ?_
        refine sg_geti f83_33 rfl rfl (x := (mi2 23 0)) rfl ?_
        refine sg_if f83_36 (fun c => ?_) (fun c => ?_)
        · have h := h.1 c
          refine sg_psh f83_55 (v := .int (-1)) (by decide) ?_
          exact sg_iret f83_56 pq83 rfl rfl ⟨_, rfl, h⟩
        · have h := h.2 c
          refine sg_ld f83_39 (v := .ref 0) rfl rfl ?_
          refine sg_getr f83_40 rfl rfl (w := 23) rfl ?_
          refine sg_getr f83_43 rfl rfl (w := 24) rfl ?_
          refine sg_ld f83_46 (v := .int x1) rfl rfl ?_
          obtain ⟨e4, h⟩ := h
          refine sg_iald f83_47 rfl e4 (x := (mi2 24 (Int32.toNatClampNeg x1))) rfl ?_
          refine sg_ld f83_48 (v := .int x2) rfl rfl ?_
          refine sg_cS f83_49 (vs := [.int (mi2 24 (Int32.toNatClampNeg x1)), .int x2]) (rest := []) (en := [some (.int (mi2 24 (Int32.toNatClampNeg x1))), some (.int x2), none, none]) (by decide) pq110 ⟨rfl, rfl⟩ rfl rfl rfl rfl rfl h ?_
          rintro _ mi6 ml7 ⟨y5, rfl, h⟩
          refine sg_goto f83_52 ?_
          exact sg_iret f83_56 pq83 rfl rfl ⟨_, rfl, h⟩
      · have h := h.2 c
        refine sg_psh f83_26 (v := .int (-2)) (by decide) ?_
        exact sg_iret f83_28 pq83 rfl rfl ⟨_, rfl, h⟩

/-! X6_seats (I)I -/
theorem fe84 (pc : Nat) : gm_fetch 84 pc = gm_find pc cd_84 := rfl
theorem f84_0 : gm_fetch 84 0 = some (1, .aload_n 0, 0, 0, 0, 0) := (fe84 0).trans rfl
theorem f84_1 : gm_fetch 84 1 = some (4, .getfield 12, 76, 6, 0, 0) := (fe84 1).trans rfl
theorem f84_4 : gm_fetch 84 4 = some (5, .iload_n 1, 0, 0, 0, 0) := (fe84 4).trans rfl
theorem f84_5 : gm_fetch 84 5 = some (8, .invokevirtual 107, 34, 6, 0, 0) := (fe84 5).trans rfl
theorem f84_8 : gm_fetch 84 8 = some (11, .ifCond .eq 14, 0, 22, 0, 0) := (fe84 8).trans rfl
theorem f84_11 : gm_fetch 84 11 = some (12, .aload_n 0, 0, 0, 0, 0) := (fe84 11).trans rfl
theorem f84_12 : gm_fetch 84 12 = some (15, .getfield 21, 77, 6, 1, 0) := (fe84 12).trans rfl
theorem f84_15 : gm_fetch 84 15 = some (16, .iload_n 1, 0, 0, 0, 0) := (fe84 15).trans rfl
theorem f84_16 : gm_fetch 84 16 = some (19, .invokevirtual 179, 96, 37, 0, 0) := (fe84 16).trans rfl
theorem f84_19 : gm_fetch 84 19 = some (22, .goto 5, 0, 24, 0, 0) := (fe84 19).trans rfl
theorem f84_22 : gm_fetch 84 22 = some (24, .bipush (-2), 0, 0, 0, 0) := (fe84 22).trans rfl
theorem f84_24 : gm_fetch 84 24 = some (25, .ireturn, 0, 0, 0, 0) := (fe84 24).trans rfl
set_option maxRecDepth 10000 in
theorem rg84_0 {mi : Mi} {ml : Ml} {F : Int32 → Mi → Ml → Prop} {x1 : Int32}  (h : Sg 6 0 [some (.ref 1), some (.int x1)] [] mi ml (qi fun y1 mi2 ml3 => ((y1 = 0) → F (-2) mi2 ml3) ∧ (¬ (y1 = 0) → Sg 37 0 [some (.ref 3), some (.int x1)] [] mi2 ml3 (qi fun y4 mi5 ml6 => F y4 mi5 ml6)))) : Sg 84 0 [some (.ref 0), some (.int x1)] [] mi ml (qi F) := by
  refine sg_ld f84_0 (v := .ref 0) rfl rfl ?_
  refine sg_getr f84_1 rfl rfl (w := 1) rfl ?_
  refine sg_ld f84_4 (v := .int x1) rfl rfl ?_
  refine sg_cV f84_5 (vs := [.int x1]) (r := 1) (rest := []) (en := [some (.ref 1), some (.int x1)]) pq6 ⟨rfl, rfl⟩ rfl rfl rfl rfl rfl rfl h ?_
  rintro _ mi2 ml3 ⟨y1, rfl, h⟩
  refine sg_if f84_8 (fun c => ?_) (fun c => ?_)
  · have h := h.1 c
    refine sg_psh f84_22 (v := .int (-2)) (by decide) ?_
    exact sg_iret f84_24 pq84 rfl rfl ⟨_, rfl, h⟩
  · have h := h.2 c
    refine sg_ld f84_11 (v := .ref 0) rfl rfl ?_
    refine sg_getr f84_12 rfl rfl (w := 3) rfl ?_
    refine sg_ld f84_15 (v := .int x1) rfl rfl ?_
    refine sg_cV f84_16 (vs := [.int x1]) (r := 3) (rest := []) (en := [some (.ref 3), some (.int x1)]) pq37 ⟨rfl, rfl⟩ rfl rfl rfl rfl rfl rfl h ?_
    rintro _ mi5 ml6 ⟨y4, rfl, h⟩
    refine sg_goto f84_19 ?_
    exact sg_iret f84_24 pq84 rfl rfl ⟨_, rfl, h⟩

/-! X6_broken ()I -/
theorem fe85 (pc : Nat) : gm_fetch 85 pc = gm_find pc cd_85 := rfl
theorem f85_0 : gm_fetch 85 0 = some (1, .aload_n 0, 0, 0, 0, 0) := (fe85 0).trans rfl
theorem f85_1 : gm_fetch 85 1 = some (4, .getfield 35, 79, 6, 3, 0) := (fe85 1).trans rfl
theorem f85_4 : gm_fetch 85 4 = some (7, .getfield 54, 61, 2, 0, 0) := (fe85 4).trans rfl
theorem f85_7 : gm_fetch 85 7 = some (10, .ifCond .eq 17, 0, 24, 0, 0) := (fe85 7).trans rfl
theorem f85_10 : gm_fetch 85 10 = some (11, .aload_n 0, 0, 0, 0, 0) := (fe85 10).trans rfl
theorem f85_11 : gm_fetch 85 11 = some (14, .getfield 35, 79, 6, 3, 0) := (fe85 11).trans rfl
theorem f85_14 : gm_fetch 85 14 = some (15, .aload_n 0, 0, 0, 0, 0) := (fe85 14).trans rfl
theorem f85_15 : gm_fetch 85 15 = some (18, .getfield 12, 76, 6, 0, 0) := (fe85 15).trans rfl
theorem f85_18 : gm_fetch 85 18 = some (21, .invokevirtual 182, 99, 29, 0, 0) := (fe85 18).trans rfl
theorem f85_21 : gm_fetch 85 21 = some (24, .goto 4, 0, 25, 0, 0) := (fe85 21).trans rfl
theorem f85_24 : gm_fetch 85 24 = some (25, .iconst (-1), 0, 0, 0, 0) := (fe85 24).trans rfl
theorem f85_25 : gm_fetch 85 25 = some (26, .ireturn, 0, 0, 0, 0) := (fe85 25).trans rfl
set_option maxRecDepth 10000 in
theorem rg85_0 {mi : Mi} {ml : Ml} {F : Int32 → Mi → Ml → Prop}   (h : (((mi 23 0) = 0) → F (-1) mi ml) ∧ (¬ ((mi 23 0) = 0) → Sg 29 0 [some (.ref 23), some (.ref 1), none, none] [] mi ml (qi fun y1 mi2 ml3 => F y1 mi2 ml3))) : Sg 85 0 [some (.ref 0)] [] mi ml (qi F) := by
  refine sg_ld f85_0 (v := .ref 0) rfl rfl ?_
  refine sg_getr f85_1 rfl rfl (w := 23) rfl ?_
  refine sg_geti f85_4 rfl rfl (x := (mi 23 0)) rfl ?_
  refine sg_if f85_7 (fun c => ?_) (fun c => ?_)
  · have h := h.1 c
    refine sg_psh f85_24 (v := .int (-1)) (by decide) ?_
    exact sg_iret f85_25 pq85 rfl rfl ⟨_, rfl, h⟩
  · have h := h.2 c
    refine sg_ld f85_10 (v := .ref 0) rfl rfl ?_
    refine sg_getr f85_11 rfl rfl (w := 23) rfl ?_
    refine sg_ld f85_14 (v := .ref 0) rfl rfl ?_
    refine sg_getr f85_15 rfl rfl (w := 1) rfl ?_
    refine sg_cV f85_18 (vs := [.ref 1]) (r := 23) (rest := []) (en := [some (.ref 23), some (.ref 1), none, none]) pq29 ⟨rfl, rfl⟩ rfl rfl rfl rfl rfl rfl h ?_
    rintro _ mi2 ml3 ⟨y1, rfl, h⟩
    refine sg_goto f85_21 ?_
    exact sg_iret f85_25 pq85 rfl rfl ⟨_, rfl, h⟩

/-! X6_witness (I)I -/
theorem fe86 (pc : Nat) : gm_fetch 86 pc = gm_find pc cd_86 := rfl
theorem f86_0 : gm_fetch 86 0 = some (1, .iload_n 1, 0, 0, 0, 0) := (fe86 0).trans rfl
theorem f86_1 : gm_fetch 86 1 = some (4, .ifCond .lt 8, 0, 9, 0, 0) := (fe86 1).trans rfl
theorem f86_4 : gm_fetch 86 4 = some (5, .iload_n 1, 0, 0, 0, 0) := (fe86 4).trans rfl
theorem f86_5 : gm_fetch 86 5 = some (6, .iconst 1, 0, 0, 0, 0) := (fe86 5).trans rfl
theorem f86_6 : gm_fetch 86 6 = some (9, .if_icmp .le 6, 0, 12, 0, 0) := (fe86 6).trans rfl
theorem f86_9 : gm_fetch 86 9 = some (11, .bipush (-2), 0, 0, 0, 0) := (fe86 9).trans rfl
theorem f86_11 : gm_fetch 86 11 = some (12, .ireturn, 0, 0, 0, 0) := (fe86 11).trans rfl
theorem f86_12 : gm_fetch 86 12 = some (13, .iload_n 1, 0, 0, 0, 0) := (fe86 12).trans rfl
theorem f86_13 : gm_fetch 86 13 = some (16, .ifCond .ne 13, 0, 26, 0, 0) := (fe86 13).trans rfl
theorem f86_16 : gm_fetch 86 16 = some (17, .aload_n 0, 0, 0, 0, 0) := (fe86 16).trans rfl
theorem f86_17 : gm_fetch 86 17 = some (20, .getfield 21, 77, 6, 1, 0) := (fe86 17).trans rfl
theorem f86_20 : gm_fetch 86 20 = some (23, .invokevirtual 186, 106, 39, 0, 0) := (fe86 20).trans rfl
theorem f86_23 : gm_fetch 86 23 = some (26, .goto 10, 0, 33, 0, 0) := (fe86 23).trans rfl
theorem f86_26 : gm_fetch 86 26 = some (27, .aload_n 0, 0, 0, 0, 0) := (fe86 26).trans rfl
theorem f86_27 : gm_fetch 86 27 = some (30, .getfield 21, 77, 6, 1, 0) := (fe86 27).trans rfl
theorem f86_30 : gm_fetch 86 30 = some (33, .invokevirtual 189, 107, 40, 0, 0) := (fe86 30).trans rfl
theorem f86_33 : gm_fetch 86 33 = some (34, .ireturn, 0, 0, 0, 0) := (fe86 33).trans rfl
set_option maxRecDepth 10000 in
theorem rg86_0 {mi : Mi} {ml : Ml} {F : Int32 → Mi → Ml → Prop} {x1 : Int32}  (h : ((x1 < 0) → F (-2) mi ml) ∧ (¬ (x1 < 0) → ((x1 ≤ 1) → ((¬ x1 = 0) → Sg 40 0 [some (.ref 3)] [] mi ml (qi fun y1 mi2 ml3 => F y1 mi2 ml3)) ∧ (¬ (¬ x1 = 0) → Sg 39 0 [some (.ref 3)] [] mi ml (qi fun y4 mi5 ml6 => F y4 mi5 ml6))) ∧ (¬ (x1 ≤ 1) → F (-2) mi ml))) : Sg 86 0 [some (.ref 0), some (.int x1)] [] mi ml (qi F) := by
  refine sg_ld f86_0 (v := .int x1) rfl rfl ?_
  refine sg_if f86_1 (fun c => ?_) (fun c => ?_)
  · have h := h.1 c
    refine sg_psh f86_9 (v := .int (-2)) (by decide) ?_
    exact sg_iret f86_11 pq86 rfl rfl ⟨_, rfl, h⟩
  · have h := h.2 c
    refine sg_ld f86_4 (v := .int x1) rfl rfl ?_
    refine sg_psh f86_5 (v := .int 1) (by decide) ?_
    refine sg_icmp f86_6 (fun c => ?_) (fun c => ?_)
    · have h := h.1 c
      refine sg_ld f86_12 (v := .int x1) rfl rfl ?_
      refine sg_if f86_13 (fun c => ?_) (fun c => ?_)
      · have h := h.1 c
        refine sg_ld f86_26 (v := .ref 0) rfl rfl ?_
        refine sg_getr f86_27 rfl rfl (w := 3) rfl ?_
        refine sg_cV f86_30 (vs := []) (r := 3) (rest := []) (en := [some (.ref 3)]) pq40 ⟨rfl, rfl⟩ rfl rfl rfl rfl rfl rfl h ?_
        rintro _ mi2 ml3 ⟨y1, rfl, h⟩
        exact sg_iret f86_33 pq86 rfl rfl ⟨_, rfl, h⟩
      · have h := h.2 c
        refine sg_ld f86_16 (v := .ref 0) rfl rfl ?_
        refine sg_getr f86_17 rfl rfl (w := 3) rfl ?_
        refine sg_cV f86_20 (vs := []) (r := 3) (rest := []) (en := [some (.ref 3)]) pq39 ⟨rfl, rfl⟩ rfl rfl rfl rfl rfl rfl h ?_
        rintro _ mi5 ml6 ⟨y4, rfl, h⟩
        refine sg_goto f86_23 ?_
        exact sg_iret f86_33 pq86 rfl rfl ⟨_, rfl, h⟩
    · have h := h.2 c
      refine sg_psh f86_9 (v := .int (-2)) (by decide) ?_
      exact sg_iret f86_11 pq86 rfl rfl ⟨_, rfl, h⟩

/-! X6_core ()I -/
theorem fe87 (pc : Nat) : gm_fetch 87 pc = gm_find pc cd_87 := rfl
theorem f87_0 : gm_fetch 87 0 = some (1, .iconst 0, 0, 0, 0, 0) := (fe87 0).trans rfl
theorem f87_1 : gm_fetch 87 1 = some (2, .istore_n 1, 0, 0, 0, 0) := (fe87 1).trans rfl
theorem f87_2 : gm_fetch 87 2 = some (3, .iconst 0, 0, 0, 0, 0) := (fe87 2).trans rfl
theorem f87_3 : gm_fetch 87 3 = some (4, .istore_n 2, 0, 0, 0, 0) := (fe87 3).trans rfl
theorem f87_4 : gm_fetch 87 4 = some (5, .iload_n 2, 0, 0, 0, 0) := (fe87 4).trans rfl
theorem f87_5 : gm_fetch 87 5 = some (6, .aload_n 0, 0, 0, 0, 0) := (fe87 5).trans rfl
theorem f87_6 : gm_fetch 87 6 = some (9, .getfield 12, 76, 6, 0, 0) := (fe87 6).trans rfl
theorem f87_9 : gm_fetch 87 9 = some (12, .getfield 99, 4, 0, 0, 0) := (fe87 9).trans rfl
theorem f87_12 : gm_fetch 87 12 = some (15, .if_icmp .ge 23, 0, 35, 0, 0) := (fe87 12).trans rfl
theorem f87_15 : gm_fetch 87 15 = some (16, .iload_n 1, 0, 0, 0, 0) := (fe87 15).trans rfl
theorem f87_16 : gm_fetch 87 16 = some (17, .aload_n 0, 0, 0, 0, 0) := (fe87 16).trans rfl
theorem f87_17 : gm_fetch 87 17 = some (20, .getfield 21, 77, 6, 1, 0) := (fe87 17).trans rfl
theorem f87_20 : gm_fetch 87 20 = some (21, .iload_n 2, 0, 0, 0, 0) := (fe87 20).trans rfl
theorem f87_21 : gm_fetch 87 21 = some (24, .invokevirtual 142, 60, 41, 0, 0) := (fe87 21).trans rfl
theorem f87_24 : gm_fetch 87 24 = some (27, .invokestatic 167, 40, 194, 0, 0) := (fe87 24).trans rfl
theorem f87_27 : gm_fetch 87 27 = some (28, .iadd, 0, 0, 0, 0) := (fe87 27).trans rfl
theorem f87_28 : gm_fetch 87 28 = some (29, .istore_n 1, 0, 0, 0, 0) := (fe87 28).trans rfl
theorem f87_29 : gm_fetch 87 29 = some (32, .iinc 2 1, 0, 0, 0, 0) := (fe87 29).trans rfl
theorem f87_32 : gm_fetch 87 32 = some (35, .goto (-28), 0, 4, 0, 0) := (fe87 32).trans rfl
theorem f87_35 : gm_fetch 87 35 = some (36, .iload_n 1, 0, 0, 0, 0) := (fe87 35).trans rfl
theorem f87_36 : gm_fetch 87 36 = some (37, .ireturn, 0, 0, 0, 0) := (fe87 36).trans rfl
set_option maxRecDepth 10000 in
theorem rg87_0 {mi : Mi} {ml : Ml} {F : Int32 → Mi → Ml → Prop}   (h : Sg 87 4 [some (.ref 0), some (.int 0), some (.int 0)] [] mi ml (qi F)) : Sg 87 0 [some (.ref 0), none, none] [] mi ml (qi F) := by
  refine sg_psh f87_0 (v := .int 0) (by decide) ?_
  refine sg_st1 f87_1 (ls' := [some (.ref 0), some (.int 0), none]) rfl rfl rfl rfl ?_
  refine sg_psh f87_2 (v := .int 0) (by decide) ?_
  refine sg_st1 f87_3 (ls' := [some (.ref 0), some (.int 0), some (.int 0)]) rfl rfl rfl rfl ?_
  exact h

set_option maxRecDepth 10000 in
theorem rg87_4 {mi : Mi} {ml : Ml} {F : Int32 → Mi → Ml → Prop} {x1 : Int32} {x2 : Int32}  (h : (((mi 1 0) ≤ x2) → F x1 mi ml) ∧ (¬ ((mi 1 0) ≤ x2) → Sg 41 0 [some (.ref 3), some (.int x2)] [] mi ml (qi fun y1 mi2 ml3 => Sg 194 0 [some (.int y1)] [] mi2 ml3 (qi fun y4 mi5 ml6 => Sg 87 4 [some (.ref 0), some (.int (x1 + y4)), some (.int (x2 + 1))] [] mi5 ml6 (qi F))))) : Sg 87 4 [some (.ref 0), some (.int x1), some (.int x2)] [] mi ml (qi F) := by
  refine sg_ld f87_4 (v := .int x2) rfl rfl ?_
  refine sg_ld f87_5 (v := .ref 0) rfl rfl ?_
  refine sg_getr f87_6 rfl rfl (w := 1) rfl ?_
  refine sg_geti f87_9 rfl rfl (x := (mi 1 0)) rfl ?_
  refine sg_icmp f87_12 (fun c => ?_) (fun c => ?_)
  · have h := h.1 c
    refine sg_ld f87_35 (v := .int x1) rfl rfl ?_
    exact sg_iret f87_36 pq87 rfl rfl ⟨_, rfl, h⟩
  · have h := h.2 c
    refine sg_ld f87_15 (v := .int x1) rfl rfl ?_
    refine sg_ld f87_16 (v := .ref 0) rfl rfl ?_
    refine sg_getr f87_17 rfl rfl (w := 3) rfl ?_
    refine sg_ld f87_20 (v := .int x2) rfl rfl ?_
    refine sg_cV f87_21 (vs := [.int x2]) (r := 3) (rest := [.int x1]) (en := [some (.ref 3), some (.int x2)]) pq41 ⟨rfl, rfl⟩ rfl rfl rfl rfl rfl rfl h ?_
    rintro _ mi2 ml3 ⟨y1, rfl, h⟩
    refine sg_cS f87_24 (vs := [.int y1]) (rest := [.int x1]) (en := [some (.int y1)]) (by decide) pq194 ⟨rfl, rfl⟩ rfl rfl rfl rfl rfl h ?_
    rintro _ mi5 ml6 ⟨y4, rfl, h⟩
    refine sg_bin f87_27 rfl ?_
    refine sg_st1 f87_28 (ls' := [some (.ref 0), some (.int (x1 + y4)), some (.int x2)]) rfl rfl rfl rfl ?_
    refine sg_inc f87_29 (d := 1) (ls' := [some (.ref 0), some (.int (x1 + y4)), some (.int (x2 + 1))]) rfl (by decide) rfl ?_
    refine sg_goto f87_32 ?_
    exact h

/-! X6_critical ()I -/
theorem fe88 (pc : Nat) : gm_fetch 88 pc = gm_find pc cd_88 := rfl
theorem f88_0 : gm_fetch 88 0 = some (1, .iconst 0, 0, 0, 0, 0) := (fe88 0).trans rfl
theorem f88_1 : gm_fetch 88 1 = some (2, .istore_n 1, 0, 0, 0, 0) := (fe88 1).trans rfl
theorem f88_2 : gm_fetch 88 2 = some (3, .iconst 0, 0, 0, 0, 0) := (fe88 2).trans rfl
theorem f88_3 : gm_fetch 88 3 = some (4, .istore_n 2, 0, 0, 0, 0) := (fe88 3).trans rfl
theorem f88_4 : gm_fetch 88 4 = some (5, .iload_n 2, 0, 0, 0, 0) := (fe88 4).trans rfl
theorem f88_5 : gm_fetch 88 5 = some (6, .aload_n 0, 0, 0, 0, 0) := (fe88 5).trans rfl
theorem f88_6 : gm_fetch 88 6 = some (9, .getfield 12, 76, 6, 0, 0) := (fe88 6).trans rfl
theorem f88_9 : gm_fetch 88 9 = some (12, .getfield 99, 4, 0, 0, 0) := (fe88 9).trans rfl
theorem f88_12 : gm_fetch 88 12 = some (15, .if_icmp .ge 23, 0, 35, 0, 0) := (fe88 12).trans rfl
theorem f88_15 : gm_fetch 88 15 = some (16, .iload_n 1, 0, 0, 0, 0) := (fe88 15).trans rfl
theorem f88_16 : gm_fetch 88 16 = some (17, .aload_n 0, 0, 0, 0, 0) := (fe88 16).trans rfl
theorem f88_17 : gm_fetch 88 17 = some (20, .getfield 21, 77, 6, 1, 0) := (fe88 17).trans rfl
theorem f88_20 : gm_fetch 88 20 = some (21, .iload_n 2, 0, 0, 0, 0) := (fe88 20).trans rfl
theorem f88_21 : gm_fetch 88 21 = some (24, .invokevirtual 139, 41, 42, 0, 0) := (fe88 21).trans rfl
theorem f88_24 : gm_fetch 88 24 = some (27, .invokestatic 167, 40, 194, 0, 0) := (fe88 24).trans rfl
theorem f88_27 : gm_fetch 88 27 = some (28, .iadd, 0, 0, 0, 0) := (fe88 27).trans rfl
theorem f88_28 : gm_fetch 88 28 = some (29, .istore_n 1, 0, 0, 0, 0) := (fe88 28).trans rfl
theorem f88_29 : gm_fetch 88 29 = some (32, .iinc 2 1, 0, 0, 0, 0) := (fe88 29).trans rfl
theorem f88_32 : gm_fetch 88 32 = some (35, .goto (-28), 0, 4, 0, 0) := (fe88 32).trans rfl
theorem f88_35 : gm_fetch 88 35 = some (36, .iload_n 1, 0, 0, 0, 0) := (fe88 35).trans rfl
theorem f88_36 : gm_fetch 88 36 = some (37, .ireturn, 0, 0, 0, 0) := (fe88 36).trans rfl
set_option maxRecDepth 10000 in
theorem rg88_0 {mi : Mi} {ml : Ml} {F : Int32 → Mi → Ml → Prop}   (h : Sg 88 4 [some (.ref 0), some (.int 0), some (.int 0)] [] mi ml (qi F)) : Sg 88 0 [some (.ref 0), none, none] [] mi ml (qi F) := by
  refine sg_psh f88_0 (v := .int 0) (by decide) ?_
  refine sg_st1 f88_1 (ls' := [some (.ref 0), some (.int 0), none]) rfl rfl rfl rfl ?_
  refine sg_psh f88_2 (v := .int 0) (by decide) ?_
  refine sg_st1 f88_3 (ls' := [some (.ref 0), some (.int 0), some (.int 0)]) rfl rfl rfl rfl ?_
  exact h

set_option maxRecDepth 10000 in
theorem rg88_4 {mi : Mi} {ml : Ml} {F : Int32 → Mi → Ml → Prop} {x1 : Int32} {x2 : Int32}  (h : (((mi 1 0) ≤ x2) → F x1 mi ml) ∧ (¬ ((mi 1 0) ≤ x2) → Sg 42 0 [some (.ref 3), some (.int x2)] [] mi ml (qi fun y1 mi2 ml3 => Sg 194 0 [some (.int y1)] [] mi2 ml3 (qi fun y4 mi5 ml6 => Sg 88 4 [some (.ref 0), some (.int (x1 + y4)), some (.int (x2 + 1))] [] mi5 ml6 (qi F))))) : Sg 88 4 [some (.ref 0), some (.int x1), some (.int x2)] [] mi ml (qi F) := by
  refine sg_ld f88_4 (v := .int x2) rfl rfl ?_
  refine sg_ld f88_5 (v := .ref 0) rfl rfl ?_
  refine sg_getr f88_6 rfl rfl (w := 1) rfl ?_
  refine sg_geti f88_9 rfl rfl (x := (mi 1 0)) rfl ?_
  refine sg_icmp f88_12 (fun c => ?_) (fun c => ?_)
  · have h := h.1 c
    refine sg_ld f88_35 (v := .int x1) rfl rfl ?_
    exact sg_iret f88_36 pq88 rfl rfl ⟨_, rfl, h⟩
  · have h := h.2 c
    refine sg_ld f88_15 (v := .int x1) rfl rfl ?_
    refine sg_ld f88_16 (v := .ref 0) rfl rfl ?_
    refine sg_getr f88_17 rfl rfl (w := 3) rfl ?_
    refine sg_ld f88_20 (v := .int x2) rfl rfl ?_
    refine sg_cV f88_21 (vs := [.int x2]) (r := 3) (rest := [.int x1]) (en := [some (.ref 3), some (.int x2)]) pq42 ⟨rfl, rfl⟩ rfl rfl rfl rfl rfl rfl h ?_
    rintro _ mi2 ml3 ⟨y1, rfl, h⟩
    refine sg_cS f88_24 (vs := [.int y1]) (rest := [.int x1]) (en := [some (.int y1)]) (by decide) pq194 ⟨rfl, rfl⟩ rfl rfl rfl rfl rfl h ?_
    rintro _ mi5 ml6 ⟨y4, rfl, h⟩
    refine sg_bin f88_27 rfl ?_
    refine sg_st1 f88_28 (ls' := [some (.ref 0), some (.int (x1 + y4)), some (.int x2)]) rfl rfl rfl rfl ?_
    refine sg_inc f88_29 (d := 1) (ls' := [some (.ref 0), some (.int (x1 + y4)), some (.int (x2 + 1))]) rfl (by decide) rfl ?_
    refine sg_goto f88_32 ?_
    exact h

/-! X6_least (I)I -/
theorem fe89 (pc : Nat) : gm_fetch 89 pc = gm_find pc cd_89 := rfl
theorem f89_0 : gm_fetch 89 0 = some (1, .iload_n 1, 0, 0, 0, 0) := (fe89 0).trans rfl
theorem f89_1 : gm_fetch 89 1 = some (4, .ifCond .lt 8, 0, 9, 0, 0) := (fe89 1).trans rfl
theorem f89_4 : gm_fetch 89 4 = some (5, .iload_n 1, 0, 0, 0, 0) := (fe89 4).trans rfl
theorem f89_5 : gm_fetch 89 5 = some (6, .iconst 1, 0, 0, 0, 0) := (fe89 5).trans rfl
theorem f89_6 : gm_fetch 89 6 = some (9, .if_icmp .le 6, 0, 12, 0, 0) := (fe89 6).trans rfl
theorem f89_9 : gm_fetch 89 9 = some (11, .bipush (-2), 0, 0, 0, 0) := (fe89 9).trans rfl
theorem f89_11 : gm_fetch 89 11 = some (12, .ireturn, 0, 0, 0, 0) := (fe89 11).trans rfl
theorem f89_12 : gm_fetch 89 12 = some (13, .iload_n 1, 0, 0, 0, 0) := (fe89 12).trans rfl
theorem f89_13 : gm_fetch 89 13 = some (16, .ifCond .ne 13, 0, 26, 0, 0) := (fe89 13).trans rfl
theorem f89_16 : gm_fetch 89 16 = some (17, .aload_n 0, 0, 0, 0, 0) := (fe89 16).trans rfl
theorem f89_17 : gm_fetch 89 17 = some (20, .getfield 21, 77, 6, 1, 0) := (fe89 17).trans rfl
theorem f89_20 : gm_fetch 89 20 = some (23, .invokevirtual 192, 111, 47, 0, 0) := (fe89 20).trans rfl
theorem f89_23 : gm_fetch 89 23 = some (26, .goto 10, 0, 33, 0, 0) := (fe89 23).trans rfl
theorem f89_26 : gm_fetch 89 26 = some (27, .aload_n 0, 0, 0, 0, 0) := (fe89 26).trans rfl
theorem f89_27 : gm_fetch 89 27 = some (30, .getfield 21, 77, 6, 1, 0) := (fe89 27).trans rfl
theorem f89_30 : gm_fetch 89 30 = some (33, .invokevirtual 195, 112, 48, 0, 0) := (fe89 30).trans rfl
theorem f89_33 : gm_fetch 89 33 = some (34, .ireturn, 0, 0, 0, 0) := (fe89 33).trans rfl
set_option maxRecDepth 10000 in
theorem rg89_0 {mi : Mi} {ml : Ml} {F : Int32 → Mi → Ml → Prop} {x1 : Int32}  (h : ((x1 < 0) → F (-2) mi ml) ∧ (¬ (x1 < 0) → ((x1 ≤ 1) → ((¬ x1 = 0) → Sg 48 0 [some (.ref 3), none] [] mi ml (qi fun y1 mi2 ml3 => F y1 mi2 ml3)) ∧ (¬ (¬ x1 = 0) → Sg 47 0 [some (.ref 3), none] [] mi ml (qi fun y4 mi5 ml6 => F y4 mi5 ml6))) ∧ (¬ (x1 ≤ 1) → F (-2) mi ml))) : Sg 89 0 [some (.ref 0), some (.int x1)] [] mi ml (qi F) := by
  refine sg_ld f89_0 (v := .int x1) rfl rfl ?_
  refine sg_if f89_1 (fun c => ?_) (fun c => ?_)
  · have h := h.1 c
    refine sg_psh f89_9 (v := .int (-2)) (by decide) ?_
    exact sg_iret f89_11 pq89 rfl rfl ⟨_, rfl, h⟩
  · have h := h.2 c
    refine sg_ld f89_4 (v := .int x1) rfl rfl ?_
    refine sg_psh f89_5 (v := .int 1) (by decide) ?_
    refine sg_icmp f89_6 (fun c => ?_) (fun c => ?_)
    · have h := h.1 c
      refine sg_ld f89_12 (v := .int x1) rfl rfl ?_
      refine sg_if f89_13 (fun c => ?_) (fun c => ?_)
      · have h := h.1 c
        refine sg_ld f89_26 (v := .ref 0) rfl rfl ?_
        refine sg_getr f89_27 rfl rfl (w := 3) rfl ?_
        refine sg_cV f89_30 (vs := []) (r := 3) (rest := []) (en := [some (.ref 3), none]) pq48 ⟨rfl, rfl⟩ rfl rfl rfl rfl rfl rfl h ?_
        rintro _ mi2 ml3 ⟨y1, rfl, h⟩
        exact sg_iret f89_33 pq89 rfl rfl ⟨_, rfl, h⟩
      · have h := h.2 c
        refine sg_ld f89_16 (v := .ref 0) rfl rfl ?_
        refine sg_getr f89_17 rfl rfl (w := 3) rfl ?_
        refine sg_cV f89_20 (vs := []) (r := 3) (rest := []) (en := [some (.ref 3), none]) pq47 ⟨rfl, rfl⟩ rfl rfl rfl rfl rfl rfl h ?_
        rintro _ mi5 ml6 ⟨y4, rfl, h⟩
        refine sg_goto f89_23 ?_
        exact sg_iret f89_33 pq89 rfl rfl ⟨_, rfl, h⟩
    · have h := h.2 c
      refine sg_psh f89_9 (v := .int (-2)) (by decide) ?_
      exact sg_iret f89_11 pq89 rfl rfl ⟨_, rfl, h⟩

/-! X6_chains ()I -/
theorem fe90 (pc : Nat) : gm_fetch 90 pc = gm_find pc cd_90 := rfl
theorem f90_0 : gm_fetch 90 0 = some (1, .aload_n 0, 0, 0, 0, 0) := (fe90 0).trans rfl
theorem f90_1 : gm_fetch 90 1 = some (4, .getfield 28, 78, 6, 2, 0) := (fe90 1).trans rfl
theorem f90_4 : gm_fetch 90 4 = some (7, .invokevirtual 198, 114, 13, 0, 0) := (fe90 4).trans rfl
theorem f90_7 : gm_fetch 90 7 = some (8, .ireturn, 0, 0, 0, 0) := (fe90 7).trans rfl
set_option maxRecDepth 10000 in
theorem rg90_0 {mi : Mi} {ml : Ml} {F : Int32 → Mi → Ml → Prop}   (h : Sg 13 0 [some (.ref 18)] [] mi ml (qi fun y1 mi2 ml3 => F y1 mi2 ml3)) : Sg 90 0 [some (.ref 0)] [] mi ml (qi F) := by
  refine sg_ld f90_0 (v := .ref 0) rfl rfl ?_
  refine sg_getr f90_1 rfl rfl (w := 18) rfl ?_
  refine sg_cV f90_4 (vs := []) (r := 18) (rest := []) (en := [some (.ref 18)]) pq13 ⟨rfl, rfl⟩ rfl rfl rfl rfl rfl rfl h ?_
  rintro _ mi2 ml3 ⟨y1, rfl, h⟩
  exact sg_iret f90_7 pq90 rfl rfl ⟨_, rfl, h⟩

/-! X6_cut ()J -/
theorem fe91 (pc : Nat) : gm_fetch 91 pc = gm_find pc cd_91 := rfl
theorem f91_0 : gm_fetch 91 0 = some (1, .aload_n 0, 0, 0, 0, 0) := (fe91 0).trans rfl
theorem f91_1 : gm_fetch 91 1 = some (4, .getfield 28, 78, 6, 2, 0) := (fe91 1).trans rfl
theorem f91_4 : gm_fetch 91 4 = some (7, .invokevirtual 145, 61, 14, 0, 0) := (fe91 4).trans rfl
theorem f91_7 : gm_fetch 91 7 = some (8, .lreturn, 0, 0, 0, 0) := (fe91 7).trans rfl
set_option maxRecDepth 10000 in
theorem rg91_0 {mi : Mi} {ml : Ml} {F : Int64 → Mi → Ml → Prop}   (h : Sg 14 0 [some (.ref 18)] [] mi ml (ql fun y1 mi2 ml3 => F y1 mi2 ml3)) : Sg 91 0 [some (.ref 0)] [] mi ml (ql F) := by
  refine sg_ld f91_0 (v := .ref 0) rfl rfl ?_
  refine sg_getr f91_1 rfl rfl (w := 18) rfl ?_
  refine sg_cV f91_4 (vs := []) (r := 18) (rest := []) (en := [some (.ref 18)]) pq14 ⟨rfl, rfl⟩ rfl rfl rfl rfl rfl rfl h ?_
  rintro _ mi2 ml3 ⟨y1, rfl, h⟩
  exact sg_lret f91_7 pq91 rfl ⟨_, rfl, h⟩

/-! X6_keep (I)I -/
theorem fe92 (pc : Nat) : gm_fetch 92 pc = gm_find pc cd_92 := rfl
theorem f92_0 : gm_fetch 92 0 = some (1, .aload_n 0, 0, 0, 0, 0) := (fe92 0).trans rfl
theorem f92_1 : gm_fetch 92 1 = some (2, .iload_n 1, 0, 0, 0, 0) := (fe92 1).trans rfl
theorem f92_2 : gm_fetch 92 2 = some (5, .invokevirtual 201, 117, 105, 0, 0) := (fe92 2).trans rfl
theorem f92_5 : gm_fetch 92 5 = some (6, .astore_n 2, 0, 0, 0, 0) := (fe92 5).trans rfl
theorem f92_6 : gm_fetch 92 6 = some (7, .aload_n 2, 0, 0, 0, 0) := (fe92 6).trans rfl
theorem f92_7 : gm_fetch 92 7 = some (10, .ifnonnull 9, 0, 16, 0, 0) := (fe92 7).trans rfl
theorem f92_10 : gm_fetch 92 10 = some (11, .aload_n 0, 0, 0, 0, 0) := (fe92 10).trans rfl
theorem f92_11 : gm_fetch 92 11 = some (12, .iconst 2, 0, 0, 0, 0) := (fe92 11).trans rfl
theorem f92_12 : gm_fetch 92 12 = some (15, .invokevirtual 114, 35, 104, 0, 0) := (fe92 12).trans rfl
theorem f92_15 : gm_fetch 92 15 = some (16, .ireturn, 0, 0, 0, 0) := (fe92 15).trans rfl
theorem f92_16 : gm_fetch 92 16 = some (17, .aload_n 0, 0, 0, 0, 0) := (fe92 16).trans rfl
theorem f92_17 : gm_fetch 92 17 = some (20, .getfield 35, 79, 6, 3, 0) := (fe92 17).trans rfl
theorem f92_20 : gm_fetch 92 20 = some (23, .getfield 54, 61, 2, 0, 0) := (fe92 20).trans rfl
theorem f92_23 : gm_fetch 92 23 = some (26, .ifCond .ne 6, 0, 29, 0, 0) := (fe92 23).trans rfl
theorem f92_26 : gm_fetch 92 26 = some (28, .bipush (-3), 0, 0, 0, 0) := (fe92 26).trans rfl
theorem f92_28 : gm_fetch 92 28 = some (29, .ireturn, 0, 0, 0, 0) := (fe92 28).trans rfl
theorem f92_29 : gm_fetch 92 29 = some (30, .aload_n 2, 0, 0, 0, 0) := (fe92 29).trans rfl
theorem f92_30 : gm_fetch 92 30 = some (31, .aload_n 0, 0, 0, 0, 0) := (fe92 30).trans rfl
theorem f92_31 : gm_fetch 92 31 = some (34, .getfield 35, 79, 6, 3, 0) := (fe92 31).trans rfl
theorem f92_34 : gm_fetch 92 34 = some (37, .invokevirtual 205, 118, 25, 0, 0) := (fe92 34).trans rfl
theorem f92_37 : gm_fetch 92 37 = some (38, .aload_n 0, 0, 0, 0, 0) := (fe92 37).trans rfl
theorem f92_38 : gm_fetch 92 38 = some (41, .invokevirtual 208, 120, 107, 0, 0) := (fe92 38).trans rfl
theorem f92_41 : gm_fetch 92 41 = some (42, .ireturn, 0, 0, 0, 0) := (fe92 41).trans rfl
set_option maxRecDepth 10000 in
theorem rg92_0 {mi : Mi} {ml : Ml} {F : Int32 → Mi → Ml → Prop} {x1 : Int32}  (h : Sg 105 0 [some (.ref 0), some (.int x1)] [] mi ml (qr fun y1 mi2 ml3 => ((y1 = none) → Sg 104 0 [some (.ref 0), some (.int 2)] [] mi2 ml3 (qi fun y5 mi6 ml7 => F y5 mi6 ml7)) ∧ (∀ r4 : Nat, y1 = some r4 → isY r4 ∧ (((¬ (mi2 23 0) = 0) → Sg 25 0 [some (.ref r4), some (.ref 23)] [] mi2 ml3 (qv fun mi9 ml10 => Sg 107 0 [some (.ref 0), none, none] [] mi9 ml10 (qi fun y11 mi12 ml13 => F y11 mi12 ml13))) ∧ (¬ (¬ (mi2 23 0) = 0) → F (-3) mi2 ml3))))) : Sg 92 0 [some (.ref 0), some (.int x1), none] [] mi ml (qi F) := by
  refine sg_ld f92_0 (v := .ref 0) rfl rfl ?_
  refine sg_ld f92_1 (v := .int x1) rfl rfl ?_
  refine sg_cV f92_2 (vs := [.int x1]) (r := 0) (rest := []) (en := [some (.ref 0), some (.int x1)]) pq105 ⟨rfl, rfl⟩ rfl rfl rfl rfl rfl rfl h ?_
  rintro _ mi2 ml3 ⟨y1, rfl, h⟩
  refine sg_sto f92_5 (ls' := [some (.ref 0), some (.int x1), some (gm_ov y1)]) rfl rfl rfl ?_
  refine sg_ldo f92_6 rfl rfl ?_
  cases y1 with
  | none =>
    have h := h.1 rfl
    refine sg_ifnnN f92_7 ?_
    refine sg_ld f92_10 (v := .ref 0) rfl rfl ?_
    refine sg_psh f92_11 (v := .int 2) (by decide) ?_
    refine sg_cV f92_12 (vs := [.int 2]) (r := 0) (rest := []) (en := [some (.ref 0), some (.int 2)]) pq104 ⟨rfl, rfl⟩ rfl rfl rfl rfl rfl rfl h ?_
    rintro _ mi6 ml7 ⟨y5, rfl, h⟩
    exact sg_iret f92_15 pq92 rfl rfl ⟨_, rfl, h⟩
  | some r4 =>
    obtain ⟨hr4, h⟩ := h.2 r4 rfl
    refine sg_ifnn f92_7 ?_
    refine sg_ld f92_16 (v := .ref 0) rfl rfl ?_
    refine sg_getr f92_17 rfl rfl (w := 23) rfl ?_
    refine sg_geti f92_20 rfl rfl (x := (mi2 23 0)) rfl ?_
    refine sg_if f92_23 (fun c => ?_) (fun c => ?_)
    · have h := h.1 c
      refine sg_ld f92_29 (v := .ref r4) rfl rfl ?_
      refine sg_ld f92_30 (v := .ref 0) rfl rfl ?_
      refine sg_getr f92_31 rfl rfl (w := 23) rfl ?_
      refine sg_cV f92_34 (vs := [.ref 23]) (r := r4) (rest := []) (en := [some (.ref r4), some (.ref 23)]) pq25 ⟨rfl, rfl⟩ rfl hr4.1 rfl rfl rfl rfl h ?_
      intro _ mi9 ml10 h
      have h := gm_qv h
      refine sg_ld f92_37 (v := .ref 0) rfl rfl ?_
      refine sg_cV f92_38 (vs := []) (r := 0) (rest := []) (en := [some (.ref 0), none, none]) pq107 ⟨rfl, rfl⟩ rfl rfl rfl rfl rfl rfl h ?_
      rintro _ mi12 ml13 ⟨y11, rfl, h⟩
      exact sg_iret f92_41 pq92 rfl rfl ⟨_, rfl, h⟩
    · have h := h.2 c
      refine sg_psh f92_26 (v := .int (-3)) (by decide) ?_
      exact sg_iret f92_28 pq92 rfl rfl ⟨_, rfl, h⟩

/-! X6_go (I)I -/
theorem fe93 (pc : Nat) : gm_fetch 93 pc = gm_find pc cd_93 := rfl
theorem f93_0 : gm_fetch 93 0 = some (1, .aload_n 0, 0, 0, 0, 0) := (fe93 0).trans rfl
theorem f93_1 : gm_fetch 93 1 = some (2, .iload_n 1, 0, 0, 0, 0) := (fe93 1).trans rfl
theorem f93_2 : gm_fetch 93 2 = some (5, .invokevirtual 201, 117, 105, 0, 0) := (fe93 2).trans rfl
theorem f93_5 : gm_fetch 93 5 = some (6, .astore_n 2, 0, 0, 0, 0) := (fe93 5).trans rfl
theorem f93_6 : gm_fetch 93 6 = some (7, .aload_n 2, 0, 0, 0, 0) := (fe93 6).trans rfl
theorem f93_7 : gm_fetch 93 7 = some (10, .ifnonnull 9, 0, 16, 0, 0) := (fe93 7).trans rfl
theorem f93_10 : gm_fetch 93 10 = some (11, .aload_n 0, 0, 0, 0, 0) := (fe93 10).trans rfl
theorem f93_11 : gm_fetch 93 11 = some (12, .iconst 2, 0, 0, 0, 0) := (fe93 11).trans rfl
theorem f93_12 : gm_fetch 93 12 = some (15, .invokevirtual 114, 35, 104, 0, 0) := (fe93 12).trans rfl
theorem f93_15 : gm_fetch 93 15 = some (16, .ireturn, 0, 0, 0, 0) := (fe93 15).trans rfl
theorem f93_16 : gm_fetch 93 16 = some (17, .aload_n 2, 0, 0, 0, 0) := (fe93 16).trans rfl
theorem f93_17 : gm_fetch 93 17 = some (20, .getfield 54, 61, 2, 0, 0) := (fe93 17).trans rfl
theorem f93_20 : gm_fetch 93 20 = some (23, .ifCond .ne 9, 0, 29, 0, 0) := (fe93 20).trans rfl
theorem f93_23 : gm_fetch 93 23 = some (24, .aload_n 0, 0, 0, 0, 0) := (fe93 23).trans rfl
theorem f93_24 : gm_fetch 93 24 = some (25, .iconst 1, 0, 0, 0, 0) := (fe93 24).trans rfl
theorem f93_25 : gm_fetch 93 25 = some (28, .invokevirtual 114, 35, 104, 0, 0) := (fe93 25).trans rfl
theorem f93_28 : gm_fetch 93 28 = some (29, .ireturn, 0, 0, 0, 0) := (fe93 28).trans rfl
theorem f93_29 : gm_fetch 93 29 = some (30, .aload_n 2, 0, 0, 0, 0) := (fe93 29).trans rfl
theorem f93_30 : gm_fetch 93 30 = some (31, .aload_n 0, 0, 0, 0, 0) := (fe93 30).trans rfl
theorem f93_31 : gm_fetch 93 31 = some (34, .getfield 12, 76, 6, 0, 0) := (fe93 31).trans rfl
theorem f93_34 : gm_fetch 93 34 = some (37, .invokevirtual 211, 122, 27, 0, 0) := (fe93 34).trans rfl
theorem f93_37 : gm_fetch 93 37 = some (40, .ifCond .ne 6, 0, 43, 0, 0) := (fe93 37).trans rfl
theorem f93_40 : gm_fetch 93 40 = some (42, .bipush (-3), 0, 0, 0, 0) := (fe93 40).trans rfl
theorem f93_42 : gm_fetch 93 42 = some (43, .ireturn, 0, 0, 0, 0) := (fe93 42).trans rfl
theorem f93_43 : gm_fetch 93 43 = some (44, .aload_n 0, 0, 0, 0, 0) := (fe93 43).trans rfl
theorem f93_44 : gm_fetch 93 44 = some (47, .getfield 35, 79, 6, 3, 0) := (fe93 44).trans rfl
theorem f93_47 : gm_fetch 93 47 = some (48, .aload_n 2, 0, 0, 0, 0) := (fe93 47).trans rfl
theorem f93_48 : gm_fetch 93 48 = some (51, .invokevirtual 205, 118, 25, 0, 0) := (fe93 48).trans rfl
theorem f93_51 : gm_fetch 93 51 = some (52, .aload_n 0, 0, 0, 0, 0) := (fe93 51).trans rfl
theorem f93_52 : gm_fetch 93 52 = some (55, .getfield 35, 79, 6, 3, 0) := (fe93 52).trans rfl
theorem f93_55 : gm_fetch 93 55 = some (56, .aload_n 0, 0, 0, 0, 0) := (fe93 55).trans rfl
theorem f93_56 : gm_fetch 93 56 = some (59, .getfield 12, 76, 6, 0, 0) := (fe93 56).trans rfl
theorem f93_59 : gm_fetch 93 59 = some (62, .invokevirtual 182, 99, 29, 0, 0) := (fe93 59).trans rfl
theorem f93_62 : gm_fetch 93 62 = some (63, .ireturn, 0, 0, 0, 0) := (fe93 62).trans rfl
set_option maxRecDepth 10000 in
theorem rg93_0 {mi : Mi} {ml : Ml} {F : Int32 → Mi → Ml → Prop} {x1 : Int32}  (h : Sg 105 0 [some (.ref 0), some (.int x1)] [] mi ml (qr fun y1 mi2 ml3 => ((y1 = none) → Sg 104 0 [some (.ref 0), some (.int 2)] [] mi2 ml3 (qi fun y5 mi6 ml7 => F y5 mi6 ml7)) ∧ (∀ r4 : Nat, y1 = some r4 → isY r4 ∧ (((¬ (mi2 r4 0) = 0) → Sg 27 0 [some (.ref r4), some (.ref 1)] [] mi2 ml3 (qi fun y8 mi9 ml10 => ((¬ y8 = 0) → Sg 25 0 [some (.ref 23), some (.ref r4)] [] mi9 ml10 (qv fun mi12 ml13 => Sg 29 0 [some (.ref 23), some (.ref 1), none, none] [] mi12 ml13 (qi fun y14 mi15 ml16 => F y14 mi15 ml16))) ∧ (¬ (¬ y8 = 0) → F (-3) mi9 ml10))) ∧ (¬ (¬ (mi2 r4 0) = 0) → Sg 104 0 [some (.ref 0), some (.int 1)] [] mi2 ml3 (qi fun y17 mi18 ml19 => F y17 mi18 ml19)))))) : Sg 93 0 [some (.ref 0), some (.int x1), none] [] mi ml (qi F) := by
  refine sg_ld f93_0 (v := .ref 0) rfl rfl ?_
  refine sg_ld f93_1 (v := .int x1) rfl rfl ?_
  refine sg_cV f93_2 (vs := [.int x1]) (r := 0) (rest := []) (en := [some (.ref 0), some (.int x1)]) pq105 ⟨rfl, rfl⟩ rfl rfl rfl rfl rfl rfl h ?_
  rintro _ mi2 ml3 ⟨y1, rfl, h⟩
  refine sg_sto f93_5 (ls' := [some (.ref 0), some (.int x1), some (gm_ov y1)]) rfl rfl rfl ?_
  refine sg_ldo f93_6 rfl rfl ?_
  cases y1 with
  | none =>
    have h := h.1 rfl
    refine sg_ifnnN f93_7 ?_
    refine sg_ld f93_10 (v := .ref 0) rfl rfl ?_
    refine sg_psh f93_11 (v := .int 2) (by decide) ?_
    refine sg_cV f93_12 (vs := [.int 2]) (r := 0) (rest := []) (en := [some (.ref 0), some (.int 2)]) pq104 ⟨rfl, rfl⟩ rfl rfl rfl rfl rfl rfl h ?_
    rintro _ mi6 ml7 ⟨y5, rfl, h⟩
    exact sg_iret f93_15 pq93 rfl rfl ⟨_, rfl, h⟩
  | some r4 =>
    obtain ⟨hr4, h⟩ := h.2 r4 rfl
    refine sg_ifnn f93_7 ?_
    refine sg_ld f93_16 (v := .ref r4) rfl rfl ?_
    refine sg_geti f93_17 hr4.1 rfl (x := (mi2 r4 0)) rfl ?_
    refine sg_if f93_20 (fun c => ?_) (fun c => ?_)
    · have h := h.1 c
      refine sg_ld f93_29 (v := .ref r4) rfl rfl ?_
      refine sg_ld f93_30 (v := .ref 0) rfl rfl ?_
      refine sg_getr f93_31 rfl rfl (w := 1) rfl ?_
      refine sg_cV f93_34 (vs := [.ref 1]) (r := r4) (rest := []) (en := [some (.ref r4), some (.ref 1)]) pq27 ⟨rfl, rfl⟩ rfl hr4.1 rfl rfl rfl rfl h ?_
      rintro _ mi9 ml10 ⟨y8, rfl, h⟩
      refine sg_if f93_37 (fun c => ?_) (fun c => ?_)
      · have h := h.1 c
        refine sg_ld f93_43 (v := .ref 0) rfl rfl ?_
        refine sg_getr f93_44 rfl rfl (w := 23) rfl ?_
        refine sg_ld f93_47 (v := .ref r4) rfl rfl ?_
        refine sg_cV f93_48 (vs := [.ref r4]) (r := 23) (rest := []) (en := [some (.ref 23), some (.ref r4)]) pq25 ⟨rfl, rfl⟩ rfl rfl rfl rfl rfl rfl h ?_
        intro _ mi12 ml13 h
        have h := gm_qv h
        refine sg_ld f93_51 (v := .ref 0) rfl rfl ?_
        refine sg_getr f93_52 rfl rfl (w := 23) rfl ?_
        refine sg_ld f93_55 (v := .ref 0) rfl rfl ?_
        refine sg_getr f93_56 rfl rfl (w := 1) rfl ?_
        refine sg_cV f93_59 (vs := [.ref 1]) (r := 23) (rest := []) (en := [some (.ref 23), some (.ref 1), none, none]) pq29 ⟨rfl, rfl⟩ rfl rfl rfl rfl rfl rfl h ?_
        rintro _ mi15 ml16 ⟨y14, rfl, h⟩
        exact sg_iret f93_62 pq93 rfl rfl ⟨_, rfl, h⟩
      · have h := h.2 c
        refine sg_psh f93_40 (v := .int (-3)) (by decide) ?_
        exact sg_iret f93_42 pq93 rfl rfl ⟨_, rfl, h⟩
    · have h := h.2 c
      refine sg_ld f93_23 (v := .ref 0) rfl rfl ?_
      refine sg_psh f93_24 (v := .int 1) (by decide) ?_
      refine sg_cV f93_25 (vs := [.int 1]) (r := 0) (rest := []) (en := [some (.ref 0), some (.int 1)]) pq104 ⟨rfl, rfl⟩ rfl rfl rfl rfl rfl rfl h ?_
      rintro _ mi18 ml19 ⟨y17, rfl, h⟩
      exact sg_iret f93_28 pq93 rfl rfl ⟨_, rfl, h⟩

/-! X6_differ (I)I -/
theorem fe94 (pc : Nat) : gm_fetch 94 pc = gm_find pc cd_94 := rfl
theorem f94_0 : gm_fetch 94 0 = some (1, .aload_n 0, 0, 0, 0, 0) := (fe94 0).trans rfl
theorem f94_1 : gm_fetch 94 1 = some (2, .iload_n 1, 0, 0, 0, 0) := (fe94 1).trans rfl
theorem f94_2 : gm_fetch 94 2 = some (5, .invokevirtual 201, 117, 105, 0, 0) := (fe94 2).trans rfl
theorem f94_5 : gm_fetch 94 5 = some (6, .astore_n 2, 0, 0, 0, 0) := (fe94 5).trans rfl
theorem f94_6 : gm_fetch 94 6 = some (7, .aload_n 2, 0, 0, 0, 0) := (fe94 6).trans rfl
theorem f94_7 : gm_fetch 94 7 = some (10, .ifnonnull 9, 0, 16, 0, 0) := (fe94 7).trans rfl
theorem f94_10 : gm_fetch 94 10 = some (11, .aload_n 0, 0, 0, 0, 0) := (fe94 10).trans rfl
theorem f94_11 : gm_fetch 94 11 = some (12, .iconst 2, 0, 0, 0, 0) := (fe94 11).trans rfl
theorem f94_12 : gm_fetch 94 12 = some (15, .invokevirtual 114, 35, 104, 0, 0) := (fe94 12).trans rfl
theorem f94_15 : gm_fetch 94 15 = some (16, .ireturn, 0, 0, 0, 0) := (fe94 15).trans rfl
theorem f94_16 : gm_fetch 94 16 = some (17, .aload_n 2, 0, 0, 0, 0) := (fe94 16).trans rfl
theorem f94_17 : gm_fetch 94 17 = some (20, .getfield 54, 61, 2, 0, 0) := (fe94 17).trans rfl
theorem f94_20 : gm_fetch 94 20 = some (23, .ifCond .ne 9, 0, 29, 0, 0) := (fe94 20).trans rfl
theorem f94_23 : gm_fetch 94 23 = some (24, .aload_n 0, 0, 0, 0, 0) := (fe94 23).trans rfl
theorem f94_24 : gm_fetch 94 24 = some (25, .iconst 1, 0, 0, 0, 0) := (fe94 24).trans rfl
theorem f94_25 : gm_fetch 94 25 = some (28, .invokevirtual 114, 35, 104, 0, 0) := (fe94 25).trans rfl
theorem f94_28 : gm_fetch 94 28 = some (29, .ireturn, 0, 0, 0, 0) := (fe94 28).trans rfl
theorem f94_29 : gm_fetch 94 29 = some (30, .aload_n 2, 0, 0, 0, 0) := (fe94 29).trans rfl
theorem f94_30 : gm_fetch 94 30 = some (31, .aload_n 0, 0, 0, 0, 0) := (fe94 30).trans rfl
theorem f94_31 : gm_fetch 94 31 = some (34, .getfield 12, 76, 6, 0, 0) := (fe94 31).trans rfl
theorem f94_34 : gm_fetch 94 34 = some (37, .invokevirtual 211, 122, 27, 0, 0) := (fe94 34).trans rfl
theorem f94_37 : gm_fetch 94 37 = some (40, .ifCond .ne 6, 0, 43, 0, 0) := (fe94 37).trans rfl
theorem f94_40 : gm_fetch 94 40 = some (42, .bipush (-3), 0, 0, 0, 0) := (fe94 40).trans rfl
theorem f94_42 : gm_fetch 94 42 = some (43, .ireturn, 0, 0, 0, 0) := (fe94 42).trans rfl
theorem f94_43 : gm_fetch 94 43 = some (44, .iconst 0, 0, 0, 0, 0) := (fe94 43).trans rfl
theorem f94_44 : gm_fetch 94 44 = some (45, .istore_n 3, 0, 0, 0, 0) := (fe94 44).trans rfl
theorem f94_45 : gm_fetch 94 45 = some (46, .iconst 0, 0, 0, 0, 0) := (fe94 45).trans rfl
theorem f94_46 : gm_fetch 94 46 = some (48, .istore 4, 0, 0, 0, 0) := (fe94 46).trans rfl
theorem f94_48 : gm_fetch 94 48 = some (50, .iload 4, 0, 0, 0, 0) := (fe94 48).trans rfl
theorem f94_50 : gm_fetch 94 50 = some (51, .aload_n 0, 0, 0, 0, 0) := (fe94 50).trans rfl
theorem f94_51 : gm_fetch 94 51 = some (54, .getfield 12, 76, 6, 0, 0) := (fe94 51).trans rfl
theorem f94_54 : gm_fetch 94 54 = some (57, .getfield 99, 4, 0, 0, 0) := (fe94 54).trans rfl
theorem f94_57 : gm_fetch 94 57 = some (60, .if_icmp .ge 45, 0, 102, 0, 0) := (fe94 57).trans rfl
theorem f94_60 : gm_fetch 94 60 = some (61, .iload_n 3, 0, 0, 0, 0) := (fe94 60).trans rfl
theorem f94_61 : gm_fetch 94 61 = some (62, .aload_n 0, 0, 0, 0, 0) := (fe94 61).trans rfl
theorem f94_62 : gm_fetch 94 62 = some (65, .getfield 35, 79, 6, 3, 0) := (fe94 62).trans rfl
theorem f94_65 : gm_fetch 94 65 = some (67, .iload 4, 0, 0, 0, 0) := (fe94 65).trans rfl
theorem f94_67 : gm_fetch 94 67 = some (68, .aload_n 0, 0, 0, 0, 0) := (fe94 67).trans rfl
theorem f94_68 : gm_fetch 94 68 = some (71, .getfield 12, 76, 6, 0, 0) := (fe94 68).trans rfl
theorem f94_71 : gm_fetch 94 71 = some (74, .getfield 66, 12, 0, 2, 0) := (fe94 71).trans rfl
theorem f94_74 : gm_fetch 94 74 = some (77, .invokevirtual 215, 124, 28, 0, 0) := (fe94 74).trans rfl
theorem f94_77 : gm_fetch 94 77 = some (78, .aload_n 2, 0, 0, 0, 0) := (fe94 77).trans rfl
theorem f94_78 : gm_fetch 94 78 = some (81, .getfield 133, 66, 2, 4, 0) := (fe94 78).trans rfl
theorem f94_81 : gm_fetch 94 81 = some (83, .iload 4, 0, 0, 0, 0) := (fe94 81).trans rfl
theorem f94_83 : gm_fetch 94 83 = some (84, .iaload, 0, 0, 0, 0) := (fe94 83).trans rfl
theorem f94_84 : gm_fetch 94 84 = some (85, .aload_n 0, 0, 0, 0, 0) := (fe94 84).trans rfl
theorem f94_85 : gm_fetch 94 85 = some (88, .getfield 12, 76, 6, 0, 0) := (fe94 85).trans rfl
theorem f94_88 : gm_fetch 94 88 = some (91, .getfield 66, 12, 0, 2, 0) := (fe94 88).trans rfl
theorem f94_91 : gm_fetch 94 91 = some (94, .invokestatic 172, 92, 112, 0, 0) := (fe94 91).trans rfl
theorem f94_94 : gm_fetch 94 94 = some (95, .iadd, 0, 0, 0, 0) := (fe94 94).trans rfl
theorem f94_95 : gm_fetch 94 95 = some (96, .istore_n 3, 0, 0, 0, 0) := (fe94 95).trans rfl
theorem f94_96 : gm_fetch 94 96 = some (99, .iinc 4 1, 0, 0, 0, 0) := (fe94 96).trans rfl
theorem f94_99 : gm_fetch 94 99 = some (102, .goto (-51), 0, 48, 0, 0) := (fe94 99).trans rfl
theorem f94_102 : gm_fetch 94 102 = some (103, .iload_n 3, 0, 0, 0, 0) := (fe94 102).trans rfl
theorem f94_103 : gm_fetch 94 103 = some (104, .ireturn, 0, 0, 0, 0) := (fe94 103).trans rfl
set_option maxRecDepth 10000 in
theorem rg94_0 {mi : Mi} {ml : Ml} {F : Int32 → Mi → Ml → Prop} {x1 : Int32}  (h : Sg 105 0 [some (.ref 0), some (.int x1)] [] mi ml (qr fun y1 mi2 ml3 => ((y1 = none) → Sg 104 0 [some (.ref 0), some (.int 2)] [] mi2 ml3 (qi fun y5 mi6 ml7 => F y5 mi6 ml7)) ∧ (∀ r4 : Nat, y1 = some r4 → isY r4 ∧ (((¬ (mi2 r4 0) = 0) → Sg 27 0 [some (.ref r4), some (.ref 1)] [] mi2 ml3 (qi fun y8 mi9 ml10 => ((¬ y8 = 0) → Sg 94 48 [some (.ref 0), some (.int x1), some (.ref r4), some (.int 0), some (.int 0)] [] mi9 ml10 (qi F)) ∧ (¬ (¬ y8 = 0) → F (-3) mi9 ml10))) ∧ (¬ (¬ (mi2 r4 0) = 0) → Sg 104 0 [some (.ref 0), some (.int 1)] [] mi2 ml3 (qi fun y11 mi12 ml13 => F y11 mi12 ml13)))))) : Sg 94 0 [some (.ref 0), some (.int x1), none, none, none] [] mi ml (qi F) := by
  refine sg_ld f94_0 (v := .ref 0) rfl rfl ?_
  refine sg_ld f94_1 (v := .int x1) rfl rfl ?_
  refine sg_cV f94_2 (vs := [.int x1]) (r := 0) (rest := []) (en := [some (.ref 0), some (.int x1)]) pq105 ⟨rfl, rfl⟩ rfl rfl rfl rfl rfl rfl h ?_
  rintro _ mi2 ml3 ⟨y1, rfl, h⟩
  refine sg_sto f94_5 (ls' := [some (.ref 0), some (.int x1), some (gm_ov y1), none, none]) rfl rfl rfl ?_
  refine sg_ldo f94_6 rfl rfl ?_
  cases y1 with
  | none =>
    have h := h.1 rfl
    refine sg_ifnnN f94_7 ?_
    refine sg_ld f94_10 (v := .ref 0) rfl rfl ?_
    refine sg_psh f94_11 (v := .int 2) (by decide) ?_
    refine sg_cV f94_12 (vs := [.int 2]) (r := 0) (rest := []) (en := [some (.ref 0), some (.int 2)]) pq104 ⟨rfl, rfl⟩ rfl rfl rfl rfl rfl rfl h ?_
    rintro _ mi6 ml7 ⟨y5, rfl, h⟩
    exact sg_iret f94_15 pq94 rfl rfl ⟨_, rfl, h⟩
  | some r4 =>
    obtain ⟨hr4, h⟩ := h.2 r4 rfl
    refine sg_ifnn f94_7 ?_
    refine sg_ld f94_16 (v := .ref r4) rfl rfl ?_
    refine sg_geti f94_17 hr4.1 rfl (x := (mi2 r4 0)) rfl ?_
    refine sg_if f94_20 (fun c => ?_) (fun c => ?_)
    · have h := h.1 c
      refine sg_ld f94_29 (v := .ref r4) rfl rfl ?_
      refine sg_ld f94_30 (v := .ref 0) rfl rfl ?_
      refine sg_getr f94_31 rfl rfl (w := 1) rfl ?_
      refine sg_cV f94_34 (vs := [.ref 1]) (r := r4) (rest := []) (en := [some (.ref r4), some (.ref 1)]) pq27 ⟨rfl, rfl⟩ rfl hr4.1 rfl rfl rfl rfl h ?_
      rintro _ mi9 ml10 ⟨y8, rfl, h⟩
      refine sg_if f94_37 (fun c => ?_) (fun c => ?_)
      · have h := h.1 c
        refine sg_psh f94_43 (v := .int 0) (by decide) ?_
        refine sg_st1 f94_44 (ls' := [some (.ref 0), some (.int x1), some (.ref r4), some (.int 0), none]) rfl rfl rfl rfl ?_
        refine sg_psh f94_45 (v := .int 0) (by decide) ?_
        refine sg_st1 f94_46 (ls' := [some (.ref 0), some (.int x1), some (.ref r4), some (.int 0), some (.int 0)]) rfl rfl rfl rfl ?_
        exact h
      · have h := h.2 c
        refine sg_psh f94_40 (v := .int (-3)) (by decide) ?_
        exact sg_iret f94_42 pq94 rfl rfl ⟨_, rfl, h⟩
    · have h := h.2 c
      refine sg_ld f94_23 (v := .ref 0) rfl rfl ?_
      refine sg_psh f94_24 (v := .int 1) (by decide) ?_
      refine sg_cV f94_25 (vs := [.int 1]) (r := 0) (rest := []) (en := [some (.ref 0), some (.int 1)]) pq104 ⟨rfl, rfl⟩ rfl rfl rfl rfl rfl rfl h ?_
      rintro _ mi12 ml13 ⟨y11, rfl, h⟩
      exact sg_iret f94_28 pq94 rfl rfl ⟨_, rfl, h⟩

set_option maxRecDepth 10000 in
theorem rg94_48 {mi : Mi} {ml : Ml} {F : Int32 → Mi → Ml → Prop} {x1 : Int32} {rx2 : Nat} {x3 : Int32} {x4 : Int32} (hrx2 : isY rx2) (h : (((mi 1 0) ≤ x4) → F x3 mi ml) ∧ (¬ ((mi 1 0) ≤ x4) → Sg 28 0 [some (.ref 23), some (.int x4), some (.int (mi 1 2))] [] mi ml (qi fun y1 mi2 ml3 => (vp_in x4 7) ∧ (Sg 112 0 [some (.int y1), some (.int (mi2 (rx2 + 1) (Int32.toNatClampNeg x4))), some (.int (mi2 1 2)), none, none] [] mi2 ml3 (qi fun y5 mi6 ml7 => Sg 94 48 [some (.ref 0), some (.int x1), some (.ref rx2), some (.int (x3 + y5)), some (.int (x4 + 1))] [] mi6 ml7 (qi F)))))) : Sg 94 48 [some (.ref 0), some (.int x1), some (.ref rx2), some (.int x3), some (.int x4)] [] mi ml (qi F) := by
  refine sg_ld f94_48 (v := .int x4) rfl rfl ?_
  refine sg_ld f94_50 (v := .ref 0) rfl rfl ?_
  refine sg_getr f94_51 rfl rfl (w := 1) rfl ?_
  refine sg_geti f94_54 rfl rfl (x := (mi 1 0)) rfl ?_
  refine sg_icmp f94_57 (fun c => ?_) (fun c => ?_)
  · have h := h.1 c
    refine sg_ld f94_102 (v := .int x3) rfl rfl ?_
    exact sg_iret f94_103 pq94 rfl rfl ⟨_, rfl, h⟩
  · have h := h.2 c
    refine sg_ld f94_60 (v := .int x3) rfl rfl ?_
    refine sg_ld f94_61 (v := .ref 0) rfl rfl ?_
    refine sg_getr f94_62 rfl rfl (w := 23) rfl ?_
    refine sg_ld f94_65 (v := .int x4) rfl rfl ?_
    refine sg_ld f94_67 (v := .ref 0) rfl rfl ?_
    refine sg_getr f94_68 rfl rfl (w := 1) rfl ?_
    refine sg_geti f94_71 rfl rfl (x := (mi 1 2)) rfl ?_
    refine sg_cV f94_74 (vs := [.int x4, .int (mi 1 2)]) (r := 23) (rest := [.int x3]) (en := [some (.ref 23), some (.int x4), some (.int (mi 1 2))]) pq28 ⟨rfl, rfl⟩ rfl rfl rfl rfl rfl rfl h ?_
    rintro _ mi2 ml3 ⟨y1, rfl, h⟩
    refine sg_ld f94_77 (v := .ref rx2) rfl rfl ?_
    refine sg_getr f94_78 hrx2.1 rfl (w := rx2 + 1) hrx2.2.1 ?_
    refine sg_ld f94_81 (v := .int x4) rfl rfl ?_
    obtain ⟨e4, h⟩ := h
    refine sg_iald f94_83 hrx2.2.2 e4 (x := (mi2 (rx2 + 1) (Int32.toNatClampNeg x4))) rfl ?_
    refine sg_ld f94_84 (v := .ref 0) rfl rfl ?_
    refine sg_getr f94_85 rfl rfl (w := 1) rfl ?_
    refine sg_geti f94_88 rfl rfl (x := (mi2 1 2)) rfl ?_
    refine sg_cS f94_91 (vs := [.int y1, .int (mi2 (rx2 + 1) (Int32.toNatClampNeg x4)), .int (mi2 1 2)]) (rest := [.int x3]) (en := [some (.int y1), some (.int (mi2 (rx2 + 1) (Int32.toNatClampNeg x4))), some (.int (mi2 1 2)), none, none]) (by decide) pq112 ⟨rfl, rfl⟩ rfl rfl rfl rfl rfl h ?_
    rintro _ mi6 ml7 ⟨y5, rfl, h⟩
    refine sg_bin f94_94 rfl ?_
    refine sg_st1 f94_95 (ls' := [some (.ref 0), some (.int x1), some (.ref rx2), some (.int (x3 + y5)), some (.int x4)]) rfl rfl rfl rfl ?_
    refine sg_inc f94_96 (d := 1) (ls' := [some (.ref 0), some (.int x1), some (.ref rx2), some (.int (x3 + y5)), some (.int (x4 + 1))]) rfl (by decide) rfl ?_
    refine sg_goto f94_99 ?_
    exact h

/-! X6_drop (I)I -/
theorem fe95 (pc : Nat) : gm_fetch 95 pc = gm_find pc cd_95 := rfl
theorem f95_0 : gm_fetch 95 0 = some (1, .aload_n 0, 0, 0, 0, 0) := (fe95 0).trans rfl
theorem f95_1 : gm_fetch 95 1 = some (2, .iload_n 1, 0, 0, 0, 0) := (fe95 1).trans rfl
theorem f95_2 : gm_fetch 95 2 = some (5, .invokevirtual 201, 117, 105, 0, 0) := (fe95 2).trans rfl
theorem f95_5 : gm_fetch 95 5 = some (6, .astore_n 2, 0, 0, 0, 0) := (fe95 5).trans rfl
theorem f95_6 : gm_fetch 95 6 = some (7, .aload_n 2, 0, 0, 0, 0) := (fe95 6).trans rfl
theorem f95_7 : gm_fetch 95 7 = some (10, .ifnonnull 9, 0, 16, 0, 0) := (fe95 7).trans rfl
theorem f95_10 : gm_fetch 95 10 = some (11, .aload_n 0, 0, 0, 0, 0) := (fe95 10).trans rfl
theorem f95_11 : gm_fetch 95 11 = some (12, .iconst 2, 0, 0, 0, 0) := (fe95 11).trans rfl
theorem f95_12 : gm_fetch 95 12 = some (15, .invokevirtual 114, 35, 104, 0, 0) := (fe95 12).trans rfl
theorem f95_15 : gm_fetch 95 15 = some (16, .ireturn, 0, 0, 0, 0) := (fe95 15).trans rfl
theorem f95_16 : gm_fetch 95 16 = some (17, .aload_n 2, 0, 0, 0, 0) := (fe95 16).trans rfl
theorem f95_17 : gm_fetch 95 17 = some (20, .getfield 54, 61, 2, 0, 0) := (fe95 17).trans rfl
theorem f95_20 : gm_fetch 95 20 = some (23, .ifCond .ne 9, 0, 29, 0, 0) := (fe95 20).trans rfl
theorem f95_23 : gm_fetch 95 23 = some (24, .aload_n 0, 0, 0, 0, 0) := (fe95 23).trans rfl
theorem f95_24 : gm_fetch 95 24 = some (25, .iconst 1, 0, 0, 0, 0) := (fe95 24).trans rfl
theorem f95_25 : gm_fetch 95 25 = some (28, .invokevirtual 114, 35, 104, 0, 0) := (fe95 25).trans rfl
theorem f95_28 : gm_fetch 95 28 = some (29, .ireturn, 0, 0, 0, 0) := (fe95 28).trans rfl
theorem f95_29 : gm_fetch 95 29 = some (30, .aload_n 2, 0, 0, 0, 0) := (fe95 29).trans rfl
theorem f95_30 : gm_fetch 95 30 = some (31, .iconst 0, 0, 0, 0, 0) := (fe95 30).trans rfl
theorem f95_31 : gm_fetch 95 31 = some (34, .putfield 54, 61, 2, 0, 0) := (fe95 31).trans rfl
theorem f95_34 : gm_fetch 95 34 = some (35, .aload_n 0, 0, 0, 0, 0) := (fe95 34).trans rfl
theorem f95_35 : gm_fetch 95 35 = some (38, .invokevirtual 208, 120, 107, 0, 0) := (fe95 35).trans rfl
theorem f95_38 : gm_fetch 95 38 = some (39, .ireturn, 0, 0, 0, 0) := (fe95 38).trans rfl
set_option maxRecDepth 10000 in
theorem rg95_0 {mi : Mi} {ml : Ml} {F : Int32 → Mi → Ml → Prop} {x1 : Int32}  (h : Sg 105 0 [some (.ref 0), some (.int x1)] [] mi ml (qr fun y1 mi2 ml3 => ((y1 = none) → Sg 104 0 [some (.ref 0), some (.int 2)] [] mi2 ml3 (qi fun y5 mi6 ml7 => F y5 mi6 ml7)) ∧ (∀ r4 : Nat, y1 = some r4 → isY r4 ∧ (((¬ (mi2 r4 0) = 0) → Sg 107 0 [some (.ref 0), none, none] [] (va_up mi2 r4 (va_up (mi2 r4) 0 0)) ml3 (qi fun y8 mi9 ml10 => F y8 mi9 ml10)) ∧ (¬ (¬ (mi2 r4 0) = 0) → Sg 104 0 [some (.ref 0), some (.int 1)] [] mi2 ml3 (qi fun y11 mi12 ml13 => F y11 mi12 ml13)))))) : Sg 95 0 [some (.ref 0), some (.int x1), none] [] mi ml (qi F) := by
  refine sg_ld f95_0 (v := .ref 0) rfl rfl ?_
  refine sg_ld f95_1 (v := .int x1) rfl rfl ?_
  refine sg_cV f95_2 (vs := [.int x1]) (r := 0) (rest := []) (en := [some (.ref 0), some (.int x1)]) pq105 ⟨rfl, rfl⟩ rfl rfl rfl rfl rfl rfl h ?_
  rintro _ mi2 ml3 ⟨y1, rfl, h⟩
  refine sg_sto f95_5 (ls' := [some (.ref 0), some (.int x1), some (gm_ov y1)]) rfl rfl rfl ?_
  refine sg_ldo f95_6 rfl rfl ?_
  cases y1 with
  | none =>
    have h := h.1 rfl
    refine sg_ifnnN f95_7 ?_
    refine sg_ld f95_10 (v := .ref 0) rfl rfl ?_
    refine sg_psh f95_11 (v := .int 2) (by decide) ?_
    refine sg_cV f95_12 (vs := [.int 2]) (r := 0) (rest := []) (en := [some (.ref 0), some (.int 2)]) pq104 ⟨rfl, rfl⟩ rfl rfl rfl rfl rfl rfl h ?_
    rintro _ mi6 ml7 ⟨y5, rfl, h⟩
    exact sg_iret f95_15 pq95 rfl rfl ⟨_, rfl, h⟩
  | some r4 =>
    obtain ⟨hr4, h⟩ := h.2 r4 rfl
    refine sg_ifnn f95_7 ?_
    refine sg_ld f95_16 (v := .ref r4) rfl rfl ?_
    refine sg_geti f95_17 hr4.1 rfl (x := (mi2 r4 0)) rfl ?_
    refine sg_if f95_20 (fun c => ?_) (fun c => ?_)
    · have h := h.1 c
      refine sg_ld f95_29 (v := .ref r4) rfl rfl ?_
      refine sg_psh f95_30 (v := .int 0) (by decide) ?_
      refine sg_puti f95_31 hr4.1 rfl rfl (fun _ => by decide) ?_
      refine sg_ld f95_34 (v := .ref 0) rfl rfl ?_
      refine sg_cV f95_35 (vs := []) (r := 0) (rest := []) (en := [some (.ref 0), none, none]) pq107 ⟨rfl, rfl⟩ rfl rfl rfl rfl rfl rfl h ?_
      rintro _ mi9 ml10 ⟨y8, rfl, h⟩
      exact sg_iret f95_38 pq95 rfl rfl ⟨_, rfl, h⟩
    · have h := h.2 c
      refine sg_ld f95_23 (v := .ref 0) rfl rfl ?_
      refine sg_psh f95_24 (v := .int 1) (by decide) ?_
      refine sg_cV f95_25 (vs := [.int 1]) (r := 0) (rest := []) (en := [some (.ref 0), some (.int 1)]) pq104 ⟨rfl, rfl⟩ rfl rfl rfl rfl rfl rfl h ?_
      rintro _ mi12 ml13 ⟨y11, rfl, h⟩
      exact sg_iret f95_28 pq95 rfl rfl ⟨_, rfl, h⟩

/-! X6_sheet (III)I -/
theorem fe96 (pc : Nat) : gm_fetch 96 pc = gm_find pc cd_96 := rfl
theorem f96_0 : gm_fetch 96 0 = some (1, .aload_n 0, 0, 0, 0, 0) := (fe96 0).trans rfl
theorem f96_1 : gm_fetch 96 1 = some (2, .iload_n 1, 0, 0, 0, 0) := (fe96 1).trans rfl
theorem f96_2 : gm_fetch 96 2 = some (5, .invokevirtual 103, 33, 106, 0, 0) := (fe96 2).trans rfl
theorem f96_5 : gm_fetch 96 5 = some (7, .astore 4, 0, 0, 0, 0) := (fe96 5).trans rfl
theorem f96_7 : gm_fetch 96 7 = some (9, .aload 4, 0, 0, 0, 0) := (fe96 7).trans rfl
theorem f96_9 : gm_fetch 96 9 = some (12, .ifnull 16, 0, 25, 0, 0) := (fe96 9).trans rfl
theorem f96_12 : gm_fetch 96 12 = some (13, .iload_n 2, 0, 0, 0, 0) := (fe96 12).trans rfl
theorem f96_13 : gm_fetch 96 13 = some (16, .invokestatic 218, 127, 108, 0, 0) := (fe96 13).trans rfl
theorem f96_16 : gm_fetch 96 16 = some (19, .ifCond .eq 9, 0, 25, 0, 0) := (fe96 16).trans rfl
theorem f96_19 : gm_fetch 96 19 = some (20, .iload_n 3, 0, 0, 0, 0) := (fe96 19).trans rfl
theorem f96_20 : gm_fetch 96 20 = some (22, .bipush 60, 0, 0, 0, 0) := (fe96 20).trans rfl
theorem f96_22 : gm_fetch 96 22 = some (25, .if_icmp .le 6, 0, 28, 0, 0) := (fe96 22).trans rfl
theorem f96_25 : gm_fetch 96 25 = some (27, .bipush (-2), 0, 0, 0, 0) := (fe96 25).trans rfl
theorem f96_27 : gm_fetch 96 27 = some (28, .ireturn, 0, 0, 0, 0) := (fe96 27).trans rfl
theorem f96_28 : gm_fetch 96 28 = some (29, .iload_n 3, 0, 0, 0, 0) := (fe96 28).trans rfl
theorem f96_29 : gm_fetch 96 29 = some (32, .ifCond .ge 9, 0, 38, 0, 0) := (fe96 29).trans rfl
theorem f96_32 : gm_fetch 96 32 = some (33, .aload_n 0, 0, 0, 0, 0) := (fe96 32).trans rfl
theorem f96_33 : gm_fetch 96 33 = some (34, .iconst 5, 0, 0, 0, 0) := (fe96 33).trans rfl
theorem f96_34 : gm_fetch 96 34 = some (37, .invokevirtual 114, 35, 104, 0, 0) := (fe96 34).trans rfl
theorem f96_37 : gm_fetch 96 37 = some (38, .ireturn, 0, 0, 0, 0) := (fe96 37).trans rfl
theorem f96_38 : gm_fetch 96 38 = some (40, .aload 4, 0, 0, 0, 0) := (fe96 38).trans rfl
theorem f96_40 : gm_fetch 96 40 = some (41, .iload_n 2, 0, 0, 0, 0) := (fe96 40).trans rfl
theorem f96_41 : gm_fetch 96 41 = some (42, .iload_n 3, 0, 0, 0, 0) := (fe96 41).trans rfl
theorem f96_42 : gm_fetch 96 42 = some (45, .invokevirtual 221, 128, 66, 0, 0) := (fe96 42).trans rfl
theorem f96_45 : gm_fetch 96 45 = some (46, .iload_n 3, 0, 0, 0, 0) := (fe96 45).trans rfl
theorem f96_46 : gm_fetch 96 46 = some (47, .ireturn, 0, 0, 0, 0) := (fe96 46).trans rfl
set_option maxRecDepth 10000 in
theorem rg96_0 {mi : Mi} {ml : Ml} {F : Int32 → Mi → Ml → Prop} {x1 : Int32} {x2 : Int32} {x3 : Int32}  (h : Sg 106 0 [some (.ref 0), some (.int x1)] [] mi ml (qr fun y1 mi2 ml3 => ((y1 = none) → F (-2) mi2 ml3) ∧ (∀ r4 : Nat, y1 = some r4 → isS r4 ∧ (Sg 108 0 [some (.int x2)] [] mi2 ml3 (qi fun y5 mi6 ml7 => ((y5 = 0) → F (-2) mi6 ml7) ∧ (¬ (y5 = 0) → ((x3 ≤ 60) → ((0 ≤ x3) → Sg 66 0 [some (.ref r4), some (.int x2), some (.int x3)] [] mi6 ml7 (qv fun mi9 ml10 => F x3 mi9 ml10)) ∧ (¬ (0 ≤ x3) → Sg 104 0 [some (.ref 0), some (.int 5)] [] mi6 ml7 (qi fun y11 mi12 ml13 => F y11 mi12 ml13))) ∧ (¬ (x3 ≤ 60) → F (-2) mi6 ml7))))))) : Sg 96 0 [some (.ref 0), some (.int x1), some (.int x2), some (.int x3), none] [] mi ml (qi F) := by
  refine sg_ld f96_0 (v := .ref 0) rfl rfl ?_
  refine sg_ld f96_1 (v := .int x1) rfl rfl ?_
  refine sg_cV f96_2 (vs := [.int x1]) (r := 0) (rest := []) (en := [some (.ref 0), some (.int x1)]) pq106 ⟨rfl, rfl⟩ rfl rfl rfl rfl rfl rfl h ?_
  rintro _ mi2 ml3 ⟨y1, rfl, h⟩
  refine sg_sto f96_5 (ls' := [some (.ref 0), some (.int x1), some (.int x2), some (.int x3), some (gm_ov y1)]) rfl rfl rfl ?_
  refine sg_ldo f96_7 rfl rfl ?_
  cases y1 with
  | none =>
    have h := h.1 rfl
    refine sg_ifnullN f96_9 ?_
    refine sg_psh f96_25 (v := .int (-2)) (by decide) ?_
    exact sg_iret f96_27 pq96 rfl rfl ⟨_, rfl, h⟩
  | some r4 =>
    obtain ⟨hr4, h⟩ := h.2 r4 rfl
    refine sg_ifnull f96_9 ?_
    refine sg_ld f96_12 (v := .int x2) rfl rfl ?_
    refine sg_cS f96_13 (vs := [.int x2]) (rest := []) (en := [some (.int x2)]) (by decide) pq108 ⟨rfl, rfl⟩ rfl rfl rfl rfl rfl h ?_
    rintro _ mi6 ml7 ⟨y5, rfl, h⟩
    refine sg_if f96_16 (fun c => ?_) (fun c => ?_)
    · have h := h.1 c
      refine sg_psh f96_25 (v := .int (-2)) (by decide) ?_
      exact sg_iret f96_27 pq96 rfl rfl ⟨_, rfl, h⟩
    · have h := h.2 c
      refine sg_ld f96_19 (v := .int x3) rfl rfl ?_
      refine sg_psh f96_20 (v := .int 60) (by decide) ?_
      refine sg_icmp f96_22 (fun c => ?_) (fun c => ?_)
      · have h := h.1 c
        refine sg_ld f96_28 (v := .int x3) rfl rfl ?_
        refine sg_if f96_29 (fun c => ?_) (fun c => ?_)
        · have h := h.1 c
          refine sg_ld f96_38 (v := .ref r4) rfl rfl ?_
          refine sg_ld f96_40 (v := .int x2) rfl rfl ?_
          refine sg_ld f96_41 (v := .int x3) rfl rfl ?_
          refine sg_cV f96_42 (vs := [.int x2, .int x3]) (r := r4) (rest := []) (en := [some (.ref r4), some (.int x2), some (.int x3)]) pq66 ⟨rfl, rfl⟩ rfl hr4.1 rfl rfl rfl rfl h ?_
          intro _ mi9 ml10 h
          have h := gm_qv h
          refine sg_ld f96_45 (v := .int x3) rfl rfl ?_
          exact sg_iret f96_46 pq96 rfl rfl ⟨_, rfl, h⟩
        · have h := h.2 c
          refine sg_ld f96_32 (v := .ref 0) rfl rfl ?_
          refine sg_psh f96_33 (v := .int 5) (by decide) ?_
          refine sg_cV f96_34 (vs := [.int 5]) (r := 0) (rest := []) (en := [some (.ref 0), some (.int 5)]) pq104 ⟨rfl, rfl⟩ rfl rfl rfl rfl rfl rfl h ?_
          rintro _ mi12 ml13 ⟨y11, rfl, h⟩
          exact sg_iret f96_37 pq96 rfl rfl ⟨_, rfl, h⟩
      · have h := h.2 c
        refine sg_psh f96_25 (v := .int (-2)) (by decide) ?_
        exact sg_iret f96_27 pq96 rfl rfl ⟨_, rfl, h⟩

/-! X6_lose (I)I -/
theorem fe97 (pc : Nat) : gm_fetch 97 pc = gm_find pc cd_97 := rfl
theorem f97_0 : gm_fetch 97 0 = some (1, .aload_n 0, 0, 0, 0, 0) := (fe97 0).trans rfl
theorem f97_1 : gm_fetch 97 1 = some (2, .iload_n 1, 0, 0, 0, 0) := (fe97 1).trans rfl
theorem f97_2 : gm_fetch 97 2 = some (5, .invokevirtual 103, 33, 106, 0, 0) := (fe97 2).trans rfl
theorem f97_5 : gm_fetch 97 5 = some (6, .astore_n 2, 0, 0, 0, 0) := (fe97 5).trans rfl
theorem f97_6 : gm_fetch 97 6 = some (7, .aload_n 2, 0, 0, 0, 0) := (fe97 6).trans rfl
theorem f97_7 : gm_fetch 97 7 = some (10, .ifnonnull 6, 0, 13, 0, 0) := (fe97 7).trans rfl
theorem f97_10 : gm_fetch 97 10 = some (12, .bipush (-2), 0, 0, 0, 0) := (fe97 10).trans rfl
theorem f97_12 : gm_fetch 97 12 = some (13, .ireturn, 0, 0, 0, 0) := (fe97 12).trans rfl
theorem f97_13 : gm_fetch 97 13 = some (14, .aload_n 2, 0, 0, 0, 0) := (fe97 13).trans rfl
theorem f97_14 : gm_fetch 97 14 = some (17, .getfield 111, 69, 5, 0, 0) := (fe97 14).trans rfl
theorem f97_17 : gm_fetch 97 17 = some (20, .ifCond .eq 9, 0, 26, 0, 0) := (fe97 17).trans rfl
theorem f97_20 : gm_fetch 97 20 = some (21, .aload_n 0, 0, 0, 0, 0) := (fe97 20).trans rfl
theorem f97_21 : gm_fetch 97 21 = some (22, .iconst 1, 0, 0, 0, 0) := (fe97 21).trans rfl
theorem f97_22 : gm_fetch 97 22 = some (25, .invokevirtual 114, 35, 104, 0, 0) := (fe97 22).trans rfl
theorem f97_25 : gm_fetch 97 25 = some (26, .ireturn, 0, 0, 0, 0) := (fe97 25).trans rfl
theorem f97_26 : gm_fetch 97 26 = some (27, .aload_n 2, 0, 0, 0, 0) := (fe97 26).trans rfl
theorem f97_27 : gm_fetch 97 27 = some (28, .iconst 1, 0, 0, 0, 0) := (fe97 27).trans rfl
theorem f97_28 : gm_fetch 97 28 = some (31, .putfield 111, 69, 5, 0, 0) := (fe97 28).trans rfl
theorem f97_31 : gm_fetch 97 31 = some (32, .aload_n 2, 0, 0, 0, 0) := (fe97 31).trans rfl
theorem f97_32 : gm_fetch 97 32 = some (35, .getfield 118, 73, 5, 2, 0) := (fe97 32).trans rfl
theorem f97_35 : gm_fetch 97 35 = some (36, .ireturn, 0, 0, 0, 0) := (fe97 35).trans rfl
set_option maxRecDepth 10000 in
theorem rg97_0 {mi : Mi} {ml : Ml} {F : Int32 → Mi → Ml → Prop} {x1 : Int32}  (h : Sg 106 0 [some (.ref 0), some (.int x1)] [] mi ml (qr fun y1 mi2 ml3 => ((y1 = none) → F (-2) mi2 ml3) ∧ (∀ r4 : Nat, y1 = some r4 → isS r4 ∧ ((((mi2 r4 0) = 0) → F (mi2 r4 2) (va_up mi2 r4 (va_up (mi2 r4) 0 1)) ml3) ∧ (¬ ((mi2 r4 0) = 0) → Sg 104 0 [some (.ref 0), some (.int 1)] [] mi2 ml3 (qi fun y5 mi6 ml7 => F y5 mi6 ml7)))))) : Sg 97 0 [some (.ref 0), some (.int x1), none] [] mi ml (qi F) := by
  refine sg_ld f97_0 (v := .ref 0) rfl rfl ?_
  refine sg_ld f97_1 (v := .int x1) rfl rfl ?_
  refine sg_cV f97_2 (vs := [.int x1]) (r := 0) (rest := []) (en := [some (.ref 0), some (.int x1)]) pq106 ⟨rfl, rfl⟩ rfl rfl rfl rfl rfl rfl h ?_
  rintro _ mi2 ml3 ⟨y1, rfl, h⟩
  refine sg_sto f97_5 (ls' := [some (.ref 0), some (.int x1), some (gm_ov y1)]) rfl rfl rfl ?_
  refine sg_ldo f97_6 rfl rfl ?_
  cases y1 with
  | none =>
    have h := h.1 rfl
    refine sg_ifnnN f97_7 ?_
    refine sg_psh f97_10 (v := .int (-2)) (by decide) ?_
    exact sg_iret f97_12 pq97 rfl rfl ⟨_, rfl, h⟩
  | some r4 =>
    obtain ⟨hr4, h⟩ := h.2 r4 rfl
    refine sg_ifnn f97_7 ?_
    refine sg_ld f97_13 (v := .ref r4) rfl rfl ?_
    refine sg_geti f97_14 hr4.1 rfl (x := (mi2 r4 0)) rfl ?_
    refine sg_if f97_17 (fun c => ?_) (fun c => ?_)
    · have h := h.1 c
      refine sg_ld f97_26 (v := .ref r4) rfl rfl ?_
      refine sg_psh f97_27 (v := .int 1) (by decide) ?_
      refine sg_puti f97_28 hr4.1 rfl rfl (fun _ => by decide) ?_
      refine sg_ld f97_31 (v := .ref r4) rfl rfl ?_
      refine sg_geti f97_32 hr4.1 rfl (x := (mi2 r4 2)) (by simp [va_up]) ?_
      exact sg_iret f97_35 pq97 rfl rfl ⟨_, rfl, h⟩
    · have h := h.2 c
      refine sg_ld f97_20 (v := .ref 0) rfl rfl ?_
      refine sg_psh f97_21 (v := .int 1) (by decide) ?_
      refine sg_cV f97_22 (vs := [.int 1]) (r := 0) (rest := []) (en := [some (.ref 0), some (.int 1)]) pq104 ⟨rfl, rfl⟩ rfl rfl rfl rfl rfl rfl h ?_
      rintro _ mi6 ml7 ⟨y5, rfl, h⟩
      exact sg_iret f97_25 pq97 rfl rfl ⟨_, rfl, h⟩

/-! X6_lay (IIII)I -/
theorem fe98 (pc : Nat) : gm_fetch 98 pc = gm_find pc cd_98 := rfl
theorem f98_0 : gm_fetch 98 0 = some (1, .aload_n 0, 0, 0, 0, 0) := (fe98 0).trans rfl
theorem f98_1 : gm_fetch 98 1 = some (2, .iload_n 1, 0, 0, 0, 0) := (fe98 1).trans rfl
theorem f98_2 : gm_fetch 98 2 = some (5, .invokevirtual 103, 33, 106, 0, 0) := (fe98 2).trans rfl
theorem f98_5 : gm_fetch 98 5 = some (7, .astore 5, 0, 0, 0, 0) := (fe98 5).trans rfl
theorem f98_7 : gm_fetch 98 7 = some (9, .aload 5, 0, 0, 0, 0) := (fe98 7).trans rfl
theorem f98_9 : gm_fetch 98 9 = some (12, .ifnull 10, 0, 19, 0, 0) := (fe98 9).trans rfl
theorem f98_12 : gm_fetch 98 12 = some (13, .iload_n 2, 0, 0, 0, 0) := (fe98 12).trans rfl
theorem f98_13 : gm_fetch 98 13 = some (16, .invokestatic 218, 127, 108, 0, 0) := (fe98 13).trans rfl
theorem f98_16 : gm_fetch 98 16 = some (19, .ifCond .ne 6, 0, 22, 0, 0) := (fe98 16).trans rfl
theorem f98_19 : gm_fetch 98 19 = some (21, .bipush (-2), 0, 0, 0, 0) := (fe98 19).trans rfl
theorem f98_21 : gm_fetch 98 21 = some (22, .ireturn, 0, 0, 0, 0) := (fe98 21).trans rfl
theorem f98_22 : gm_fetch 98 22 = some (24, .aload 5, 0, 0, 0, 0) := (fe98 22).trans rfl
theorem f98_24 : gm_fetch 98 24 = some (25, .iload_n 2, 0, 0, 0, 0) := (fe98 24).trans rfl
theorem f98_25 : gm_fetch 98 25 = some (26, .iload_n 3, 0, 0, 0, 0) := (fe98 25).trans rfl
theorem f98_26 : gm_fetch 98 26 = some (29, .invokevirtual 224, 132, 67, 0, 0) := (fe98 26).trans rfl
theorem f98_29 : gm_fetch 98 29 = some (31, .istore 6, 0, 0, 0, 0) := (fe98 29).trans rfl
theorem f98_31 : gm_fetch 98 31 = some (33, .iload 6, 0, 0, 0, 0) := (fe98 31).trans rfl
theorem f98_33 : gm_fetch 98 33 = some (36, .ifCond .eq 10, 0, 43, 0, 0) := (fe98 33).trans rfl
theorem f98_36 : gm_fetch 98 36 = some (37, .aload_n 0, 0, 0, 0, 0) := (fe98 36).trans rfl
theorem f98_37 : gm_fetch 98 37 = some (39, .iload 6, 0, 0, 0, 0) := (fe98 37).trans rfl
theorem f98_39 : gm_fetch 98 39 = some (42, .invokevirtual 114, 35, 104, 0, 0) := (fe98 39).trans rfl
theorem f98_42 : gm_fetch 98 42 = some (43, .ireturn, 0, 0, 0, 0) := (fe98 42).trans rfl
theorem f98_43 : gm_fetch 98 43 = some (45, .aload 5, 0, 0, 0, 0) := (fe98 43).trans rfl
theorem f98_45 : gm_fetch 98 45 = some (46, .iload_n 3, 0, 0, 0, 0) := (fe98 45).trans rfl
theorem f98_46 : gm_fetch 98 46 = some (48, .iload 4, 0, 0, 0, 0) := (fe98 46).trans rfl
theorem f98_48 : gm_fetch 98 48 = some (51, .invokevirtual 227, 133, 69, 0, 0) := (fe98 48).trans rfl
theorem f98_51 : gm_fetch 98 51 = some (52, .iconst 1, 0, 0, 0, 0) := (fe98 51).trans rfl
theorem f98_52 : gm_fetch 98 52 = some (53, .ireturn, 0, 0, 0, 0) := (fe98 52).trans rfl
set_option maxRecDepth 10000 in
theorem rg98_0 {mi : Mi} {ml : Ml} {F : Int32 → Mi → Ml → Prop} {x1 : Int32} {x2 : Int32} {x3 : Int32} {x4 : Int32}  (h : Sg 106 0 [some (.ref 0), some (.int x1)] [] mi ml (qr fun y1 mi2 ml3 => ((y1 = none) → F (-2) mi2 ml3) ∧ (∀ r4 : Nat, y1 = some r4 → isS r4 ∧ (Sg 108 0 [some (.int x2)] [] mi2 ml3 (qi fun y5 mi6 ml7 => ((¬ y5 = 0) → Sg 67 0 [some (.ref r4), some (.int x2), some (.int x3)] [] mi6 ml7 (qi fun y8 mi9 ml10 => ((y8 = 0) → Sg 69 0 [some (.ref r4), some (.int x3), some (.int x4)] [] mi9 ml10 (qv fun mi12 ml13 => F 1 mi12 ml13)) ∧ (¬ (y8 = 0) → Sg 104 0 [some (.ref 0), some (.int y8)] [] mi9 ml10 (qi fun y14 mi15 ml16 => F y14 mi15 ml16)))) ∧ (¬ (¬ y5 = 0) → F (-2) mi6 ml7)))))) : Sg 98 0 [some (.ref 0), some (.int x1), some (.int x2), some (.int x3), some (.int x4), none, none] [] mi ml (qi F) := by
  refine sg_ld f98_0 (v := .ref 0) rfl rfl ?_
  refine sg_ld f98_1 (v := .int x1) rfl rfl ?_
  refine sg_cV f98_2 (vs := [.int x1]) (r := 0) (rest := []) (en := [some (.ref 0), some (.int x1)]) pq106 ⟨rfl, rfl⟩ rfl rfl rfl rfl rfl rfl h ?_
  rintro _ mi2 ml3 ⟨y1, rfl, h⟩
  refine sg_sto f98_5 (ls' := [some (.ref 0), some (.int x1), some (.int x2), some (.int x3), some (.int x4), some (gm_ov y1), none]) rfl rfl rfl ?_
  refine sg_ldo f98_7 rfl rfl ?_
  cases y1 with
  | none =>
    have h := h.1 rfl
    refine sg_ifnullN f98_9 ?_
    refine sg_psh f98_19 (v := .int (-2)) (by decide) ?_
    exact sg_iret f98_21 pq98 rfl rfl ⟨_, rfl, h⟩
  | some r4 =>
    obtain ⟨hr4, h⟩ := h.2 r4 rfl
    refine sg_ifnull f98_9 ?_
    refine sg_ld f98_12 (v := .int x2) rfl rfl ?_
    refine sg_cS f98_13 (vs := [.int x2]) (rest := []) (en := [some (.int x2)]) (by decide) pq108 ⟨rfl, rfl⟩ rfl rfl rfl rfl rfl h ?_
    rintro _ mi6 ml7 ⟨y5, rfl, h⟩
    refine sg_if f98_16 (fun c => ?_) (fun c => ?_)
    · have h := h.1 c
      refine sg_ld f98_22 (v := .ref r4) rfl rfl ?_
      refine sg_ld f98_24 (v := .int x2) rfl rfl ?_
      refine sg_ld f98_25 (v := .int x3) rfl rfl ?_
      refine sg_cV f98_26 (vs := [.int x2, .int x3]) (r := r4) (rest := []) (en := [some (.ref r4), some (.int x2), some (.int x3)]) pq67 ⟨rfl, rfl⟩ rfl hr4.1 rfl rfl rfl rfl h ?_
      rintro _ mi9 ml10 ⟨y8, rfl, h⟩
      refine sg_st1 f98_29 (ls' := [some (.ref 0), some (.int x1), some (.int x2), some (.int x3), some (.int x4), some (.ref r4), some (.int y8)]) rfl rfl rfl rfl ?_
      refine sg_ld f98_31 (v := .int y8) rfl rfl ?_
      refine sg_if f98_33 (fun c => ?_) (fun c => ?_)
      · have h := h.1 c
        refine sg_ld f98_43 (v := .ref r4) rfl rfl ?_
        refine sg_ld f98_45 (v := .int x3) rfl rfl ?_
        refine sg_ld f98_46 (v := .int x4) rfl rfl ?_
        refine sg_cV f98_48 (vs := [.int x3, .int x4]) (r := r4) (rest := []) (en := [some (.ref r4), some (.int x3), some (.int x4)]) pq69 ⟨rfl, rfl⟩ rfl hr4.1 rfl rfl rfl rfl h ?_
        intro _ mi12 ml13 h
        have h := gm_qv h
        refine sg_psh f98_51 (v := .int 1) (by decide) ?_
        exact sg_iret f98_52 pq98 rfl rfl ⟨_, rfl, h⟩
      · have h := h.2 c
        refine sg_ld f98_36 (v := .ref 0) rfl rfl ?_
        refine sg_ld f98_37 (v := .int y8) rfl rfl ?_
        refine sg_cV f98_39 (vs := [.int y8]) (r := 0) (rest := []) (en := [some (.ref 0), some (.int y8)]) pq104 ⟨rfl, rfl⟩ rfl rfl rfl rfl rfl rfl h ?_
        rintro _ mi15 ml16 ⟨y14, rfl, h⟩
        exact sg_iret f98_42 pq98 rfl rfl ⟨_, rfl, h⟩
    · have h := h.2 c
      refine sg_psh f98_19 (v := .int (-2)) (by decide) ?_
      exact sg_iret f98_21 pq98 rfl rfl ⟨_, rfl, h⟩

/-! X6_get (III)I -/
theorem fe99 (pc : Nat) : gm_fetch 99 pc = gm_find pc cd_99 := rfl
theorem f99_0 : gm_fetch 99 0 = some (1, .aload_n 0, 0, 0, 0, 0) := (fe99 0).trans rfl
theorem f99_1 : gm_fetch 99 1 = some (2, .iload_n 1, 0, 0, 0, 0) := (fe99 1).trans rfl
theorem f99_2 : gm_fetch 99 2 = some (5, .invokevirtual 103, 33, 106, 0, 0) := (fe99 2).trans rfl
theorem f99_5 : gm_fetch 99 5 = some (7, .astore 4, 0, 0, 0, 0) := (fe99 5).trans rfl
theorem f99_7 : gm_fetch 99 7 = some (9, .aload 4, 0, 0, 0, 0) := (fe99 7).trans rfl
theorem f99_9 : gm_fetch 99 9 = some (12, .ifnull 10, 0, 19, 0, 0) := (fe99 9).trans rfl
theorem f99_12 : gm_fetch 99 12 = some (13, .iload_n 2, 0, 0, 0, 0) := (fe99 12).trans rfl
theorem f99_13 : gm_fetch 99 13 = some (16, .invokestatic 218, 127, 108, 0, 0) := (fe99 13).trans rfl
theorem f99_16 : gm_fetch 99 16 = some (19, .ifCond .ne 6, 0, 22, 0, 0) := (fe99 16).trans rfl
theorem f99_19 : gm_fetch 99 19 = some (21, .ldc 230, 5, 0, 0, (-2147483648)) := (fe99 19).trans rfl
theorem f99_21 : gm_fetch 99 21 = some (22, .ireturn, 0, 0, 0, 0) := (fe99 21).trans rfl
theorem f99_22 : gm_fetch 99 22 = some (24, .aload 4, 0, 0, 0, 0) := (fe99 22).trans rfl
theorem f99_24 : gm_fetch 99 24 = some (25, .iload_n 2, 0, 0, 0, 0) := (fe99 24).trans rfl
theorem f99_25 : gm_fetch 99 25 = some (26, .iload_n 3, 0, 0, 0, 0) := (fe99 25).trans rfl
theorem f99_26 : gm_fetch 99 26 = some (29, .invokevirtual 224, 132, 67, 0, 0) := (fe99 26).trans rfl
theorem f99_29 : gm_fetch 99 29 = some (31, .istore 5, 0, 0, 0, 0) := (fe99 29).trans rfl
theorem f99_31 : gm_fetch 99 31 = some (33, .iload 5, 0, 0, 0, 0) := (fe99 31).trans rfl
theorem f99_33 : gm_fetch 99 33 = some (36, .ifCond .eq 12, 0, 45, 0, 0) := (fe99 33).trans rfl
theorem f99_36 : gm_fetch 99 36 = some (37, .aload_n 0, 0, 0, 0, 0) := (fe99 36).trans rfl
theorem f99_37 : gm_fetch 99 37 = some (39, .iload 5, 0, 0, 0, 0) := (fe99 37).trans rfl
theorem f99_39 : gm_fetch 99 39 = some (42, .putfield 231, 83, 6, 7, 0) := (fe99 39).trans rfl
theorem f99_42 : gm_fetch 99 42 = some (44, .ldc 230, 5, 0, 0, (-2147483648)) := (fe99 42).trans rfl
theorem f99_44 : gm_fetch 99 44 = some (45, .ireturn, 0, 0, 0, 0) := (fe99 44).trans rfl
theorem f99_45 : gm_fetch 99 45 = some (47, .aload 4, 0, 0, 0, 0) := (fe99 45).trans rfl
theorem f99_47 : gm_fetch 99 47 = some (50, .getfield 127, 75, 5, 3, 0) := (fe99 47).trans rfl
theorem f99_50 : gm_fetch 99 50 = some (51, .iload_n 3, 0, 0, 0, 0) := (fe99 50).trans rfl
theorem f99_51 : gm_fetch 99 51 = some (52, .iaload, 0, 0, 0, 0) := (fe99 51).trans rfl
theorem f99_52 : gm_fetch 99 52 = some (53, .ireturn, 0, 0, 0, 0) := (fe99 52).trans rfl
set_option maxRecDepth 10000 in
theorem rg99_0 {mi : Mi} {ml : Ml} {F : Int32 → Mi → Ml → Prop} {x1 : Int32} {x2 : Int32} {x3 : Int32}  (h : Sg 106 0 [some (.ref 0), some (.int x1)] [] mi ml (qr fun y1 mi2 ml3 => ((y1 = none) → F (-2147483648) mi2 ml3) ∧ (∀ r4 : Nat, y1 = some r4 → isS r4 ∧ (Sg 108 0 [some (.int x2)] [] mi2 ml3 (qi fun y5 mi6 ml7 => ((¬ y5 = 0) → Sg 67 0 [some (.ref r4), some (.int x2), some (.int x3)] [] mi6 ml7 (qi fun y8 mi9 ml10 => ((y8 = 0) → (vp_in x3 60) ∧ (F (mi9 (r4 + 1) (Int32.toNatClampNeg x3)) mi9 ml10)) ∧ (¬ (y8 = 0) → F (-2147483648) (va_up mi9 0 (va_up (mi9 0) 7 y8)) ml10))) ∧ (¬ (¬ y5 = 0) → F (-2147483648) mi6 ml7)))))) : Sg 99 0 [some (.ref 0), some (.int x1), some (.int x2), some (.int x3), none, none] [] mi ml (qi F) := by
  refine sg_ld f99_0 (v := .ref 0) rfl rfl ?_
  refine sg_ld f99_1 (v := .int x1) rfl rfl ?_
  refine sg_cV f99_2 (vs := [.int x1]) (r := 0) (rest := []) (en := [some (.ref 0), some (.int x1)]) pq106 ⟨rfl, rfl⟩ rfl rfl rfl rfl rfl rfl h ?_
  rintro _ mi2 ml3 ⟨y1, rfl, h⟩
  refine sg_sto f99_5 (ls' := [some (.ref 0), some (.int x1), some (.int x2), some (.int x3), some (gm_ov y1), none]) rfl rfl rfl ?_
  refine sg_ldo f99_7 rfl rfl ?_
  cases y1 with
  | none =>
    have h := h.1 rfl
    refine sg_ifnullN f99_9 ?_
    refine sg_psh f99_19 (v := .int (-2147483648)) (by decide) ?_
    exact sg_iret f99_21 pq99 rfl rfl ⟨_, rfl, h⟩
  | some r4 =>
    obtain ⟨hr4, h⟩ := h.2 r4 rfl
    refine sg_ifnull f99_9 ?_
    refine sg_ld f99_12 (v := .int x2) rfl rfl ?_
    refine sg_cS f99_13 (vs := [.int x2]) (rest := []) (en := [some (.int x2)]) (by decide) pq108 ⟨rfl, rfl⟩ rfl rfl rfl rfl rfl h ?_
    rintro _ mi6 ml7 ⟨y5, rfl, h⟩
    refine sg_if f99_16 (fun c => ?_) (fun c => ?_)
    · have h := h.1 c
      refine sg_ld f99_22 (v := .ref r4) rfl rfl ?_
      refine sg_ld f99_24 (v := .int x2) rfl rfl ?_
      refine sg_ld f99_25 (v := .int x3) rfl rfl ?_
      refine sg_cV f99_26 (vs := [.int x2, .int x3]) (r := r4) (rest := []) (en := [some (.ref r4), some (.int x2), some (.int x3)]) pq67 ⟨rfl, rfl⟩ rfl hr4.1 rfl rfl rfl rfl h ?_
      rintro _ mi9 ml10 ⟨y8, rfl, h⟩
      refine sg_st1 f99_29 (ls' := [some (.ref 0), some (.int x1), some (.int x2), some (.int x3), some (.ref r4), some (.int y8)]) rfl rfl rfl rfl ?_
      refine sg_ld f99_31 (v := .int y8) rfl rfl ?_
      refine sg_if f99_33 (fun c => ?_) (fun c => ?_)
      · have h := h.1 c
        refine sg_ld f99_45 (v := .ref r4) rfl rfl ?_
        refine sg_getr f99_47 hr4.1 rfl (w := r4 + 1) hr4.2.1 ?_
        refine sg_ld f99_50 (v := .int x3) rfl rfl ?_
        obtain ⟨e11, h⟩ := h
        refine sg_iald f99_51 hr4.2.2 e11 (x := (mi9 (r4 + 1) (Int32.toNatClampNeg x3))) rfl ?_
        exact sg_iret f99_52 pq99 rfl rfl ⟨_, rfl, h⟩
      · have h := h.2 c
        refine sg_ld f99_36 (v := .ref 0) rfl rfl ?_
        refine sg_ld f99_37 (v := .int y8) rfl rfl ?_
        refine sg_puti f99_39 rfl rfl rfl (fun hz => by cases hz) ?_
        refine sg_psh f99_42 (v := .int (-2147483648)) (by decide) ?_
        exact sg_iret f99_44 pq99 rfl rfl ⟨_, rfl, h⟩
    · have h := h.2 c
      refine sg_psh f99_19 (v := .int (-2147483648)) (by decide) ?_
      exact sg_iret f99_21 pq99 rfl rfl ⟨_, rfl, h⟩

/-! X6_copy (IIIII)I -/
theorem fe100 (pc : Nat) : gm_fetch 100 pc = gm_find pc cd_100 := rfl
theorem f100_0 : gm_fetch 100 0 = some (1, .aload_n 0, 0, 0, 0, 0) := (fe100 0).trans rfl
theorem f100_1 : gm_fetch 100 1 = some (2, .iload_n 1, 0, 0, 0, 0) := (fe100 1).trans rfl
theorem f100_2 : gm_fetch 100 2 = some (5, .invokevirtual 103, 33, 106, 0, 0) := (fe100 2).trans rfl
theorem f100_5 : gm_fetch 100 5 = some (7, .astore 6, 0, 0, 0, 0) := (fe100 5).trans rfl
theorem f100_7 : gm_fetch 100 7 = some (8, .aload_n 0, 0, 0, 0, 0) := (fe100 7).trans rfl
theorem f100_8 : gm_fetch 100 8 = some (9, .iload_n 3, 0, 0, 0, 0) := (fe100 8).trans rfl
theorem f100_9 : gm_fetch 100 9 = some (12, .invokevirtual 103, 33, 106, 0, 0) := (fe100 9).trans rfl
theorem f100_12 : gm_fetch 100 12 = some (14, .astore 7, 0, 0, 0, 0) := (fe100 12).trans rfl
theorem f100_14 : gm_fetch 100 14 = some (16, .aload 6, 0, 0, 0, 0) := (fe100 14).trans rfl
theorem f100_16 : gm_fetch 100 16 = some (19, .ifnull 8, 0, 24, 0, 0) := (fe100 16).trans rfl
theorem f100_19 : gm_fetch 100 19 = some (21, .aload 7, 0, 0, 0, 0) := (fe100 19).trans rfl
theorem f100_21 : gm_fetch 100 21 = some (24, .ifnonnull 6, 0, 27, 0, 0) := (fe100 21).trans rfl
theorem f100_24 : gm_fetch 100 24 = some (26, .bipush (-2), 0, 0, 0, 0) := (fe100 24).trans rfl
theorem f100_26 : gm_fetch 100 26 = some (27, .ireturn, 0, 0, 0, 0) := (fe100 26).trans rfl
theorem f100_27 : gm_fetch 100 27 = some (29, .aload 6, 0, 0, 0, 0) := (fe100 27).trans rfl
theorem f100_29 : gm_fetch 100 29 = some (32, .getfield 111, 69, 5, 0, 0) := (fe100 29).trans rfl
theorem f100_32 : gm_fetch 100 32 = some (35, .ifCond .ne 11, 0, 43, 0, 0) := (fe100 32).trans rfl
theorem f100_35 : gm_fetch 100 35 = some (37, .aload 7, 0, 0, 0, 0) := (fe100 35).trans rfl
theorem f100_37 : gm_fetch 100 37 = some (40, .getfield 111, 69, 5, 0, 0) := (fe100 37).trans rfl
theorem f100_40 : gm_fetch 100 40 = some (43, .ifCond .eq 9, 0, 49, 0, 0) := (fe100 40).trans rfl
theorem f100_43 : gm_fetch 100 43 = some (44, .aload_n 0, 0, 0, 0, 0) := (fe100 43).trans rfl
theorem f100_44 : gm_fetch 100 44 = some (45, .iconst 1, 0, 0, 0, 0) := (fe100 44).trans rfl
theorem f100_45 : gm_fetch 100 45 = some (48, .invokevirtual 114, 35, 104, 0, 0) := (fe100 45).trans rfl
theorem f100_48 : gm_fetch 100 48 = some (49, .ireturn, 0, 0, 0, 0) := (fe100 48).trans rfl
theorem f100_49 : gm_fetch 100 49 = some (51, .aload 6, 0, 0, 0, 0) := (fe100 49).trans rfl
theorem f100_51 : gm_fetch 100 51 = some (54, .getfield 234, 71, 5, 1, 0) := (fe100 51).trans rfl
theorem f100_54 : gm_fetch 100 54 = some (56, .aload 7, 0, 0, 0, 0) := (fe100 54).trans rfl
theorem f100_56 : gm_fetch 100 56 = some (59, .getfield 234, 71, 5, 1, 0) := (fe100 56).trans rfl
theorem f100_59 : gm_fetch 100 59 = some (62, .if_icmp .eq 9, 0, 68, 0, 0) := (fe100 59).trans rfl
theorem f100_62 : gm_fetch 100 62 = some (63, .aload_n 0, 0, 0, 0, 0) := (fe100 62).trans rfl
theorem f100_63 : gm_fetch 100 63 = some (64, .iconst 4, 0, 0, 0, 0) := (fe100 63).trans rfl
theorem f100_64 : gm_fetch 100 64 = some (67, .invokevirtual 114, 35, 104, 0, 0) := (fe100 64).trans rfl
theorem f100_67 : gm_fetch 100 67 = some (68, .ireturn, 0, 0, 0, 0) := (fe100 67).trans rfl
theorem f100_68 : gm_fetch 100 68 = some (70, .aload 6, 0, 0, 0, 0) := (fe100 68).trans rfl
theorem f100_70 : gm_fetch 100 70 = some (71, .iload_n 2, 0, 0, 0, 0) := (fe100 70).trans rfl
theorem f100_71 : gm_fetch 100 71 = some (73, .iload 5, 0, 0, 0, 0) := (fe100 71).trans rfl
theorem f100_73 : gm_fetch 100 73 = some (76, .invokevirtual 237, 136, 68, 0, 0) := (fe100 73).trans rfl
theorem f100_76 : gm_fetch 100 76 = some (79, .ifCond .eq 15, 0, 91, 0, 0) := (fe100 76).trans rfl
theorem f100_79 : gm_fetch 100 79 = some (81, .aload 7, 0, 0, 0, 0) := (fe100 79).trans rfl
theorem f100_81 : gm_fetch 100 81 = some (83, .iload 4, 0, 0, 0, 0) := (fe100 81).trans rfl
theorem f100_83 : gm_fetch 100 83 = some (85, .iload 5, 0, 0, 0, 0) := (fe100 83).trans rfl
theorem f100_85 : gm_fetch 100 85 = some (88, .invokevirtual 237, 136, 68, 0, 0) := (fe100 85).trans rfl
theorem f100_88 : gm_fetch 100 88 = some (91, .ifCond .ne 9, 0, 97, 0, 0) := (fe100 88).trans rfl
theorem f100_91 : gm_fetch 100 91 = some (92, .aload_n 0, 0, 0, 0, 0) := (fe100 91).trans rfl
theorem f100_92 : gm_fetch 100 92 = some (93, .iconst 2, 0, 0, 0, 0) := (fe100 92).trans rfl
theorem f100_93 : gm_fetch 100 93 = some (96, .invokevirtual 114, 35, 104, 0, 0) := (fe100 93).trans rfl
theorem f100_96 : gm_fetch 100 96 = some (97, .ireturn, 0, 0, 0, 0) := (fe100 96).trans rfl
theorem f100_97 : gm_fetch 100 97 = some (99, .aload 6, 0, 0, 0, 0) := (fe100 97).trans rfl
theorem f100_99 : gm_fetch 100 99 = some (102, .getfield 127, 75, 5, 3, 0) := (fe100 99).trans rfl
theorem f100_102 : gm_fetch 100 102 = some (103, .iload_n 2, 0, 0, 0, 0) := (fe100 102).trans rfl
theorem f100_103 : gm_fetch 100 103 = some (105, .aload 7, 0, 0, 0, 0) := (fe100 103).trans rfl
theorem f100_105 : gm_fetch 100 105 = some (108, .getfield 127, 75, 5, 3, 0) := (fe100 105).trans rfl
theorem f100_108 : gm_fetch 100 108 = some (110, .iload 4, 0, 0, 0, 0) := (fe100 108).trans rfl
theorem f100_110 : gm_fetch 100 110 = some (112, .iload 5, 0, 0, 0, 0) := (fe100 110).trans rfl
theorem f100_112 : gm_fetch 100 112 = some (115, .invokestatic 240, 137, 0, 2, 0) := (fe100 112).trans rfl
theorem f100_115 : gm_fetch 100 115 = some (116, .iconst 1, 0, 0, 0, 0) := (fe100 115).trans rfl
theorem f100_116 : gm_fetch 100 116 = some (117, .ireturn, 0, 0, 0, 0) := (fe100 116).trans rfl
set_option maxRecDepth 10000 in
theorem rg100_0 {mi : Mi} {ml : Ml} {F : Int32 → Mi → Ml → Prop} {x1 : Int32} {x2 : Int32} {x3 : Int32} {x4 : Int32} {x5 : Int32}  (h : Sg 106 0 [some (.ref 0), some (.int x1)] [] mi ml (qr fun y1 mi2 ml3 => Sg 106 0 [some (.ref 0), some (.int x3)] [] mi2 ml3 (qr fun y4 mi5 ml6 => ((y1 = none) → F (-2) mi5 ml6) ∧ (∀ r7 : Nat, y1 = some r7 → isS r7 ∧ (((y4 = none) → F (-2) mi5 ml6) ∧ (∀ r8 : Nat, y4 = some r8 → isS r8 ∧ (((¬ (mi5 r7 0) = 0) → Sg 100 43 [some (.ref 0), some (.int x1), some (.int x2), some (.int x3), some (.int x4), some (.int x5), some (.ref r7), some (.ref r8)] [] mi5 ml6 (qi F)) ∧ (¬ (¬ (mi5 r7 0) = 0) → (((mi5 r8 0) = 0) → (((mi5 r7 1) = (mi5 r8 1)) → Sg 68 0 [some (.ref r7), some (.int x2), some (.int x5)] [] mi5 ml6 (qi fun y9 mi10 ml11 => ((y9 = 0) → Sg 100 91 [some (.ref 0), some (.int x1), some (.int x2), some (.int x3), some (.int x4), some (.int x5), some (.ref r7), some (.ref r8)] [] mi10 ml11 (qi F)) ∧ (¬ (y9 = 0) → Sg 68 0 [some (.ref r8), some (.int x4), some (.int x5)] [] mi10 ml11 (qi fun y12 mi13 ml14 => ((¬ y12 = 0) → (¬ x2 < 0) ∧ (¬ x4 < 0) ∧ (¬ x5 < 0) ∧ ((Int32.toNatClampNeg x2) + (Int32.toNatClampNeg x5) ≤ 60) ∧ ((Int32.toNatClampNeg x4) + (Int32.toNatClampNeg x5) ≤ 60) ∧ (F 1 (va_up mi13 (r8 + 1) (va_cpy (mi13 (r7 + 1)) (mi13 (r8 + 1)) (Int32.toNatClampNeg x2) (Int32.toNatClampNeg x4) (Int32.toNatClampNeg x5))) ml14)) ∧ (¬ (¬ y12 = 0) → Sg 100 91 [some (.ref 0), some (.int x1), some (.int x2), some (.int x3), some (.int x4), some (.int x5), some (.ref r7), some (.ref r8)] [] mi13 ml14 (qi F)))))) ∧ (¬ ((mi5 r7 1) = (mi5 r8 1)) → Sg 104 0 [some (.ref 0), some (.int 4)] [] mi5 ml6 (qi fun y20 mi21 ml22 => F y20 mi21 ml22))) ∧ (¬ ((mi5 r8 0) = 0) → Sg 100 43 [some (.ref 0), some (.int x1), some (.int x2), some (.int x3), some (.int x4), some (.int x5), some (.ref r7), some (.ref r8)] [] mi5 ml6 (qi F)))))))))) : Sg 100 0 [some (.ref 0), some (.int x1), some (.int x2), some (.int x3), some (.int x4), some (.int x5), none, none] [] mi ml (qi F) := by
  refine sg_ld f100_0 (v := .ref 0) rfl rfl ?_
  refine sg_ld f100_1 (v := .int x1) rfl rfl ?_
  refine sg_cV f100_2 (vs := [.int x1]) (r := 0) (rest := []) (en := [some (.ref 0), some (.int x1)]) pq106 ⟨rfl, rfl⟩ rfl rfl rfl rfl rfl rfl h ?_
  rintro _ mi2 ml3 ⟨y1, rfl, h⟩
  refine sg_sto f100_5 (ls' := [some (.ref 0), some (.int x1), some (.int x2), some (.int x3), some (.int x4), some (.int x5), some (gm_ov y1), none]) rfl rfl rfl ?_
  refine sg_ld f100_7 (v := .ref 0) rfl rfl ?_
  refine sg_ld f100_8 (v := .int x3) rfl rfl ?_
  refine sg_cV f100_9 (vs := [.int x3]) (r := 0) (rest := []) (en := [some (.ref 0), some (.int x3)]) pq106 ⟨rfl, rfl⟩ rfl rfl rfl rfl rfl rfl h ?_
  rintro _ mi5 ml6 ⟨y4, rfl, h⟩
  refine sg_sto f100_12 (ls' := [some (.ref 0), some (.int x1), some (.int x2), some (.int x3), some (.int x4), some (.int x5), some (gm_ov y1), some (gm_ov y4)]) rfl rfl (by simp only [gm_s1, gm_kill_ov]) ?_
  refine sg_ldo f100_14 rfl rfl ?_
  cases y1 with
  | none =>
    have h := h.1 rfl
    refine sg_ifnullN f100_16 ?_
    refine sg_psh f100_24 (v := .int (-2)) (by decide) ?_
    exact sg_iret f100_26 pq100 rfl rfl ⟨_, rfl, h⟩
  | some r7 =>
    obtain ⟨hr7, h⟩ := h.2 r7 rfl
    refine sg_ifnull f100_16 ?_
    refine sg_ldo f100_19 rfl rfl ?_
    cases y4 with
    | none =>
      have h := h.1 rfl
      refine sg_ifnnN f100_21 ?_
      refine sg_psh f100_24 (v := .int (-2)) (by decide) ?_
      exact sg_iret f100_26 pq100 rfl rfl ⟨_, rfl, h⟩
    | some r8 =>
      obtain ⟨hr8, h⟩ := h.2 r8 rfl
      refine sg_ifnn f100_21 ?_
      refine sg_ld f100_27 (v := .ref r7) rfl rfl ?_
      refine sg_geti f100_29 hr7.1 rfl (x := (mi5 r7 0)) rfl ?_
      refine sg_if f100_32 (fun c => ?_) (fun c => ?_)
      · have h := h.1 c
        exact h
      · have h := h.2 c
        refine sg_ld f100_35 (v := .ref r8) rfl rfl ?_
        refine sg_geti f100_37 hr8.1 rfl (x := (mi5 r8 0)) rfl ?_
        refine sg_if f100_40 (fun c => ?_) (fun c => ?_)
        · have h := h.1 c
          refine sg_ld f100_49 (v := .ref r7) rfl rfl ?_
          refine sg_geti f100_51 hr7.1 rfl (x := (mi5 r7 1)) rfl ?_
          refine sg_ld f100_54 (v := .ref r8) rfl rfl ?_
          refine sg_geti f100_56 hr8.1 rfl (x := (mi5 r8 1)) rfl ?_
          refine sg_icmp f100_59 (fun c => ?_) (fun c => ?_)
          · have h := h.1 c
            refine sg_ld f100_68 (v := .ref r7) rfl rfl ?_
            refine sg_ld f100_70 (v := .int x2) rfl rfl ?_
            refine sg_ld f100_71 (v := .int x5) rfl rfl ?_
            refine sg_cV f100_73 (vs := [.int x2, .int x5]) (r := r7) (rest := []) (en := [some (.ref r7), some (.int x2), some (.int x5)]) pq68 ⟨rfl, rfl⟩ rfl hr7.1 rfl rfl rfl rfl h ?_
            rintro _ mi10 ml11 ⟨y9, rfl, h⟩
            refine sg_if f100_76 (fun c => ?_) (fun c => ?_)
            · have h := h.1 c
              exact h
            · have h := h.2 c
              refine sg_ld f100_79 (v := .ref r8) rfl rfl ?_
              refine sg_ld f100_81 (v := .int x4) rfl rfl ?_
              refine sg_ld f100_83 (v := .int x5) rfl rfl ?_
              refine sg_cV f100_85 (vs := [.int x4, .int x5]) (r := r8) (rest := []) (en := [some (.ref r8), some (.int x4), some (.int x5)]) pq68 ⟨rfl, rfl⟩ rfl hr8.1 rfl rfl rfl rfl h ?_
              rintro _ mi13 ml14 ⟨y12, rfl, h⟩
              refine sg_if f100_88 (fun c => ?_) (fun c => ?_)
              · have h := h.1 c
                refine sg_ld f100_97 (v := .ref r7) rfl rfl ?_
                refine sg_getr f100_99 hr7.1 rfl (w := r7 + 1) hr7.2.1 ?_
                refine sg_ld f100_102 (v := .int x2) rfl rfl ?_
                refine sg_ld f100_103 (v := .ref r8) rfl rfl ?_
                refine sg_getr f100_105 hr8.1 rfl (w := r8 + 1) hr8.2.1 ?_
                refine sg_ld f100_108 (v := .int x4) rfl rfl ?_
                refine sg_ld f100_110 (v := .int x5) rfl rfl ?_
                obtain ⟨e15, h⟩ := h
                obtain ⟨e16, h⟩ := h
                obtain ⟨e17, h⟩ := h
                obtain ⟨e18, h⟩ := h
                obtain ⟨e19, h⟩ := h
                refine sg_cpi f100_112 hr7.2.2 hr8.2.2 e15 e16 e17 e18 e19 rfl ?_
                refine sg_psh f100_115 (v := .int 1) (by decide) ?_
                exact sg_iret f100_116 pq100 rfl rfl ⟨_, rfl, h⟩
              · have h := h.2 c
                exact h
          · have h := h.2 c
            refine sg_ld f100_62 (v := .ref 0) rfl rfl ?_
            refine sg_psh f100_63 (v := .int 4) (by decide) ?_
            refine sg_cV f100_64 (vs := [.int 4]) (r := 0) (rest := []) (en := [some (.ref 0), some (.int 4)]) pq104 ⟨rfl, rfl⟩ rfl rfl rfl rfl rfl rfl h ?_
            rintro _ mi21 ml22 ⟨y20, rfl, h⟩
            exact sg_iret f100_67 pq100 rfl rfl ⟨_, rfl, h⟩
        · have h := h.2 c
          exact h

set_option maxRecDepth 10000 in
theorem rg100_43 {mi : Mi} {ml : Ml} {F : Int32 → Mi → Ml → Prop} {x1 : Int32} {x2 : Int32} {x3 : Int32} {x4 : Int32} {x5 : Int32} {rx6 : Nat} {rx7 : Nat} (hrx6 : isS rx6) (hrx7 : isS rx7) (h : Sg 104 0 [some (.ref 0), some (.int 1)] [] mi ml (qi fun y1 mi2 ml3 => F y1 mi2 ml3)) : Sg 100 43 [some (.ref 0), some (.int x1), some (.int x2), some (.int x3), some (.int x4), some (.int x5), some (.ref rx6), some (.ref rx7)] [] mi ml (qi F) := by
  refine sg_ld f100_43 (v := .ref 0) rfl rfl ?_
  refine sg_psh f100_44 (v := .int 1) (by decide) ?_
  refine sg_cV f100_45 (vs := [.int 1]) (r := 0) (rest := []) (en := [some (.ref 0), some (.int 1)]) pq104 ⟨rfl, rfl⟩ rfl rfl rfl rfl rfl rfl h ?_
  rintro _ mi2 ml3 ⟨y1, rfl, h⟩
  exact sg_iret f100_48 pq100 rfl rfl ⟨_, rfl, h⟩

set_option maxRecDepth 10000 in
theorem rg100_91 {mi : Mi} {ml : Ml} {F : Int32 → Mi → Ml → Prop} {x1 : Int32} {x2 : Int32} {x3 : Int32} {x4 : Int32} {x5 : Int32} {rx6 : Nat} {rx7 : Nat} (hrx6 : isS rx6) (hrx7 : isS rx7) (h : Sg 104 0 [some (.ref 0), some (.int 2)] [] mi ml (qi fun y1 mi2 ml3 => F y1 mi2 ml3)) : Sg 100 91 [some (.ref 0), some (.int x1), some (.int x2), some (.int x3), some (.int x4), some (.int x5), some (.ref rx6), some (.ref rx7)] [] mi ml (qi F) := by
  refine sg_ld f100_91 (v := .ref 0) rfl rfl ?_
  refine sg_psh f100_92 (v := .int 2) (by decide) ?_
  refine sg_cV f100_93 (vs := [.int 2]) (r := 0) (rest := []) (en := [some (.ref 0), some (.int 2)]) pq104 ⟨rfl, rfl⟩ rfl rfl rfl rfl rfl rfl h ?_
  rintro _ mi2 ml3 ⟨y1, rfl, h⟩
  exact sg_iret f100_96 pq100 rfl rfl ⟨_, rfl, h⟩

/-! X6_write (II)I -/
theorem fe101 (pc : Nat) : gm_fetch 101 pc = gm_find pc cd_101 := rfl
theorem f101_0 : gm_fetch 101 0 = some (1, .aload_n 0, 0, 0, 0, 0) := (fe101 0).trans rfl
theorem f101_1 : gm_fetch 101 1 = some (2, .iload_n 2, 0, 0, 0, 0) := (fe101 1).trans rfl
theorem f101_2 : gm_fetch 101 2 = some (5, .invokevirtual 103, 33, 106, 0, 0) := (fe101 2).trans rfl
theorem f101_5 : gm_fetch 101 5 = some (6, .astore_n 3, 0, 0, 0, 0) := (fe101 5).trans rfl
theorem f101_6 : gm_fetch 101 6 = some (7, .aload_n 0, 0, 0, 0, 0) := (fe101 6).trans rfl
theorem f101_7 : gm_fetch 101 7 = some (10, .getfield 12, 76, 6, 0, 0) := (fe101 7).trans rfl
theorem f101_10 : gm_fetch 101 10 = some (11, .iload_n 1, 0, 0, 0, 0) := (fe101 10).trans rfl
theorem f101_11 : gm_fetch 101 11 = some (14, .invokevirtual 107, 34, 6, 0, 0) := (fe101 11).trans rfl
theorem f101_14 : gm_fetch 101 14 = some (17, .ifCond .eq 7, 0, 21, 0, 0) := (fe101 14).trans rfl
theorem f101_17 : gm_fetch 101 17 = some (18, .aload_n 3, 0, 0, 0, 0) := (fe101 17).trans rfl
theorem f101_18 : gm_fetch 101 18 = some (21, .ifnonnull 6, 0, 24, 0, 0) := (fe101 18).trans rfl
theorem f101_21 : gm_fetch 101 21 = some (23, .bipush (-2), 0, 0, 0, 0) := (fe101 21).trans rfl
theorem f101_23 : gm_fetch 101 23 = some (24, .ireturn, 0, 0, 0, 0) := (fe101 23).trans rfl
theorem f101_24 : gm_fetch 101 24 = some (25, .aload_n 3, 0, 0, 0, 0) := (fe101 24).trans rfl
theorem f101_25 : gm_fetch 101 25 = some (28, .getfield 111, 69, 5, 0, 0) := (fe101 25).trans rfl
theorem f101_28 : gm_fetch 101 28 = some (31, .ifCond .eq 9, 0, 37, 0, 0) := (fe101 28).trans rfl
theorem f101_31 : gm_fetch 101 31 = some (32, .aload_n 0, 0, 0, 0, 0) := (fe101 31).trans rfl
theorem f101_32 : gm_fetch 101 32 = some (33, .iconst 1, 0, 0, 0, 0) := (fe101 32).trans rfl
theorem f101_33 : gm_fetch 101 33 = some (36, .invokevirtual 114, 35, 104, 0, 0) := (fe101 33).trans rfl
theorem f101_36 : gm_fetch 101 36 = some (37, .ireturn, 0, 0, 0, 0) := (fe101 36).trans rfl
theorem f101_37 : gm_fetch 101 37 = some (38, .aload_n 0, 0, 0, 0, 0) := (fe101 37).trans rfl
theorem f101_38 : gm_fetch 101 38 = some (41, .getfield 35, 79, 6, 3, 0) := (fe101 38).trans rfl
theorem f101_41 : gm_fetch 101 41 = some (44, .getfield 54, 61, 2, 0, 0) := (fe101 41).trans rfl
theorem f101_44 : gm_fetch 101 44 = some (47, .ifCond .ne 5, 0, 49, 0, 0) := (fe101 44).trans rfl
theorem f101_47 : gm_fetch 101 47 = some (48, .iconst 0, 0, 0, 0, 0) := (fe101 47).trans rfl
theorem f101_48 : gm_fetch 101 48 = some (49, .ireturn, 0, 0, 0, 0) := (fe101 48).trans rfl
theorem f101_49 : gm_fetch 101 49 = some (50, .aload_n 3, 0, 0, 0, 0) := (fe101 49).trans rfl
theorem f101_50 : gm_fetch 101 50 = some (53, .getfield 118, 73, 5, 2, 0) := (fe101 50).trans rfl
theorem f101_53 : gm_fetch 101 53 = some (54, .aload_n 0, 0, 0, 0, 0) := (fe101 53).trans rfl
theorem f101_54 : gm_fetch 101 54 = some (57, .getfield 12, 76, 6, 0, 0) := (fe101 54).trans rfl
theorem f101_57 : gm_fetch 101 57 = some (60, .getfield 66, 12, 0, 2, 0) := (fe101 57).trans rfl
theorem f101_60 : gm_fetch 101 60 = some (63, .invokestatic 121, 36, 197, 4, 0) := (fe101 60).trans rfl
theorem f101_63 : gm_fetch 101 63 = some (65, .istore 4, 0, 0, 0, 0) := (fe101 63).trans rfl
theorem f101_65 : gm_fetch 101 65 = some (66, .iconst 0, 0, 0, 0, 0) := (fe101 65).trans rfl
theorem f101_66 : gm_fetch 101 66 = some (68, .istore 5, 0, 0, 0, 0) := (fe101 66).trans rfl
theorem f101_68 : gm_fetch 101 68 = some (70, .iload 5, 0, 0, 0, 0) := (fe101 68).trans rfl
theorem f101_70 : gm_fetch 101 70 = some (72, .iload 4, 0, 0, 0, 0) := (fe101 70).trans rfl
theorem f101_72 : gm_fetch 101 72 = some (75, .if_icmp .ge 29, 0, 101, 0, 0) := (fe101 72).trans rfl
theorem f101_75 : gm_fetch 101 75 = some (76, .aload_n 3, 0, 0, 0, 0) := (fe101 75).trans rfl
theorem f101_76 : gm_fetch 101 76 = some (78, .iload 5, 0, 0, 0, 0) := (fe101 76).trans rfl
theorem f101_78 : gm_fetch 101 78 = some (79, .aload_n 0, 0, 0, 0, 0) := (fe101 78).trans rfl
theorem f101_79 : gm_fetch 101 79 = some (82, .getfield 35, 79, 6, 3, 0) := (fe101 79).trans rfl
theorem f101_82 : gm_fetch 101 82 = some (85, .getfield 133, 66, 2, 4, 0) := (fe101 82).trans rfl
theorem f101_85 : gm_fetch 101 85 = some (86, .iload_n 1, 0, 0, 0, 0) := (fe101 85).trans rfl
theorem f101_86 : gm_fetch 101 86 = some (87, .iaload, 0, 0, 0, 0) := (fe101 86).trans rfl
theorem f101_87 : gm_fetch 101 87 = some (89, .iload 5, 0, 0, 0, 0) := (fe101 87).trans rfl
theorem f101_89 : gm_fetch 101 89 = some (92, .invokestatic 176, 93, 110, 0, 0) := (fe101 89).trans rfl
theorem f101_92 : gm_fetch 101 92 = some (95, .invokevirtual 227, 133, 69, 0, 0) := (fe101 92).trans rfl
theorem f101_95 : gm_fetch 101 95 = some (98, .iinc 5 1, 0, 0, 0, 0) := (fe101 95).trans rfl
theorem f101_98 : gm_fetch 101 98 = some (101, .goto (-30), 0, 68, 0, 0) := (fe101 98).trans rfl
theorem f101_101 : gm_fetch 101 101 = some (103, .iload 4, 0, 0, 0, 0) := (fe101 101).trans rfl
theorem f101_103 : gm_fetch 101 103 = some (104, .ireturn, 0, 0, 0, 0) := (fe101 103).trans rfl
set_option maxRecDepth 10000 in
theorem rg101_0 {mi : Mi} {ml : Ml} {F : Int32 → Mi → Ml → Prop} {x1 : Int32} {x2 : Int32}  (h : Sg 106 0 [some (.ref 0), some (.int x2)] [] mi ml (qr fun y1 mi2 ml3 => Sg 6 0 [some (.ref 1), some (.int x1)] [] mi2 ml3 (qi fun y4 mi5 ml6 => ((y4 = 0) → F (-2) mi5 ml6) ∧ (¬ (y4 = 0) → ((y1 = none) → F (-2) mi5 ml6) ∧ (∀ r7 : Nat, y1 = some r7 → isS r7 ∧ ((((mi5 r7 0) = 0) → ((¬ (mi5 23 0) = 0) → Sg 101 68 [some (.ref 0), some (.int x1), some (.int x2), some (.ref r7), some (.int (if (mi5 1 2) < (mi5 r7 2) then (mi5 1 2) else (mi5 r7 2))), some (.int 0)] [] mi5 ml6 (qi F)) ∧ (¬ (¬ (mi5 23 0) = 0) → F 0 mi5 ml6)) ∧ (¬ ((mi5 r7 0) = 0) → Sg 104 0 [some (.ref 0), some (.int 1)] [] mi5 ml6 (qi fun y8 mi9 ml10 => F y8 mi9 ml10)))))))) : Sg 101 0 [some (.ref 0), some (.int x1), some (.int x2), none, none, none] [] mi ml (qi F) := by
  refine sg_ld f101_0 (v := .ref 0) rfl rfl ?_
  refine sg_ld f101_1 (v := .int x2) rfl rfl ?_
  refine sg_cV f101_2 (vs := [.int x2]) (r := 0) (rest := []) (en := [some (.ref 0), some (.int x2)]) pq106 ⟨rfl, rfl⟩ rfl rfl rfl rfl rfl rfl h ?_
  rintro _ mi2 ml3 ⟨y1, rfl, h⟩
  refine sg_sto f101_5 (ls' := [some (.ref 0), some (.int x1), some (.int x2), some (gm_ov y1), none, none]) rfl rfl rfl ?_
  refine sg_ld f101_6 (v := .ref 0) rfl rfl ?_
  refine sg_getr f101_7 rfl rfl (w := 1) rfl ?_
  refine sg_ld f101_10 (v := .int x1) rfl rfl ?_
  refine sg_cV f101_11 (vs := [.int x1]) (r := 1) (rest := []) (en := [some (.ref 1), some (.int x1)]) pq6 ⟨rfl, rfl⟩ rfl rfl rfl rfl rfl rfl h ?_
  rintro _ mi5 ml6 ⟨y4, rfl, h⟩
  refine sg_if f101_14 (fun c => ?_) (fun c => ?_)
  · have h := h.1 c
    refine sg_psh f101_21 (v := .int (-2)) (by decide) ?_
    exact sg_iret f101_23 pq101 rfl rfl ⟨_, rfl, h⟩
  · have h := h.2 c
    refine sg_ldo f101_17 rfl rfl ?_
    cases y1 with
    | none =>
      have h := h.1 rfl
      refine sg_ifnnN f101_18 ?_
      refine sg_psh f101_21 (v := .int (-2)) (by decide) ?_
      exact sg_iret f101_23 pq101 rfl rfl ⟨_, rfl, h⟩
    | some r7 =>
      obtain ⟨hr7, h⟩ := h.2 r7 rfl
      refine sg_ifnn f101_18 ?_
      refine sg_ld f101_24 (v := .ref r7) rfl rfl ?_
      refine sg_geti f101_25 hr7.1 rfl (x := (mi5 r7 0)) rfl ?_
      refine sg_if f101_28 (fun c => ?_) (fun c => ?_)
      · have h := h.1 c
        refine sg_ld f101_37 (v := .ref 0) rfl rfl ?_
        refine sg_getr f101_38 rfl rfl (w := 23) rfl ?_
        refine sg_geti f101_41 rfl rfl (x := (mi5 23 0)) rfl ?_
        refine sg_if f101_44 (fun c => ?_) (fun c => ?_)
        · have h := h.1 c
          refine sg_ld f101_49 (v := .ref r7) rfl rfl ?_
          refine sg_geti f101_50 hr7.1 rfl (x := (mi5 r7 2)) rfl ?_
          refine sg_ld f101_53 (v := .ref 0) rfl rfl ?_
          refine sg_getr f101_54 rfl rfl (w := 1) rfl ?_
          refine sg_geti f101_57 rfl rfl (x := (mi5 1 2)) rfl ?_
          refine sg_mmin f101_60 rfl ?_
          refine sg_st1 f101_63 (ls' := [some (.ref 0), some (.int x1), some (.int x2), some (.ref r7), some (.int (if (mi5 1 2) < (mi5 r7 2) then (mi5 1 2) else (mi5 r7 2))), none]) rfl rfl rfl rfl ?_
          refine sg_psh f101_65 (v := .int 0) (by decide) ?_
          refine sg_st1 f101_66 (ls' := [some (.ref 0), some (.int x1), some (.int x2), some (.ref r7), some (.int (if (mi5 1 2) < (mi5 r7 2) then (mi5 1 2) else (mi5 r7 2))), some (.int 0)]) rfl rfl rfl rfl ?_
          exact h
        · have h := h.2 c
          refine sg_psh f101_47 (v := .int 0) (by decide) ?_
          exact sg_iret f101_48 pq101 rfl rfl ⟨_, rfl, h⟩
      · have h := h.2 c
        refine sg_ld f101_31 (v := .ref 0) rfl rfl ?_
        refine sg_psh f101_32 (v := .int 1) (by decide) ?_
        refine sg_cV f101_33 (vs := [.int 1]) (r := 0) (rest := []) (en := [some (.ref 0), some (.int 1)]) pq104 ⟨rfl, rfl⟩ rfl rfl rfl rfl rfl rfl h ?_
        rintro _ mi9 ml10 ⟨y8, rfl, h⟩
        exact sg_iret f101_36 pq101 rfl rfl ⟨_, rfl, h⟩

set_option maxRecDepth 10000 in
theorem rg101_68 {mi : Mi} {ml : Ml} {F : Int32 → Mi → Ml → Prop} {x1 : Int32} {x2 : Int32} {rx3 : Nat} {x4 : Int32} {x5 : Int32} (hrx3 : isS rx3) (h : ((x4 ≤ x5) → F x4 mi ml) ∧ (¬ (x4 ≤ x5) → (vp_in x1 7) ∧ (Sg 110 0 [some (.int (mi 24 (Int32.toNatClampNeg x1))), some (.int x5), none, none] [] mi ml (qi fun y2 mi3 ml4 => Sg 69 0 [some (.ref rx3), some (.int x5), some (.int y2)] [] mi3 ml4 (qv fun mi6 ml7 => Sg 101 68 [some (.ref 0), some (.int x1), some (.int x2), some (.ref rx3), some (.int x4), some (.int (x5 + 1))] [] mi6 ml7 (qi F)))))) : Sg 101 68 [some (.ref 0), some (.int x1), some (.int x2), some (.ref rx3), some (.int x4), some (.int x5)] [] mi ml (qi F) := by
  refine sg_ld f101_68 (v := .int x5) rfl rfl ?_
  refine sg_ld f101_70 (v := .int x4) rfl rfl ?_
  refine sg_icmp f101_72 (fun c => ?_) (fun c => ?_)
  · have h := h.1 c
    refine sg_ld f101_101 (v := .int x4) rfl rfl ?_
    exact sg_iret f101_103 pq101 rfl rfl ⟨_, rfl, h⟩
  · have h := h.2 c
    refine sg_ld f101_75 (v := .ref rx3) rfl rfl ?_
    refine sg_ld f101_76 (v := .int x5) rfl rfl ?_
    refine sg_ld f101_78 (v := .ref 0) rfl rfl ?_
    refine sg_getr f101_79 rfl rfl (w := 23) rfl ?_
    refine sg_getr f101_82 rfl rfl (w := 24) rfl ?_
    refine sg_ld f101_85 (v := .int x1) rfl rfl ?_
    obtain ⟨e1, h⟩ := h
    refine sg_iald f101_86 rfl e1 (x := (mi 24 (Int32.toNatClampNeg x1))) rfl ?_
    refine sg_ld f101_87 (v := .int x5) rfl rfl ?_
    refine sg_cS f101_89 (vs := [.int (mi 24 (Int32.toNatClampNeg x1)), .int x5]) (rest := [.int x5, .ref rx3]) (en := [some (.int (mi 24 (Int32.toNatClampNeg x1))), some (.int x5), none, none]) (by decide) pq110 ⟨rfl, rfl⟩ rfl rfl rfl rfl rfl h ?_
    rintro _ mi3 ml4 ⟨y2, rfl, h⟩
    refine sg_cV f101_92 (vs := [.int x5, .int y2]) (r := rx3) (rest := []) (en := [some (.ref rx3), some (.int x5), some (.int y2)]) pq69 ⟨rfl, rfl⟩ rfl hrx3.1 rfl rfl rfl rfl h ?_
    intro _ mi6 ml7 h
    have h := gm_qv h
    refine sg_inc f101_95 (d := 1) (ls' := [some (.ref 0), some (.int x1), some (.int x2), some (.ref rx3), some (.int x4), some (.int (x5 + 1))]) rfl (by decide) rfl ?_
    refine sg_goto f101_98 ?_
    exact h

/-! X6_count (I)I -/
theorem fe102 (pc : Nat) : gm_fetch 102 pc = gm_find pc cd_102 := rfl
theorem f102_0 : gm_fetch 102 0 = some (1, .iload_n 1, 0, 0, 0, 0) := (fe102 0).trans rfl
theorem f102_1 : gm_fetch 102 1 = some (52, .tableswitch 130 0 8 #[51, 59, 67, 83, 88, 93, 109, 117, 125], 0, 0, 0, 0) := (fe102 1).trans rfl
theorem f102_52 : gm_fetch 102 52 = some (53, .aload_n 0, 0, 0, 0, 0) := (fe102 52).trans rfl
theorem f102_53 : gm_fetch 102 53 = some (56, .getfield 12, 76, 6, 0, 0) := (fe102 53).trans rfl
theorem f102_56 : gm_fetch 102 56 = some (59, .invokevirtual 58, 18, 10, 0, 0) := (fe102 56).trans rfl
theorem f102_59 : gm_fetch 102 59 = some (60, .ireturn, 0, 0, 0, 0) := (fe102 59).trans rfl
theorem f102_60 : gm_fetch 102 60 = some (61, .aload_n 0, 0, 0, 0, 0) := (fe102 60).trans rfl
theorem f102_61 : gm_fetch 102 61 = some (64, .getfield 12, 76, 6, 0, 0) := (fe102 61).trans rfl
theorem f102_64 : gm_fetch 102 64 = some (67, .invokevirtual 96, 29, 11, 0, 0) := (fe102 64).trans rfl
theorem f102_67 : gm_fetch 102 67 = some (68, .ireturn, 0, 0, 0, 0) := (fe102 67).trans rfl
theorem f102_68 : gm_fetch 102 68 = some (69, .aload_n 0, 0, 0, 0, 0) := (fe102 68).trans rfl
theorem f102_69 : gm_fetch 102 69 = some (72, .getfield 21, 77, 6, 1, 0) := (fe102 69).trans rfl
theorem f102_72 : gm_fetch 102 72 = some (75, .invokevirtual 152, 77, 36, 0, 0) := (fe102 72).trans rfl
theorem f102_75 : gm_fetch 102 75 = some (78, .ifCond .eq 7, 0, 82, 0, 0) := (fe102 75).trans rfl
theorem f102_78 : gm_fetch 102 78 = some (79, .iconst 1, 0, 0, 0, 0) := (fe102 78).trans rfl
theorem f102_79 : gm_fetch 102 79 = some (82, .goto 4, 0, 83, 0, 0) := (fe102 79).trans rfl
theorem f102_82 : gm_fetch 102 82 = some (83, .iconst 0, 0, 0, 0, 0) := (fe102 82).trans rfl
theorem f102_83 : gm_fetch 102 83 = some (84, .ireturn, 0, 0, 0, 0) := (fe102 83).trans rfl
theorem f102_84 : gm_fetch 102 84 = some (85, .aload_n 0, 0, 0, 0, 0) := (fe102 84).trans rfl
theorem f102_85 : gm_fetch 102 85 = some (88, .getfield 164, 82, 6, 6, 0) := (fe102 85).trans rfl
theorem f102_88 : gm_fetch 102 88 = some (89, .ireturn, 0, 0, 0, 0) := (fe102 88).trans rfl
theorem f102_89 : gm_fetch 102 89 = some (90, .aload_n 0, 0, 0, 0, 0) := (fe102 89).trans rfl
theorem f102_90 : gm_fetch 102 90 = some (93, .invokevirtual 208, 120, 107, 0, 0) := (fe102 90).trans rfl
theorem f102_93 : gm_fetch 102 93 = some (94, .ireturn, 0, 0, 0, 0) := (fe102 93).trans rfl
theorem f102_94 : gm_fetch 102 94 = some (95, .aload_n 0, 0, 0, 0, 0) := (fe102 94).trans rfl
theorem f102_95 : gm_fetch 102 95 = some (98, .getfield 35, 79, 6, 3, 0) := (fe102 95).trans rfl
theorem f102_98 : gm_fetch 102 98 = some (101, .getfield 54, 61, 2, 0, 0) := (fe102 98).trans rfl
theorem f102_101 : gm_fetch 102 101 = some (104, .ifCond .eq 7, 0, 108, 0, 0) := (fe102 101).trans rfl
theorem f102_104 : gm_fetch 102 104 = some (105, .iconst 1, 0, 0, 0, 0) := (fe102 104).trans rfl
theorem f102_105 : gm_fetch 102 105 = some (108, .goto 4, 0, 109, 0, 0) := (fe102 105).trans rfl
theorem f102_108 : gm_fetch 102 108 = some (109, .iconst 0, 0, 0, 0, 0) := (fe102 108).trans rfl
theorem f102_109 : gm_fetch 102 109 = some (110, .ireturn, 0, 0, 0, 0) := (fe102 109).trans rfl
theorem f102_110 : gm_fetch 102 110 = some (111, .aload_n 0, 0, 0, 0, 0) := (fe102 110).trans rfl
theorem f102_111 : gm_fetch 102 111 = some (114, .getfield 28, 78, 6, 2, 0) := (fe102 111).trans rfl
theorem f102_114 : gm_fetch 102 114 = some (117, .invokevirtual 198, 114, 13, 0, 0) := (fe102 114).trans rfl
theorem f102_117 : gm_fetch 102 117 = some (118, .ireturn, 0, 0, 0, 0) := (fe102 117).trans rfl
theorem f102_118 : gm_fetch 102 118 = some (119, .aload_n 0, 0, 0, 0, 0) := (fe102 118).trans rfl
theorem f102_119 : gm_fetch 102 119 = some (122, .getfield 21, 77, 6, 1, 0) := (fe102 119).trans rfl
theorem f102_122 : gm_fetch 102 122 = some (125, .invokevirtual 246, 140, 38, 0, 0) := (fe102 122).trans rfl
theorem f102_125 : gm_fetch 102 125 = some (126, .ireturn, 0, 0, 0, 0) := (fe102 125).trans rfl
theorem f102_126 : gm_fetch 102 126 = some (127, .aload_n 0, 0, 0, 0, 0) := (fe102 126).trans rfl
theorem f102_127 : gm_fetch 102 127 = some (130, .getfield 231, 83, 6, 7, 0) := (fe102 127).trans rfl
theorem f102_130 : gm_fetch 102 130 = some (131, .ireturn, 0, 0, 0, 0) := (fe102 130).trans rfl
theorem f102_131 : gm_fetch 102 131 = some (133, .bipush (-2), 0, 0, 0, 0) := (fe102 131).trans rfl
theorem f102_133 : gm_fetch 102 133 = some (134, .ireturn, 0, 0, 0, 0) := (fe102 133).trans rfl
set_option maxRecDepth 10000 in
theorem rg102_0 {mi : Mi} {ml : Ml} {F : Int32 → Mi → Ml → Prop} {x1 : Int32}  (h : ((Int32.toInt x1 < 0 ∨ 8 < Int32.toInt x1) → F (-2) mi ml) ∧ (x1 = nI 0 → Sg 10 0 [some (.ref 1)] [] mi ml (qi fun y1 mi2 ml3 => F y1 mi2 ml3)) ∧ (x1 = nI 1 → Sg 11 0 [some (.ref 1), none, none] [] mi ml (qi fun y4 mi5 ml6 => F y4 mi5 ml6)) ∧ (x1 = nI 2 → Sg 36 0 [some (.ref 3)] [] mi ml (qi fun y7 mi8 ml9 => ((y7 = 0) → F 0 mi8 ml9) ∧ (¬ (y7 = 0) → F 1 mi8 ml9))) ∧ (x1 = nI 3 → F (mi 0 6) mi ml) ∧ (x1 = nI 4 → Sg 107 0 [some (.ref 0), none, none] [] mi ml (qi fun y10 mi11 ml12 => F y10 mi11 ml12)) ∧ (x1 = nI 5 → (((mi 23 0) = 0) → F 0 mi ml) ∧ (¬ ((mi 23 0) = 0) → F 1 mi ml)) ∧ (x1 = nI 6 → Sg 13 0 [some (.ref 18)] [] mi ml (qi fun y13 mi14 ml15 => F y13 mi14 ml15)) ∧ (x1 = nI 7 → Sg 38 0 [some (.ref 3), none, none] [] mi ml (qi fun y16 mi17 ml18 => F y16 mi17 ml18)) ∧ (x1 = nI 8 → F (mi 0 7) mi ml)) : Sg 102 0 [some (.ref 0), some (.int x1)] [] mi ml (qi F) := by
  refine sg_ld f102_0 (v := .int x1) rfl rfl ?_
  by_cases c : Int32.toInt x1 < 0 ∨ 8 < Int32.toInt x1
  · have h := h.1 c
    refine sg_tabO f102_1 c (t := 131) (by decide) ?_
    refine sg_psh f102_131 (v := .int (-2)) (by decide) ?_
    exact sg_iret f102_133 pq102 rfl rfl ⟨_, rfl, h⟩
  · have h := h.2
    obtain ⟨kk, hk, hx⟩ := gm_swk (n := 8) c
    rcases (show kk = 0 ∨ kk = 1 ∨ kk = 2 ∨ kk = 3 ∨ kk = 4 ∨ kk = 5 ∨ kk = 6 ∨ kk = 7 ∨ kk = 8 by omega) with rfl | rfl | rfl | rfl | rfl | rfl | rfl | rfl | rfl
    · have h := h.1 hx
      refine sg_tabI f102_1 (by rw [hx]; decide) (by rw [hx]; decide) (off := 51) (t := 52) (by rw [hx]; decide) (by decide) ?_
      refine sg_ld f102_52 (v := .ref 0) rfl rfl ?_
      refine sg_getr f102_53 rfl rfl (w := 1) rfl ?_
      refine sg_cV f102_56 (vs := []) (r := 1) (rest := []) (en := [some (.ref 1)]) pq10 ⟨rfl, rfl⟩ rfl rfl rfl rfl rfl rfl h ?_
      rintro _ mi2 ml3 ⟨y1, rfl, h⟩
      exact sg_iret f102_59 pq102 rfl rfl ⟨_, rfl, h⟩
    · have h := h.2.1 hx
      refine sg_tabI f102_1 (by rw [hx]; decide) (by rw [hx]; decide) (off := 59) (t := 60) (by rw [hx]; decide) (by decide) ?_
      refine sg_ld f102_60 (v := .ref 0) rfl rfl ?_
      refine sg_getr f102_61 rfl rfl (w := 1) rfl ?_
      refine sg_cV f102_64 (vs := []) (r := 1) (rest := []) (en := [some (.ref 1), none, none]) pq11 ⟨rfl, rfl⟩ rfl rfl rfl rfl rfl rfl h ?_
      rintro _ mi5 ml6 ⟨y4, rfl, h⟩
      exact sg_iret f102_67 pq102 rfl rfl ⟨_, rfl, h⟩
    · have h := h.2.2.1 hx
      refine sg_tabI f102_1 (by rw [hx]; decide) (by rw [hx]; decide) (off := 67) (t := 68) (by rw [hx]; decide) (by decide) ?_
      refine sg_ld f102_68 (v := .ref 0) rfl rfl ?_
      refine sg_getr f102_69 rfl rfl (w := 3) rfl ?_
      refine sg_cV f102_72 (vs := []) (r := 3) (rest := []) (en := [some (.ref 3)]) pq36 ⟨rfl, rfl⟩ rfl rfl rfl rfl rfl rfl h ?_
      rintro _ mi8 ml9 ⟨y7, rfl, h⟩
      refine sg_if f102_75 (fun c => ?_) (fun c => ?_)
      · have h := h.1 c
        refine sg_psh f102_82 (v := .int 0) (by decide) ?_
        exact sg_iret f102_83 pq102 rfl rfl ⟨_, rfl, h⟩
      · have h := h.2 c
        refine sg_psh f102_78 (v := .int 1) (by decide) ?_
        refine sg_goto f102_79 ?_
        exact sg_iret f102_83 pq102 rfl rfl ⟨_, rfl, h⟩
    · have h := h.2.2.2.1 hx
      refine sg_tabI f102_1 (by rw [hx]; decide) (by rw [hx]; decide) (off := 83) (t := 84) (by rw [hx]; decide) (by decide) ?_
      refine sg_ld f102_84 (v := .ref 0) rfl rfl ?_
      refine sg_geti f102_85 rfl rfl (x := (mi 0 6)) rfl ?_
      exact sg_iret f102_88 pq102 rfl rfl ⟨_, rfl, h⟩
    · have h := h.2.2.2.2.1 hx
      refine sg_tabI f102_1 (by rw [hx]; decide) (by rw [hx]; decide) (off := 88) (t := 89) (by rw [hx]; decide) (by decide) ?_
      refine sg_ld f102_89 (v := .ref 0) rfl rfl ?_
      refine sg_cV f102_90 (vs := []) (r := 0) (rest := []) (en := [some (.ref 0), none, none]) pq107 ⟨rfl, rfl⟩ rfl rfl rfl rfl rfl rfl h ?_
      rintro _ mi11 ml12 ⟨y10, rfl, h⟩
      exact sg_iret f102_93 pq102 rfl rfl ⟨_, rfl, h⟩
    · have h := h.2.2.2.2.2.1 hx
      refine sg_tabI f102_1 (by rw [hx]; decide) (by rw [hx]; decide) (off := 93) (t := 94) (by rw [hx]; decide) (by decide) ?_
      refine sg_ld f102_94 (v := .ref 0) rfl rfl ?_
      refine sg_getr f102_95 rfl rfl (w := 23) rfl ?_
      refine sg_geti f102_98 rfl rfl (x := (mi 23 0)) rfl ?_
      refine sg_if f102_101 (fun c => ?_) (fun c => ?_)
      · have h := h.1 c
        refine sg_psh f102_108 (v := .int 0) (by decide) ?_
        exact sg_iret f102_109 pq102 rfl rfl ⟨_, rfl, h⟩
      · have h := h.2 c
        refine sg_psh f102_104 (v := .int 1) (by decide) ?_
        refine sg_goto f102_105 ?_
        exact sg_iret f102_109 pq102 rfl rfl ⟨_, rfl, h⟩
    · have h := h.2.2.2.2.2.2.1 hx
      refine sg_tabI f102_1 (by rw [hx]; decide) (by rw [hx]; decide) (off := 109) (t := 110) (by rw [hx]; decide) (by decide) ?_
      refine sg_ld f102_110 (v := .ref 0) rfl rfl ?_
      refine sg_getr f102_111 rfl rfl (w := 18) rfl ?_
      refine sg_cV f102_114 (vs := []) (r := 18) (rest := []) (en := [some (.ref 18)]) pq13 ⟨rfl, rfl⟩ rfl rfl rfl rfl rfl rfl h ?_
      rintro _ mi14 ml15 ⟨y13, rfl, h⟩
      exact sg_iret f102_117 pq102 rfl rfl ⟨_, rfl, h⟩
    · have h := h.2.2.2.2.2.2.2.1 hx
      refine sg_tabI f102_1 (by rw [hx]; decide) (by rw [hx]; decide) (off := 117) (t := 118) (by rw [hx]; decide) (by decide) ?_
      refine sg_ld f102_118 (v := .ref 0) rfl rfl ?_
      refine sg_getr f102_119 rfl rfl (w := 3) rfl ?_
      refine sg_cV f102_122 (vs := []) (r := 3) (rest := []) (en := [some (.ref 3), none, none]) pq38 ⟨rfl, rfl⟩ rfl rfl rfl rfl rfl rfl h ?_
      rintro _ mi17 ml18 ⟨y16, rfl, h⟩
      exact sg_iret f102_125 pq102 rfl rfl ⟨_, rfl, h⟩
    · have h := h.2.2.2.2.2.2.2.2 hx
      refine sg_tabI f102_1 (by rw [hx]; decide) (by rw [hx]; decide) (off := 125) (t := 126) (by rw [hx]; decide) (by decide) ?_
      refine sg_ld f102_126 (v := .ref 0) rfl rfl ?_
      refine sg_geti f102_127 rfl rfl (x := (mi 0 7)) rfl ?_
      exact sg_iret f102_130 pq102 rfl rfl ⟨_, rfl, h⟩

/-! X6_digest ()J -/
theorem fe103 (pc : Nat) : gm_fetch 103 pc = gm_find pc cd_103 := rfl
set_option maxRecDepth 10000 in
theorem f103_0 : gm_fetch 103 0 = some (3, .ldc2_w 249, 3, 0, 0, 17) := (fe103 0).trans rfl
set_option maxRecDepth 10000 in
theorem f103_3 : gm_fetch 103 3 = some (4, .lstore_n 1, 0, 0, 0, 0) := (fe103 3).trans rfl
set_option maxRecDepth 10000 in
theorem f103_4 : gm_fetch 103 4 = some (5, .iconst 0, 0, 0, 0, 0) := (fe103 4).trans rfl
set_option maxRecDepth 10000 in
theorem f103_5 : gm_fetch 103 5 = some (6, .istore_n 3, 0, 0, 0, 0) := (fe103 5).trans rfl
set_option maxRecDepth 10000 in
theorem f103_6 : gm_fetch 103 6 = some (7, .iload_n 3, 0, 0, 0, 0) := (fe103 6).trans rfl
set_option maxRecDepth 10000 in
theorem f103_7 : gm_fetch 103 7 = some (9, .bipush 7, 0, 0, 0, 0) := (fe103 7).trans rfl
set_option maxRecDepth 10000 in
theorem f103_9 : gm_fetch 103 9 = some (12, .if_icmp .gt 22, 0, 31, 0, 0) := (fe103 9).trans rfl
set_option maxRecDepth 10000 in
theorem f103_12 : gm_fetch 103 12 = some (15, .ldc2_w 251, 4, 0, 0, 31) := (fe103 12).trans rfl
set_option maxRecDepth 10000 in
theorem f103_15 : gm_fetch 103 15 = some (16, .lload_n 1, 0, 0, 0, 0) := (fe103 15).trans rfl
set_option maxRecDepth 10000 in
theorem f103_16 : gm_fetch 103 16 = some (17, .lmul, 0, 0, 0, 0) := (fe103 16).trans rfl
set_option maxRecDepth 10000 in
theorem f103_17 : gm_fetch 103 17 = some (18, .aload_n 0, 0, 0, 0, 0) := (fe103 17).trans rfl
set_option maxRecDepth 10000 in
theorem f103_18 : gm_fetch 103 18 = some (19, .iload_n 3, 0, 0, 0, 0) := (fe103 18).trans rfl
set_option maxRecDepth 10000 in
theorem f103_19 : gm_fetch 103 19 = some (22, .invokevirtual 253, 142, 102, 0, 0) := (fe103 19).trans rfl
set_option maxRecDepth 10000 in
theorem f103_22 : gm_fetch 103 22 = some (23, .i2l, 0, 0, 0, 0) := (fe103 22).trans rfl
set_option maxRecDepth 10000 in
theorem f103_23 : gm_fetch 103 23 = some (24, .ladd, 0, 0, 0, 0) := (fe103 23).trans rfl
set_option maxRecDepth 10000 in
theorem f103_24 : gm_fetch 103 24 = some (25, .lstore_n 1, 0, 0, 0, 0) := (fe103 24).trans rfl
set_option maxRecDepth 10000 in
theorem f103_25 : gm_fetch 103 25 = some (28, .iinc 3 1, 0, 0, 0, 0) := (fe103 25).trans rfl
set_option maxRecDepth 10000 in
theorem f103_28 : gm_fetch 103 28 = some (31, .goto (-22), 0, 6, 0, 0) := (fe103 28).trans rfl
set_option maxRecDepth 10000 in
theorem f103_31 : gm_fetch 103 31 = some (34, .ldc2_w 251, 4, 0, 0, 31) := (fe103 31).trans rfl
set_option maxRecDepth 10000 in
theorem f103_34 : gm_fetch 103 34 = some (35, .lload_n 1, 0, 0, 0, 0) := (fe103 34).trans rfl
set_option maxRecDepth 10000 in
theorem f103_35 : gm_fetch 103 35 = some (36, .lmul, 0, 0, 0, 0) := (fe103 35).trans rfl
set_option maxRecDepth 10000 in
theorem f103_36 : gm_fetch 103 36 = some (37, .aload_n 0, 0, 0, 0, 0) := (fe103 36).trans rfl
set_option maxRecDepth 10000 in
theorem f103_37 : gm_fetch 103 37 = some (40, .invokevirtual 256, 143, 81, 0, 0) := (fe103 37).trans rfl
set_option maxRecDepth 10000 in
theorem f103_40 : gm_fetch 103 40 = some (41, .i2l, 0, 0, 0, 0) := (fe103 40).trans rfl
set_option maxRecDepth 10000 in
theorem f103_41 : gm_fetch 103 41 = some (42, .ladd, 0, 0, 0, 0) := (fe103 41).trans rfl
set_option maxRecDepth 10000 in
theorem f103_42 : gm_fetch 103 42 = some (43, .lstore_n 1, 0, 0, 0, 0) := (fe103 42).trans rfl
set_option maxRecDepth 10000 in
theorem f103_43 : gm_fetch 103 43 = some (46, .ldc2_w 251, 4, 0, 0, 31) := (fe103 43).trans rfl
set_option maxRecDepth 10000 in
theorem f103_46 : gm_fetch 103 46 = some (47, .lload_n 1, 0, 0, 0, 0) := (fe103 46).trans rfl
set_option maxRecDepth 10000 in
theorem f103_47 : gm_fetch 103 47 = some (48, .lmul, 0, 0, 0, 0) := (fe103 47).trans rfl
set_option maxRecDepth 10000 in
theorem f103_48 : gm_fetch 103 48 = some (49, .aload_n 0, 0, 0, 0, 0) := (fe103 48).trans rfl
set_option maxRecDepth 10000 in
theorem f103_49 : gm_fetch 103 49 = some (52, .invokevirtual 259, 144, 85, 0, 0) := (fe103 49).trans rfl
set_option maxRecDepth 10000 in
theorem f103_52 : gm_fetch 103 52 = some (53, .i2l, 0, 0, 0, 0) := (fe103 52).trans rfl
set_option maxRecDepth 10000 in
theorem f103_53 : gm_fetch 103 53 = some (54, .ladd, 0, 0, 0, 0) := (fe103 53).trans rfl
set_option maxRecDepth 10000 in
theorem f103_54 : gm_fetch 103 54 = some (55, .lstore_n 1, 0, 0, 0, 0) := (fe103 54).trans rfl
set_option maxRecDepth 10000 in
theorem f103_55 : gm_fetch 103 55 = some (58, .ldc2_w 251, 4, 0, 0, 31) := (fe103 55).trans rfl
set_option maxRecDepth 10000 in
theorem f103_58 : gm_fetch 103 58 = some (59, .lload_n 1, 0, 0, 0, 0) := (fe103 58).trans rfl
set_option maxRecDepth 10000 in
theorem f103_59 : gm_fetch 103 59 = some (60, .lmul, 0, 0, 0, 0) := (fe103 59).trans rfl
set_option maxRecDepth 10000 in
theorem f103_60 : gm_fetch 103 60 = some (61, .aload_n 0, 0, 0, 0, 0) := (fe103 60).trans rfl
set_option maxRecDepth 10000 in
theorem f103_61 : gm_fetch 103 61 = some (62, .iconst 0, 0, 0, 0, 0) := (fe103 61).trans rfl
set_option maxRecDepth 10000 in
theorem f103_62 : gm_fetch 103 62 = some (65, .invokevirtual 262, 145, 86, 0, 0) := (fe103 62).trans rfl
set_option maxRecDepth 10000 in
theorem f103_65 : gm_fetch 103 65 = some (66, .i2l, 0, 0, 0, 0) := (fe103 65).trans rfl
set_option maxRecDepth 10000 in
theorem f103_66 : gm_fetch 103 66 = some (67, .ladd, 0, 0, 0, 0) := (fe103 66).trans rfl
set_option maxRecDepth 10000 in
theorem f103_67 : gm_fetch 103 67 = some (68, .lstore_n 1, 0, 0, 0, 0) := (fe103 67).trans rfl
set_option maxRecDepth 10000 in
theorem f103_68 : gm_fetch 103 68 = some (71, .ldc2_w 251, 4, 0, 0, 31) := (fe103 68).trans rfl
set_option maxRecDepth 10000 in
theorem f103_71 : gm_fetch 103 71 = some (72, .lload_n 1, 0, 0, 0, 0) := (fe103 71).trans rfl
set_option maxRecDepth 10000 in
theorem f103_72 : gm_fetch 103 72 = some (73, .lmul, 0, 0, 0, 0) := (fe103 72).trans rfl
set_option maxRecDepth 10000 in
theorem f103_73 : gm_fetch 103 73 = some (74, .aload_n 0, 0, 0, 0, 0) := (fe103 73).trans rfl
set_option maxRecDepth 10000 in
theorem f103_74 : gm_fetch 103 74 = some (75, .iconst 1, 0, 0, 0, 0) := (fe103 74).trans rfl
set_option maxRecDepth 10000 in
theorem f103_75 : gm_fetch 103 75 = some (78, .invokevirtual 262, 145, 86, 0, 0) := (fe103 75).trans rfl
set_option maxRecDepth 10000 in
theorem f103_78 : gm_fetch 103 78 = some (79, .i2l, 0, 0, 0, 0) := (fe103 78).trans rfl
set_option maxRecDepth 10000 in
theorem f103_79 : gm_fetch 103 79 = some (80, .ladd, 0, 0, 0, 0) := (fe103 79).trans rfl
set_option maxRecDepth 10000 in
theorem f103_80 : gm_fetch 103 80 = some (81, .lstore_n 1, 0, 0, 0, 0) := (fe103 80).trans rfl
set_option maxRecDepth 10000 in
theorem f103_81 : gm_fetch 103 81 = some (84, .ldc2_w 251, 4, 0, 0, 31) := (fe103 81).trans rfl
set_option maxRecDepth 10000 in
theorem f103_84 : gm_fetch 103 84 = some (85, .lload_n 1, 0, 0, 0, 0) := (fe103 84).trans rfl
set_option maxRecDepth 10000 in
theorem f103_85 : gm_fetch 103 85 = some (86, .lmul, 0, 0, 0, 0) := (fe103 85).trans rfl
set_option maxRecDepth 10000 in
theorem f103_86 : gm_fetch 103 86 = some (87, .aload_n 0, 0, 0, 0, 0) := (fe103 86).trans rfl
set_option maxRecDepth 10000 in
theorem f103_87 : gm_fetch 103 87 = some (90, .invokevirtual 265, 146, 87, 0, 0) := (fe103 87).trans rfl
set_option maxRecDepth 10000 in
theorem f103_90 : gm_fetch 103 90 = some (91, .i2l, 0, 0, 0, 0) := (fe103 90).trans rfl
set_option maxRecDepth 10000 in
theorem f103_91 : gm_fetch 103 91 = some (92, .ladd, 0, 0, 0, 0) := (fe103 91).trans rfl
set_option maxRecDepth 10000 in
theorem f103_92 : gm_fetch 103 92 = some (93, .lstore_n 1, 0, 0, 0, 0) := (fe103 92).trans rfl
set_option maxRecDepth 10000 in
theorem f103_93 : gm_fetch 103 93 = some (96, .ldc2_w 251, 4, 0, 0, 31) := (fe103 93).trans rfl
set_option maxRecDepth 10000 in
theorem f103_96 : gm_fetch 103 96 = some (97, .lload_n 1, 0, 0, 0, 0) := (fe103 96).trans rfl
set_option maxRecDepth 10000 in
theorem f103_97 : gm_fetch 103 97 = some (98, .lmul, 0, 0, 0, 0) := (fe103 97).trans rfl
set_option maxRecDepth 10000 in
theorem f103_98 : gm_fetch 103 98 = some (99, .aload_n 0, 0, 0, 0, 0) := (fe103 98).trans rfl
set_option maxRecDepth 10000 in
theorem f103_99 : gm_fetch 103 99 = some (102, .invokevirtual 268, 147, 88, 0, 0) := (fe103 99).trans rfl
set_option maxRecDepth 10000 in
theorem f103_102 : gm_fetch 103 102 = some (103, .i2l, 0, 0, 0, 0) := (fe103 102).trans rfl
set_option maxRecDepth 10000 in
theorem f103_103 : gm_fetch 103 103 = some (104, .ladd, 0, 0, 0, 0) := (fe103 103).trans rfl
set_option maxRecDepth 10000 in
theorem f103_104 : gm_fetch 103 104 = some (105, .lstore_n 1, 0, 0, 0, 0) := (fe103 104).trans rfl
set_option maxRecDepth 10000 in
theorem f103_105 : gm_fetch 103 105 = some (108, .ldc2_w 251, 4, 0, 0, 31) := (fe103 105).trans rfl
set_option maxRecDepth 10000 in
theorem f103_108 : gm_fetch 103 108 = some (109, .lload_n 1, 0, 0, 0, 0) := (fe103 108).trans rfl
set_option maxRecDepth 10000 in
theorem f103_109 : gm_fetch 103 109 = some (110, .lmul, 0, 0, 0, 0) := (fe103 109).trans rfl
set_option maxRecDepth 10000 in
theorem f103_110 : gm_fetch 103 110 = some (111, .aload_n 0, 0, 0, 0, 0) := (fe103 110).trans rfl
set_option maxRecDepth 10000 in
theorem f103_111 : gm_fetch 103 111 = some (112, .iconst 0, 0, 0, 0, 0) := (fe103 111).trans rfl
set_option maxRecDepth 10000 in
theorem f103_112 : gm_fetch 103 112 = some (115, .invokevirtual 271, 148, 89, 0, 0) := (fe103 112).trans rfl
set_option maxRecDepth 10000 in
theorem f103_115 : gm_fetch 103 115 = some (116, .i2l, 0, 0, 0, 0) := (fe103 115).trans rfl
set_option maxRecDepth 10000 in
theorem f103_116 : gm_fetch 103 116 = some (117, .ladd, 0, 0, 0, 0) := (fe103 116).trans rfl
set_option maxRecDepth 10000 in
theorem f103_117 : gm_fetch 103 117 = some (118, .lstore_n 1, 0, 0, 0, 0) := (fe103 117).trans rfl
set_option maxRecDepth 10000 in
theorem f103_118 : gm_fetch 103 118 = some (121, .ldc2_w 251, 4, 0, 0, 31) := (fe103 118).trans rfl
set_option maxRecDepth 10000 in
theorem f103_121 : gm_fetch 103 121 = some (122, .lload_n 1, 0, 0, 0, 0) := (fe103 121).trans rfl
set_option maxRecDepth 10000 in
theorem f103_122 : gm_fetch 103 122 = some (123, .lmul, 0, 0, 0, 0) := (fe103 122).trans rfl
set_option maxRecDepth 10000 in
theorem f103_123 : gm_fetch 103 123 = some (124, .aload_n 0, 0, 0, 0, 0) := (fe103 123).trans rfl
set_option maxRecDepth 10000 in
theorem f103_124 : gm_fetch 103 124 = some (125, .iconst 1, 0, 0, 0, 0) := (fe103 124).trans rfl
set_option maxRecDepth 10000 in
theorem f103_125 : gm_fetch 103 125 = some (128, .invokevirtual 271, 148, 89, 0, 0) := (fe103 125).trans rfl
set_option maxRecDepth 10000 in
theorem f103_128 : gm_fetch 103 128 = some (129, .i2l, 0, 0, 0, 0) := (fe103 128).trans rfl
set_option maxRecDepth 10000 in
theorem f103_129 : gm_fetch 103 129 = some (130, .ladd, 0, 0, 0, 0) := (fe103 129).trans rfl
set_option maxRecDepth 10000 in
theorem f103_130 : gm_fetch 103 130 = some (131, .lstore_n 1, 0, 0, 0, 0) := (fe103 130).trans rfl
set_option maxRecDepth 10000 in
theorem f103_131 : gm_fetch 103 131 = some (134, .ldc2_w 251, 4, 0, 0, 31) := (fe103 131).trans rfl
set_option maxRecDepth 10000 in
theorem f103_134 : gm_fetch 103 134 = some (135, .lload_n 1, 0, 0, 0, 0) := (fe103 134).trans rfl
set_option maxRecDepth 10000 in
theorem f103_135 : gm_fetch 103 135 = some (136, .lmul, 0, 0, 0, 0) := (fe103 135).trans rfl
set_option maxRecDepth 10000 in
theorem f103_136 : gm_fetch 103 136 = some (137, .aload_n 0, 0, 0, 0, 0) := (fe103 136).trans rfl
set_option maxRecDepth 10000 in
theorem f103_137 : gm_fetch 103 137 = some (140, .invokevirtual 274, 149, 91, 0, 0) := (fe103 137).trans rfl
set_option maxRecDepth 10000 in
theorem f103_140 : gm_fetch 103 140 = some (141, .ladd, 0, 0, 0, 0) := (fe103 140).trans rfl
set_option maxRecDepth 10000 in
theorem f103_141 : gm_fetch 103 141 = some (142, .lstore_n 1, 0, 0, 0, 0) := (fe103 141).trans rfl
set_option maxRecDepth 10000 in
theorem f103_142 : gm_fetch 103 142 = some (143, .iconst 0, 0, 0, 0, 0) := (fe103 142).trans rfl
set_option maxRecDepth 10000 in
theorem f103_143 : gm_fetch 103 143 = some (144, .istore_n 3, 0, 0, 0, 0) := (fe103 143).trans rfl
set_option maxRecDepth 10000 in
theorem f103_144 : gm_fetch 103 144 = some (145, .iload_n 3, 0, 0, 0, 0) := (fe103 144).trans rfl
set_option maxRecDepth 10000 in
theorem f103_145 : gm_fetch 103 145 = some (146, .aload_n 0, 0, 0, 0, 0) := (fe103 145).trans rfl
set_option maxRecDepth 10000 in
theorem f103_146 : gm_fetch 103 146 = some (149, .getfield 12, 76, 6, 0, 0) := (fe103 146).trans rfl
set_option maxRecDepth 10000 in
theorem f103_149 : gm_fetch 103 149 = some (152, .getfield 99, 4, 0, 0, 0) := (fe103 149).trans rfl
set_option maxRecDepth 10000 in
theorem f103_152 : gm_fetch 103 152 = some (155, .if_icmp .ge 58, 0, 210, 0, 0) := (fe103 152).trans rfl
set_option maxRecDepth 10000 in
theorem f103_155 : gm_fetch 103 155 = some (158, .ldc2_w 251, 4, 0, 0, 31) := (fe103 155).trans rfl
set_option maxRecDepth 10000 in
theorem f103_158 : gm_fetch 103 158 = some (159, .lload_n 1, 0, 0, 0, 0) := (fe103 158).trans rfl
set_option maxRecDepth 10000 in
theorem f103_159 : gm_fetch 103 159 = some (160, .lmul, 0, 0, 0, 0) := (fe103 159).trans rfl
set_option maxRecDepth 10000 in
theorem f103_160 : gm_fetch 103 160 = some (161, .aload_n 0, 0, 0, 0, 0) := (fe103 160).trans rfl
set_option maxRecDepth 10000 in
theorem f103_161 : gm_fetch 103 161 = some (162, .iload_n 3, 0, 0, 0, 0) := (fe103 161).trans rfl
set_option maxRecDepth 10000 in
theorem f103_162 : gm_fetch 103 162 = some (165, .invokevirtual 277, 150, 84, 0, 0) := (fe103 162).trans rfl
set_option maxRecDepth 10000 in
theorem f103_165 : gm_fetch 103 165 = some (166, .i2l, 0, 0, 0, 0) := (fe103 165).trans rfl
set_option maxRecDepth 10000 in
theorem f103_166 : gm_fetch 103 166 = some (167, .ladd, 0, 0, 0, 0) := (fe103 166).trans rfl
set_option maxRecDepth 10000 in
theorem f103_167 : gm_fetch 103 167 = some (168, .lstore_n 1, 0, 0, 0, 0) := (fe103 167).trans rfl
set_option maxRecDepth 10000 in
theorem f103_168 : gm_fetch 103 168 = some (169, .iconst 0, 0, 0, 0, 0) := (fe103 168).trans rfl
set_option maxRecDepth 10000 in
theorem f103_169 : gm_fetch 103 169 = some (171, .istore 4, 0, 0, 0, 0) := (fe103 169).trans rfl
set_option maxRecDepth 10000 in
theorem f103_171 : gm_fetch 103 171 = some (173, .iload 4, 0, 0, 0, 0) := (fe103 171).trans rfl
set_option maxRecDepth 10000 in
theorem f103_173 : gm_fetch 103 173 = some (174, .aload_n 0, 0, 0, 0, 0) := (fe103 173).trans rfl
set_option maxRecDepth 10000 in
theorem f103_174 : gm_fetch 103 174 = some (177, .getfield 12, 76, 6, 0, 0) := (fe103 174).trans rfl
set_option maxRecDepth 10000 in
theorem f103_177 : gm_fetch 103 177 = some (180, .getfield 66, 12, 0, 2, 0) := (fe103 177).trans rfl
set_option maxRecDepth 10000 in
theorem f103_180 : gm_fetch 103 180 = some (183, .if_icmp .ge 24, 0, 204, 0, 0) := (fe103 180).trans rfl
set_option maxRecDepth 10000 in
theorem f103_183 : gm_fetch 103 183 = some (186, .ldc2_w 251, 4, 0, 0, 31) := (fe103 183).trans rfl
set_option maxRecDepth 10000 in
theorem f103_186 : gm_fetch 103 186 = some (187, .lload_n 1, 0, 0, 0, 0) := (fe103 186).trans rfl
set_option maxRecDepth 10000 in
theorem f103_187 : gm_fetch 103 187 = some (188, .lmul, 0, 0, 0, 0) := (fe103 187).trans rfl
set_option maxRecDepth 10000 in
theorem f103_188 : gm_fetch 103 188 = some (189, .aload_n 0, 0, 0, 0, 0) := (fe103 188).trans rfl
set_option maxRecDepth 10000 in
theorem f103_189 : gm_fetch 103 189 = some (190, .iload_n 3, 0, 0, 0, 0) := (fe103 189).trans rfl
set_option maxRecDepth 10000 in
theorem f103_190 : gm_fetch 103 190 = some (192, .iload 4, 0, 0, 0, 0) := (fe103 190).trans rfl
set_option maxRecDepth 10000 in
theorem f103_192 : gm_fetch 103 192 = some (195, .invokevirtual 279, 151, 83, 0, 0) := (fe103 192).trans rfl
set_option maxRecDepth 10000 in
theorem f103_195 : gm_fetch 103 195 = some (196, .i2l, 0, 0, 0, 0) := (fe103 195).trans rfl
set_option maxRecDepth 10000 in
theorem f103_196 : gm_fetch 103 196 = some (197, .ladd, 0, 0, 0, 0) := (fe103 196).trans rfl
set_option maxRecDepth 10000 in
theorem f103_197 : gm_fetch 103 197 = some (198, .lstore_n 1, 0, 0, 0, 0) := (fe103 197).trans rfl
set_option maxRecDepth 10000 in
theorem f103_198 : gm_fetch 103 198 = some (201, .iinc 4 1, 0, 0, 0, 0) := (fe103 198).trans rfl
set_option maxRecDepth 10000 in
theorem f103_201 : gm_fetch 103 201 = some (204, .goto (-30), 0, 171, 0, 0) := (fe103 201).trans rfl
set_option maxRecDepth 10000 in
theorem f103_204 : gm_fetch 103 204 = some (207, .iinc 3 1, 0, 0, 0, 0) := (fe103 204).trans rfl
set_option maxRecDepth 10000 in
theorem f103_207 : gm_fetch 103 207 = some (210, .goto (-63), 0, 144, 0, 0) := (fe103 207).trans rfl
set_option maxRecDepth 10000 in
theorem f103_210 : gm_fetch 103 210 = some (211, .iconst 0, 0, 0, 0, 0) := (fe103 210).trans rfl
set_option maxRecDepth 10000 in
theorem f103_211 : gm_fetch 103 211 = some (212, .istore_n 3, 0, 0, 0, 0) := (fe103 211).trans rfl
set_option maxRecDepth 10000 in
theorem f103_212 : gm_fetch 103 212 = some (213, .iload_n 3, 0, 0, 0, 0) := (fe103 212).trans rfl
set_option maxRecDepth 10000 in
theorem f103_213 : gm_fetch 103 213 = some (214, .aload_n 0, 0, 0, 0, 0) := (fe103 213).trans rfl
set_option maxRecDepth 10000 in
theorem f103_214 : gm_fetch 103 214 = some (217, .getfield 12, 76, 6, 0, 0) := (fe103 214).trans rfl
set_option maxRecDepth 10000 in
theorem f103_217 : gm_fetch 103 217 = some (220, .getfield 99, 4, 0, 0, 0) := (fe103 217).trans rfl
set_option maxRecDepth 10000 in
theorem f103_220 : gm_fetch 103 220 = some (223, .if_icmp .ge 62, 0, 282, 0, 0) := (fe103 220).trans rfl
set_option maxRecDepth 10000 in
theorem f103_223 : gm_fetch 103 223 = some (224, .iconst 0, 0, 0, 0, 0) := (fe103 223).trans rfl
set_option maxRecDepth 10000 in
theorem f103_224 : gm_fetch 103 224 = some (226, .istore 4, 0, 0, 0, 0) := (fe103 224).trans rfl
set_option maxRecDepth 10000 in
theorem f103_226 : gm_fetch 103 226 = some (228, .iload 4, 0, 0, 0, 0) := (fe103 226).trans rfl
set_option maxRecDepth 10000 in
theorem f103_228 : gm_fetch 103 228 = some (229, .aload_n 0, 0, 0, 0, 0) := (fe103 228).trans rfl
set_option maxRecDepth 10000 in
theorem f103_229 : gm_fetch 103 229 = some (232, .getfield 12, 76, 6, 0, 0) := (fe103 229).trans rfl
set_option maxRecDepth 10000 in
theorem f103_232 : gm_fetch 103 232 = some (235, .getfield 62, 7, 0, 1, 0) := (fe103 232).trans rfl
set_option maxRecDepth 10000 in
theorem f103_235 : gm_fetch 103 235 = some (238, .if_icmp .ge 41, 0, 276, 0, 0) := (fe103 235).trans rfl
set_option maxRecDepth 10000 in
theorem f103_238 : gm_fetch 103 238 = some (239, .iconst 0, 0, 0, 0, 0) := (fe103 238).trans rfl
set_option maxRecDepth 10000 in
theorem f103_239 : gm_fetch 103 239 = some (241, .istore 5, 0, 0, 0, 0) := (fe103 239).trans rfl
set_option maxRecDepth 10000 in
theorem f103_241 : gm_fetch 103 241 = some (243, .iload 5, 0, 0, 0, 0) := (fe103 241).trans rfl
set_option maxRecDepth 10000 in
theorem f103_243 : gm_fetch 103 243 = some (244, .iconst 4, 0, 0, 0, 0) := (fe103 243).trans rfl
set_option maxRecDepth 10000 in
theorem f103_244 : gm_fetch 103 244 = some (247, .if_icmp .gt 26, 0, 270, 0, 0) := (fe103 244).trans rfl
set_option maxRecDepth 10000 in
theorem f103_247 : gm_fetch 103 247 = some (250, .ldc2_w 251, 4, 0, 0, 31) := (fe103 247).trans rfl
set_option maxRecDepth 10000 in
theorem f103_250 : gm_fetch 103 250 = some (251, .lload_n 1, 0, 0, 0, 0) := (fe103 250).trans rfl
set_option maxRecDepth 10000 in
theorem f103_251 : gm_fetch 103 251 = some (252, .lmul, 0, 0, 0, 0) := (fe103 251).trans rfl
set_option maxRecDepth 10000 in
theorem f103_252 : gm_fetch 103 252 = some (253, .aload_n 0, 0, 0, 0, 0) := (fe103 252).trans rfl
set_option maxRecDepth 10000 in
theorem f103_253 : gm_fetch 103 253 = some (255, .iload 4, 0, 0, 0, 0) := (fe103 253).trans rfl
set_option maxRecDepth 10000 in
theorem f103_255 : gm_fetch 103 255 = some (256, .iload_n 3, 0, 0, 0, 0) := (fe103 255).trans rfl
set_option maxRecDepth 10000 in
theorem f103_256 : gm_fetch 103 256 = some (258, .iload 5, 0, 0, 0, 0) := (fe103 256).trans rfl
set_option maxRecDepth 10000 in
theorem f103_258 : gm_fetch 103 258 = some (261, .invokevirtual 282, 152, 78, 0, 0) := (fe103 258).trans rfl
set_option maxRecDepth 10000 in
theorem f103_261 : gm_fetch 103 261 = some (262, .i2l, 0, 0, 0, 0) := (fe103 261).trans rfl
set_option maxRecDepth 10000 in
theorem f103_262 : gm_fetch 103 262 = some (263, .ladd, 0, 0, 0, 0) := (fe103 262).trans rfl
set_option maxRecDepth 10000 in
theorem f103_263 : gm_fetch 103 263 = some (264, .lstore_n 1, 0, 0, 0, 0) := (fe103 263).trans rfl
set_option maxRecDepth 10000 in
theorem f103_264 : gm_fetch 103 264 = some (267, .iinc 5 1, 0, 0, 0, 0) := (fe103 264).trans rfl
set_option maxRecDepth 10000 in
theorem f103_267 : gm_fetch 103 267 = some (270, .goto (-26), 0, 241, 0, 0) := (fe103 267).trans rfl
set_option maxRecDepth 10000 in
theorem f103_270 : gm_fetch 103 270 = some (273, .iinc 4 1, 0, 0, 0, 0) := (fe103 270).trans rfl
set_option maxRecDepth 10000 in
theorem f103_273 : gm_fetch 103 273 = some (276, .goto (-47), 0, 226, 0, 0) := (fe103 273).trans rfl
set_option maxRecDepth 10000 in
theorem f103_276 : gm_fetch 103 276 = some (279, .iinc 3 1, 0, 0, 0, 0) := (fe103 276).trans rfl
set_option maxRecDepth 10000 in
theorem f103_279 : gm_fetch 103 279 = some (282, .goto (-67), 0, 212, 0, 0) := (fe103 279).trans rfl
set_option maxRecDepth 10000 in
theorem f103_282 : gm_fetch 103 282 = some (283, .iconst 0, 0, 0, 0, 0) := (fe103 282).trans rfl
set_option maxRecDepth 10000 in
theorem f103_283 : gm_fetch 103 283 = some (284, .istore_n 3, 0, 0, 0, 0) := (fe103 283).trans rfl
set_option maxRecDepth 10000 in
theorem f103_284 : gm_fetch 103 284 = some (285, .iload_n 3, 0, 0, 0, 0) := (fe103 284).trans rfl
set_option maxRecDepth 10000 in
theorem f103_285 : gm_fetch 103 285 = some (287, .bipush 6, 0, 0, 0, 0) := (fe103 285).trans rfl
set_option maxRecDepth 10000 in
theorem f103_287 : gm_fetch 103 287 = some (290, .if_icmp .ge 34, 0, 321, 0, 0) := (fe103 287).trans rfl
set_option maxRecDepth 10000 in
theorem f103_290 : gm_fetch 103 290 = some (291, .aload_n 0, 0, 0, 0, 0) := (fe103 290).trans rfl
set_option maxRecDepth 10000 in
theorem f103_291 : gm_fetch 103 291 = some (294, .getfield 39, 80, 6, 4, 0) := (fe103 291).trans rfl
set_option maxRecDepth 10000 in
theorem f103_294 : gm_fetch 103 294 = some (295, .iload_n 3, 0, 0, 0, 0) := (fe103 294).trans rfl
set_option maxRecDepth 10000 in
theorem f103_295 : gm_fetch 103 295 = some (296, .aaload, 0, 0, 0, 0) := (fe103 295).trans rfl
set_option maxRecDepth 10000 in
theorem f103_296 : gm_fetch 103 296 = some (299, .getfield 54, 61, 2, 0, 0) := (fe103 296).trans rfl
set_option maxRecDepth 10000 in
theorem f103_299 : gm_fetch 103 299 = some (302, .ifCond .eq 16, 0, 315, 0, 0) := (fe103 299).trans rfl
set_option maxRecDepth 10000 in
theorem f103_302 : gm_fetch 103 302 = some (305, .ldc2_w 251, 4, 0, 0, 31) := (fe103 302).trans rfl
set_option maxRecDepth 10000 in
theorem f103_305 : gm_fetch 103 305 = some (306, .lload_n 1, 0, 0, 0, 0) := (fe103 305).trans rfl
set_option maxRecDepth 10000 in
theorem f103_306 : gm_fetch 103 306 = some (307, .lmul, 0, 0, 0, 0) := (fe103 306).trans rfl
set_option maxRecDepth 10000 in
theorem f103_307 : gm_fetch 103 307 = some (308, .aload_n 0, 0, 0, 0, 0) := (fe103 307).trans rfl
set_option maxRecDepth 10000 in
theorem f103_308 : gm_fetch 103 308 = some (309, .iload_n 3, 0, 0, 0, 0) := (fe103 308).trans rfl
set_option maxRecDepth 10000 in
theorem f103_309 : gm_fetch 103 309 = some (312, .invokevirtual 285, 153, 94, 0, 0) := (fe103 309).trans rfl
set_option maxRecDepth 10000 in
theorem f103_312 : gm_fetch 103 312 = some (313, .i2l, 0, 0, 0, 0) := (fe103 312).trans rfl
set_option maxRecDepth 10000 in
theorem f103_313 : gm_fetch 103 313 = some (314, .ladd, 0, 0, 0, 0) := (fe103 313).trans rfl
set_option maxRecDepth 10000 in
theorem f103_314 : gm_fetch 103 314 = some (315, .lstore_n 1, 0, 0, 0, 0) := (fe103 314).trans rfl
set_option maxRecDepth 10000 in
theorem f103_315 : gm_fetch 103 315 = some (318, .iinc 3 1, 0, 0, 0, 0) := (fe103 315).trans rfl
set_option maxRecDepth 10000 in
theorem f103_318 : gm_fetch 103 318 = some (321, .goto (-34), 0, 284, 0, 0) := (fe103 318).trans rfl
set_option maxRecDepth 10000 in
theorem f103_321 : gm_fetch 103 321 = some (322, .lload_n 1, 0, 0, 0, 0) := (fe103 321).trans rfl
set_option maxRecDepth 10000 in
theorem f103_322 : gm_fetch 103 322 = some (323, .lreturn, 0, 0, 0, 0) := (fe103 322).trans rfl
set_option maxRecDepth 10000 in
theorem rg103_0 {mi : Mi} {ml : Ml} {F : Int64 → Mi → Ml → Prop}   (h : Sg 103 6 [some (.ref 0), some (.long 17), none, some (.int 0), none, none] [] mi ml (ql F)) : Sg 103 0 [some (.ref 0), none, none, none, none, none] [] mi ml (ql F) := by
  refine sg_psh f103_0 (v := .long 17) (by decide) ?_
  refine sg_st2 f103_3 (ls' := [some (.ref 0), some (.long 17), none, none, none, none]) rfl rfl rfl ?_
  refine sg_psh f103_4 (v := .int 0) (by decide) ?_
  refine sg_st1 f103_5 (ls' := [some (.ref 0), some (.long 17), none, some (.int 0), none, none]) rfl rfl rfl rfl ?_
  exact h

set_option maxRecDepth 10000 in
theorem rg103_6 {mi : Mi} {ml : Ml} {F : Int64 → Mi → Ml → Prop} {x1 : Int64} {x3 : Int32}  (h : ((7 < x3) → Sg 81 0 [some (.ref 0)] [] mi ml (qi fun y1 mi2 ml3 => Sg 85 0 [some (.ref 0)] [] mi2 ml3 (qi fun y4 mi5 ml6 => Sg 86 0 [some (.ref 0), some (.int 0)] [] mi5 ml6 (qi fun y7 mi8 ml9 => Sg 86 0 [some (.ref 0), some (.int 1)] [] mi8 ml9 (qi fun y10 mi11 ml12 => Sg 87 0 [some (.ref 0), none, none] [] mi11 ml12 (qi fun y13 mi14 ml15 => Sg 88 0 [some (.ref 0), none, none] [] mi14 ml15 (qi fun y16 mi17 ml18 => Sg 89 0 [some (.ref 0), some (.int 0)] [] mi17 ml18 (qi fun y19 mi20 ml21 => Sg 89 0 [some (.ref 0), some (.int 1)] [] mi20 ml21 (qi fun y22 mi23 ml24 => Sg 91 0 [some (.ref 0)] [] mi23 ml24 (ql fun y25 mi26 ml27 => Sg 103 144 [some (.ref 0), some (.long ((31 * ((31 * ((31 * ((31 * ((31 * ((31 * ((31 * ((31 * ((31 * x1) + (Int32.toInt64 y1))) + (Int32.toInt64 y4))) + (Int32.toInt64 y7))) + (Int32.toInt64 y10))) + (Int32.toInt64 y13))) + (Int32.toInt64 y16))) + (Int32.toInt64 y19))) + (Int32.toInt64 y22))) + y25)), none, some (.int 0), none, none] [] mi26 ml27 (ql F))))))))))) ∧ (¬ (7 < x3) → Sg 102 0 [some (.ref 0), some (.int x3)] [] mi ml (qi fun y28 mi29 ml30 => Sg 103 6 [some (.ref 0), some (.long ((31 * x1) + (Int32.toInt64 y28))), none, some (.int (x3 + 1)), none, none] [] mi29 ml30 (ql F)))) : Sg 103 6 [some (.ref 0), some (.long x1), none, some (.int x3), none, none] [] mi ml (ql F) := by
  refine sg_ld f103_6 (v := .int x3) rfl rfl ?_
  refine sg_psh f103_7 (v := .int 7) (by decide) ?_
  refine sg_icmp f103_9 (fun c => ?_) (fun c => ?_)
  · have h := h.1 c
    refine sg_psh f103_31 (v := .long 31) (by decide) ?_
    refine sg_ld f103_34 (v := .long x1) rfl rfl ?_
    refine sg_binl f103_35 rfl ?_
    refine sg_ld f103_36 (v := .ref 0) rfl rfl ?_
    refine sg_cV f103_37 (vs := []) (r := 0) (rest := [.long (31 * x1)]) (en := [some (.ref 0)]) pq81 ⟨rfl, rfl⟩ rfl rfl rfl rfl rfl rfl h ?_
    rintro _ mi2 ml3 ⟨y1, rfl, h⟩
    refine sg_i2l f103_40 ?_
    refine sg_binl f103_41 rfl ?_
    refine sg_st2 f103_42 (ls' := [some (.ref 0), some (.long ((31 * x1) + (Int32.toInt64 y1))), none, some (.int x3), none, none]) rfl rfl rfl ?_
    refine sg_psh f103_43 (v := .long 31) (by decide) ?_
    refine sg_ld f103_46 (v := .long ((31 * x1) + (Int32.toInt64 y1))) rfl rfl ?_
    refine sg_binl f103_47 rfl ?_
    refine sg_ld f103_48 (v := .ref 0) rfl rfl ?_
    refine sg_cV f103_49 (vs := []) (r := 0) (rest := [.long (31 * ((31 * x1) + (Int32.toInt64 y1)))]) (en := [some (.ref 0)]) pq85 ⟨rfl, rfl⟩ rfl rfl rfl rfl rfl rfl h ?_
    rintro _ mi5 ml6 ⟨y4, rfl, h⟩
    refine sg_i2l f103_52 ?_
    refine sg_binl f103_53 rfl ?_
    refine sg_st2 f103_54 (ls' := [some (.ref 0), some (.long ((31 * ((31 * x1) + (Int32.toInt64 y1))) + (Int32.toInt64 y4))), none, some (.int x3), none, none]) rfl rfl rfl ?_
    refine sg_psh f103_55 (v := .long 31) (by decide) ?_
    refine sg_ld f103_58 (v := .long ((31 * ((31 * x1) + (Int32.toInt64 y1))) + (Int32.toInt64 y4))) rfl rfl ?_
    refine sg_binl f103_59 rfl ?_
    refine sg_ld f103_60 (v := .ref 0) rfl rfl ?_
    refine sg_psh f103_61 (v := .int 0) (by decide) ?_
    refine sg_cV f103_62 (vs := [.int 0]) (r := 0) (rest := [.long (31 * ((31 * ((31 * x1) + (Int32.toInt64 y1))) + (Int32.toInt64 y4)))]) (en := [some (.ref 0), some (.int 0)]) pq86 ⟨rfl, rfl⟩ rfl rfl rfl rfl rfl rfl h ?_
    rintro _ mi8 ml9 ⟨y7, rfl, h⟩
    refine sg_i2l f103_65 ?_
    refine sg_binl f103_66 rfl ?_
    refine sg_st2 f103_67 (ls' := [some (.ref 0), some (.long ((31 * ((31 * ((31 * x1) + (Int32.toInt64 y1))) + (Int32.toInt64 y4))) + (Int32.toInt64 y7))), none, some (.int x3), none, none]) rfl rfl rfl ?_
    refine sg_psh f103_68 (v := .long 31) (by decide) ?_
    refine sg_ld f103_71 (v := .long ((31 * ((31 * ((31 * x1) + (Int32.toInt64 y1))) + (Int32.toInt64 y4))) + (Int32.toInt64 y7))) rfl rfl ?_
    refine sg_binl f103_72 rfl ?_
    refine sg_ld f103_73 (v := .ref 0) rfl rfl ?_
    refine sg_psh f103_74 (v := .int 1) (by decide) ?_
    refine sg_cV f103_75 (vs := [.int 1]) (r := 0) (rest := [.long (31 * ((31 * ((31 * ((31 * x1) + (Int32.toInt64 y1))) + (Int32.toInt64 y4))) + (Int32.toInt64 y7)))]) (en := [some (.ref 0), some (.int 1)]) pq86 ⟨rfl, rfl⟩ rfl rfl rfl rfl rfl rfl h ?_
    rintro _ mi11 ml12 ⟨y10, rfl, h⟩
    refine sg_i2l f103_78 ?_
    refine sg_binl f103_79 rfl ?_
    refine sg_st2 f103_80 (ls' := [some (.ref 0), some (.long ((31 * ((31 * ((31 * ((31 * x1) + (Int32.toInt64 y1))) + (Int32.toInt64 y4))) + (Int32.toInt64 y7))) + (Int32.toInt64 y10))), none, some (.int x3), none, none]) rfl rfl rfl ?_
    refine sg_psh f103_81 (v := .long 31) (by decide) ?_
    refine sg_ld f103_84 (v := .long ((31 * ((31 * ((31 * ((31 * x1) + (Int32.toInt64 y1))) + (Int32.toInt64 y4))) + (Int32.toInt64 y7))) + (Int32.toInt64 y10))) rfl rfl ?_
    refine sg_binl f103_85 rfl ?_
    refine sg_ld f103_86 (v := .ref 0) rfl rfl ?_
    refine sg_cV f103_87 (vs := []) (r := 0) (rest := [.long (31 * ((31 * ((31 * ((31 * ((31 * x1) + (Int32.toInt64 y1))) + (Int32.toInt64 y4))) + (Int32.toInt64 y7))) + (Int32.toInt64 y10)))]) (en := [some (.ref 0), none, none]) pq87 ⟨rfl, rfl⟩ rfl rfl rfl rfl rfl rfl h ?_
    rintro _ mi14 ml15 ⟨y13, rfl, h⟩
    refine sg_i2l f103_90 ?_
    refine sg_binl f103_91 rfl ?_
    refine sg_st2 f103_92 (ls' := [some (.ref 0), some (.long ((31 * ((31 * ((31 * ((31 * ((31 * x1) + (Int32.toInt64 y1))) + (Int32.toInt64 y4))) + (Int32.toInt64 y7))) + (Int32.toInt64 y10))) + (Int32.toInt64 y13))), none, some (.int x3), none, none]) rfl rfl rfl ?_
    refine sg_psh f103_93 (v := .long 31) (by decide) ?_
    refine sg_ld f103_96 (v := .long ((31 * ((31 * ((31 * ((31 * ((31 * x1) + (Int32.toInt64 y1))) + (Int32.toInt64 y4))) + (Int32.toInt64 y7))) + (Int32.toInt64 y10))) + (Int32.toInt64 y13))) rfl rfl ?_
    refine sg_binl f103_97 rfl ?_
    refine sg_ld f103_98 (v := .ref 0) rfl rfl ?_
    refine sg_cV f103_99 (vs := []) (r := 0) (rest := [.long (31 * ((31 * ((31 * ((31 * ((31 * ((31 * x1) + (Int32.toInt64 y1))) + (Int32.toInt64 y4))) + (Int32.toInt64 y7))) + (Int32.toInt64 y10))) + (Int32.toInt64 y13)))]) (en := [some (.ref 0), none, none]) pq88 ⟨rfl, rfl⟩ rfl rfl rfl rfl rfl rfl h ?_
    rintro _ mi17 ml18 ⟨y16, rfl, h⟩
    refine sg_i2l f103_102 ?_
    refine sg_binl f103_103 rfl ?_
    refine sg_st2 f103_104 (ls' := [some (.ref 0), some (.long ((31 * ((31 * ((31 * ((31 * ((31 * ((31 * x1) + (Int32.toInt64 y1))) + (Int32.toInt64 y4))) + (Int32.toInt64 y7))) + (Int32.toInt64 y10))) + (Int32.toInt64 y13))) + (Int32.toInt64 y16))), none, some (.int x3), none, none]) rfl rfl rfl ?_
    refine sg_psh f103_105 (v := .long 31) (by decide) ?_
    refine sg_ld f103_108 (v := .long ((31 * ((31 * ((31 * ((31 * ((31 * ((31 * x1) + (Int32.toInt64 y1))) + (Int32.toInt64 y4))) + (Int32.toInt64 y7))) + (Int32.toInt64 y10))) + (Int32.toInt64 y13))) + (Int32.toInt64 y16))) rfl rfl ?_
    refine sg_binl f103_109 rfl ?_
    refine sg_ld f103_110 (v := .ref 0) rfl rfl ?_
    refine sg_psh f103_111 (v := .int 0) (by decide) ?_
    refine sg_cV f103_112 (vs := [.int 0]) (r := 0) (rest := [.long (31 * ((31 * ((31 * ((31 * ((31 * ((31 * ((31 * x1) + (Int32.toInt64 y1))) + (Int32.toInt64 y4))) + (Int32.toInt64 y7))) + (Int32.toInt64 y10))) + (Int32.toInt64 y13))) + (Int32.toInt64 y16)))]) (en := [some (.ref 0), some (.int 0)]) pq89 ⟨rfl, rfl⟩ rfl rfl rfl rfl rfl rfl h ?_
    rintro _ mi20 ml21 ⟨y19, rfl, h⟩
    refine sg_i2l f103_115 ?_
    refine sg_binl f103_116 rfl ?_
    refine sg_st2 f103_117 (ls' := [some (.ref 0), some (.long ((31 * ((31 * ((31 * ((31 * ((31 * ((31 * ((31 * x1) + (Int32.toInt64 y1))) + (Int32.toInt64 y4))) + (Int32.toInt64 y7))) + (Int32.toInt64 y10))) + (Int32.toInt64 y13))) + (Int32.toInt64 y16))) + (Int32.toInt64 y19))), none, some (.int x3), none, none]) rfl rfl rfl ?_
    refine sg_psh f103_118 (v := .long 31) (by decide) ?_
    refine sg_ld f103_121 (v := .long ((31 * ((31 * ((31 * ((31 * ((31 * ((31 * ((31 * x1) + (Int32.toInt64 y1))) + (Int32.toInt64 y4))) + (Int32.toInt64 y7))) + (Int32.toInt64 y10))) + (Int32.toInt64 y13))) + (Int32.toInt64 y16))) + (Int32.toInt64 y19))) rfl rfl ?_
    refine sg_binl f103_122 rfl ?_
    refine sg_ld f103_123 (v := .ref 0) rfl rfl ?_
    refine sg_psh f103_124 (v := .int 1) (by decide) ?_
    refine sg_cV f103_125 (vs := [.int 1]) (r := 0) (rest := [.long (31 * ((31 * ((31 * ((31 * ((31 * ((31 * ((31 * ((31 * x1) + (Int32.toInt64 y1))) + (Int32.toInt64 y4))) + (Int32.toInt64 y7))) + (Int32.toInt64 y10))) + (Int32.toInt64 y13))) + (Int32.toInt64 y16))) + (Int32.toInt64 y19)))]) (en := [some (.ref 0), some (.int 1)]) pq89 ⟨rfl, rfl⟩ rfl rfl rfl rfl rfl rfl h ?_
    rintro _ mi23 ml24 ⟨y22, rfl, h⟩
    refine sg_i2l f103_128 ?_
    refine sg_binl f103_129 rfl ?_
    refine sg_st2 f103_130 (ls' := [some (.ref 0), some (.long ((31 * ((31 * ((31 * ((31 * ((31 * ((31 * ((31 * ((31 * x1) + (Int32.toInt64 y1))) + (Int32.toInt64 y4))) + (Int32.toInt64 y7))) + (Int32.toInt64 y10))) + (Int32.toInt64 y13))) + (Int32.toInt64 y16))) + (Int32.toInt64 y19))) + (Int32.toInt64 y22))), none, some (.int x3), none, none]) rfl rfl rfl ?_
    refine sg_psh f103_131 (v := .long 31) (by decide) ?_
    refine sg_ld f103_134 (v := .long ((31 * ((31 * ((31 * ((31 * ((31 * ((31 * ((31 * ((31 * x1) + (Int32.toInt64 y1))) + (Int32.toInt64 y4))) + (Int32.toInt64 y7))) + (Int32.toInt64 y10))) + (Int32.toInt64 y13))) + (Int32.toInt64 y16))) + (Int32.toInt64 y19))) + (Int32.toInt64 y22))) rfl rfl ?_
    refine sg_binl f103_135 rfl ?_
    refine sg_ld f103_136 (v := .ref 0) rfl rfl ?_
    refine sg_cV f103_137 (vs := []) (r := 0) (rest := [.long (31 * ((31 * ((31 * ((31 * ((31 * ((31 * ((31 * ((31 * ((31 * x1) + (Int32.toInt64 y1))) + (Int32.toInt64 y4))) + (Int32.toInt64 y7))) + (Int32.toInt64 y10))) + (Int32.toInt64 y13))) + (Int32.toInt64 y16))) + (Int32.toInt64 y19))) + (Int32.toInt64 y22)))]) (en := [some (.ref 0)]) pq91 ⟨rfl, rfl⟩ rfl rfl rfl rfl rfl rfl h ?_
    rintro _ mi26 ml27 ⟨y25, rfl, h⟩
    refine sg_binl f103_140 rfl ?_
    refine sg_st2 f103_141 (ls' := [some (.ref 0), some (.long ((31 * ((31 * ((31 * ((31 * ((31 * ((31 * ((31 * ((31 * ((31 * x1) + (Int32.toInt64 y1))) + (Int32.toInt64 y4))) + (Int32.toInt64 y7))) + (Int32.toInt64 y10))) + (Int32.toInt64 y13))) + (Int32.toInt64 y16))) + (Int32.toInt64 y19))) + (Int32.toInt64 y22))) + y25)), none, some (.int x3), none, none]) rfl rfl rfl ?_
    refine sg_psh f103_142 (v := .int 0) (by decide) ?_
    refine sg_st1 f103_143 (ls' := [some (.ref 0), some (.long ((31 * ((31 * ((31 * ((31 * ((31 * ((31 * ((31 * ((31 * ((31 * x1) + (Int32.toInt64 y1))) + (Int32.toInt64 y4))) + (Int32.toInt64 y7))) + (Int32.toInt64 y10))) + (Int32.toInt64 y13))) + (Int32.toInt64 y16))) + (Int32.toInt64 y19))) + (Int32.toInt64 y22))) + y25)), none, some (.int 0), none, none]) rfl rfl rfl rfl ?_
    exact h
  · have h := h.2 c
    refine sg_psh f103_12 (v := .long 31) (by decide) ?_
    refine sg_ld f103_15 (v := .long x1) rfl rfl ?_
    refine sg_binl f103_16 rfl ?_
    refine sg_ld f103_17 (v := .ref 0) rfl rfl ?_
    refine sg_ld f103_18 (v := .int x3) rfl rfl ?_
    refine sg_cV f103_19 (vs := [.int x3]) (r := 0) (rest := [.long (31 * x1)]) (en := [some (.ref 0), some (.int x3)]) pq102 ⟨rfl, rfl⟩ rfl rfl rfl rfl rfl rfl h ?_
    rintro _ mi29 ml30 ⟨y28, rfl, h⟩
    refine sg_i2l f103_22 ?_
    refine sg_binl f103_23 rfl ?_
    refine sg_st2 f103_24 (ls' := [some (.ref 0), some (.long ((31 * x1) + (Int32.toInt64 y28))), none, some (.int x3), none, none]) rfl rfl rfl ?_
    refine sg_inc f103_25 (d := 1) (ls' := [some (.ref 0), some (.long ((31 * x1) + (Int32.toInt64 y28))), none, some (.int (x3 + 1)), none, none]) rfl (by decide) rfl ?_
    refine sg_goto f103_28 ?_
    exact h

set_option maxRecDepth 10000 in
theorem rg103_144 {mi : Mi} {ml : Ml} {F : Int64 → Mi → Ml → Prop} {x1 : Int64} {x3 : Int32}  (h : (((mi 1 0) ≤ x3) → Sg 103 212 [some (.ref 0), some (.long x1), none, some (.int 0), none, none] [] mi ml (ql F)) ∧ (¬ ((mi 1 0) ≤ x3) → Sg 84 0 [some (.ref 0), some (.int x3)] [] mi ml (qi fun y1 mi2 ml3 => Sg 103 171 [some (.ref 0), some (.long ((31 * x1) + (Int32.toInt64 y1))), none, some (.int x3), some (.int 0), none] [] mi2 ml3 (ql F)))) : Sg 103 144 [some (.ref 0), some (.long x1), none, some (.int x3), none, none] [] mi ml (ql F) := by
  refine sg_ld f103_144 (v := .int x3) rfl rfl ?_
  refine sg_ld f103_145 (v := .ref 0) rfl rfl ?_
  refine sg_getr f103_146 rfl rfl (w := 1) rfl ?_
  refine sg_geti f103_149 rfl rfl (x := (mi 1 0)) rfl ?_
  refine sg_icmp f103_152 (fun c => ?_) (fun c => ?_)
  · have h := h.1 c
    refine sg_psh f103_210 (v := .int 0) (by decide) ?_
    refine sg_st1 f103_211 (ls' := [some (.ref 0), some (.long x1), none, some (.int 0), none, none]) rfl rfl rfl rfl ?_
    exact h
  · have h := h.2 c
    refine sg_psh f103_155 (v := .long 31) (by decide) ?_
    refine sg_ld f103_158 (v := .long x1) rfl rfl ?_
    refine sg_binl f103_159 rfl ?_
    refine sg_ld f103_160 (v := .ref 0) rfl rfl ?_
    refine sg_ld f103_161 (v := .int x3) rfl rfl ?_
    refine sg_cV f103_162 (vs := [.int x3]) (r := 0) (rest := [.long (31 * x1)]) (en := [some (.ref 0), some (.int x3)]) pq84 ⟨rfl, rfl⟩ rfl rfl rfl rfl rfl rfl h ?_
    rintro _ mi2 ml3 ⟨y1, rfl, h⟩
    refine sg_i2l f103_165 ?_
    refine sg_binl f103_166 rfl ?_
    refine sg_st2 f103_167 (ls' := [some (.ref 0), some (.long ((31 * x1) + (Int32.toInt64 y1))), none, some (.int x3), none, none]) rfl rfl rfl ?_
    refine sg_psh f103_168 (v := .int 0) (by decide) ?_
    refine sg_st1 f103_169 (ls' := [some (.ref 0), some (.long ((31 * x1) + (Int32.toInt64 y1))), none, some (.int x3), some (.int 0), none]) rfl rfl rfl rfl ?_
    exact h

set_option maxRecDepth 10000 in
theorem rg103_171 {mi : Mi} {ml : Ml} {F : Int64 → Mi → Ml → Prop} {x1 : Int64} {x3 : Int32} {x4 : Int32}  (h : (((mi 1 2) ≤ x4) → Sg 103 144 [some (.ref 0), some (.long x1), none, some (.int (x3 + 1)), none, none] [] mi ml (ql F)) ∧ (¬ ((mi 1 2) ≤ x4) → Sg 83 0 [some (.ref 0), some (.int x3), some (.int x4)] [] mi ml (qi fun y1 mi2 ml3 => Sg 103 171 [some (.ref 0), some (.long ((31 * x1) + (Int32.toInt64 y1))), none, some (.int x3), some (.int (x4 + 1)), none] [] mi2 ml3 (ql F)))) : Sg 103 171 [some (.ref 0), some (.long x1), none, some (.int x3), some (.int x4), none] [] mi ml (ql F) := by
  refine sg_ld f103_171 (v := .int x4) rfl rfl ?_
  refine sg_ld f103_173 (v := .ref 0) rfl rfl ?_
  refine sg_getr f103_174 rfl rfl (w := 1) rfl ?_
  refine sg_geti f103_177 rfl rfl (x := (mi 1 2)) rfl ?_
  refine sg_icmp f103_180 (fun c => ?_) (fun c => ?_)
  · have h := h.1 c
    refine sg_inc f103_204 (d := 1) (ls' := [some (.ref 0), some (.long x1), none, some (.int (x3 + 1)), some (.int x4), none]) rfl (by decide) rfl ?_
    refine sg_goto f103_207 ?_
    exact sg_drop [4] rfl h
  · have h := h.2 c
    refine sg_psh f103_183 (v := .long 31) (by decide) ?_
    refine sg_ld f103_186 (v := .long x1) rfl rfl ?_
    refine sg_binl f103_187 rfl ?_
    refine sg_ld f103_188 (v := .ref 0) rfl rfl ?_
    refine sg_ld f103_189 (v := .int x3) rfl rfl ?_
    refine sg_ld f103_190 (v := .int x4) rfl rfl ?_
    refine sg_cV f103_192 (vs := [.int x3, .int x4]) (r := 0) (rest := [.long (31 * x1)]) (en := [some (.ref 0), some (.int x3), some (.int x4)]) pq83 ⟨rfl, rfl⟩ rfl rfl rfl rfl rfl rfl h ?_
    rintro _ mi2 ml3 ⟨y1, rfl, h⟩
    refine sg_i2l f103_195 ?_
    refine sg_binl f103_196 rfl ?_
    refine sg_st2 f103_197 (ls' := [some (.ref 0), some (.long ((31 * x1) + (Int32.toInt64 y1))), none, some (.int x3), some (.int x4), none]) rfl rfl rfl ?_
    refine sg_inc f103_198 (d := 1) (ls' := [some (.ref 0), some (.long ((31 * x1) + (Int32.toInt64 y1))), none, some (.int x3), some (.int (x4 + 1)), none]) rfl (by decide) rfl ?_
    refine sg_goto f103_201 ?_
    exact h

set_option maxRecDepth 10000 in
theorem rg103_212 {mi : Mi} {ml : Ml} {F : Int64 → Mi → Ml → Prop} {x1 : Int64} {x3 : Int32}  (h : (((mi 1 0) ≤ x3) → Sg 103 284 [some (.ref 0), some (.long x1), none, some (.int 0), none, none] [] mi ml (ql F)) ∧ (¬ ((mi 1 0) ≤ x3) → Sg 103 226 [some (.ref 0), some (.long x1), none, some (.int x3), some (.int 0), none] [] mi ml (ql F))) : Sg 103 212 [some (.ref 0), some (.long x1), none, some (.int x3), none, none] [] mi ml (ql F) := by
  refine sg_ld f103_212 (v := .int x3) rfl rfl ?_
  refine sg_ld f103_213 (v := .ref 0) rfl rfl ?_
  refine sg_getr f103_214 rfl rfl (w := 1) rfl ?_
  refine sg_geti f103_217 rfl rfl (x := (mi 1 0)) rfl ?_
  refine sg_icmp f103_220 (fun c => ?_) (fun c => ?_)
  · have h := h.1 c
    refine sg_psh f103_282 (v := .int 0) (by decide) ?_
    refine sg_st1 f103_283 (ls' := [some (.ref 0), some (.long x1), none, some (.int 0), none, none]) rfl rfl rfl rfl ?_
    exact h
  · have h := h.2 c
    refine sg_psh f103_223 (v := .int 0) (by decide) ?_
    refine sg_st1 f103_224 (ls' := [some (.ref 0), some (.long x1), none, some (.int x3), some (.int 0), none]) rfl rfl rfl rfl ?_
    exact h

set_option maxRecDepth 10000 in
theorem rg103_226 {mi : Mi} {ml : Ml} {F : Int64 → Mi → Ml → Prop} {x1 : Int64} {x3 : Int32} {x4 : Int32}  (h : (((mi 1 1) ≤ x4) → Sg 103 212 [some (.ref 0), some (.long x1), none, some (.int (x3 + 1)), none, none] [] mi ml (ql F)) ∧ (¬ ((mi 1 1) ≤ x4) → Sg 103 241 [some (.ref 0), some (.long x1), none, some (.int x3), some (.int x4), some (.int 0)] [] mi ml (ql F))) : Sg 103 226 [some (.ref 0), some (.long x1), none, some (.int x3), some (.int x4), none] [] mi ml (ql F) := by
  refine sg_ld f103_226 (v := .int x4) rfl rfl ?_
  refine sg_ld f103_228 (v := .ref 0) rfl rfl ?_
  refine sg_getr f103_229 rfl rfl (w := 1) rfl ?_
  refine sg_geti f103_232 rfl rfl (x := (mi 1 1)) rfl ?_
  refine sg_icmp f103_235 (fun c => ?_) (fun c => ?_)
  · have h := h.1 c
    refine sg_inc f103_276 (d := 1) (ls' := [some (.ref 0), some (.long x1), none, some (.int (x3 + 1)), some (.int x4), none]) rfl (by decide) rfl ?_
    refine sg_goto f103_279 ?_
    exact sg_drop [4] rfl h
  · have h := h.2 c
    refine sg_psh f103_238 (v := .int 0) (by decide) ?_
    refine sg_st1 f103_239 (ls' := [some (.ref 0), some (.long x1), none, some (.int x3), some (.int x4), some (.int 0)]) rfl rfl rfl rfl ?_
    exact h

set_option maxRecDepth 10000 in
theorem rg103_241 {mi : Mi} {ml : Ml} {F : Int64 → Mi → Ml → Prop} {x1 : Int64} {x3 : Int32} {x4 : Int32} {x5 : Int32}  (h : ((4 < x5) → Sg 103 226 [some (.ref 0), some (.long x1), none, some (.int x3), some (.int (x4 + 1)), none] [] mi ml (ql F)) ∧ (¬ (4 < x5) → Sg 78 0 [some (.ref 0), some (.int x4), some (.int x3), some (.int x5)] [] mi ml (qi fun y1 mi2 ml3 => Sg 103 241 [some (.ref 0), some (.long ((31 * x1) + (Int32.toInt64 y1))), none, some (.int x3), some (.int x4), some (.int (x5 + 1))] [] mi2 ml3 (ql F)))) : Sg 103 241 [some (.ref 0), some (.long x1), none, some (.int x3), some (.int x4), some (.int x5)] [] mi ml (ql F) := by
  refine sg_ld f103_241 (v := .int x5) rfl rfl ?_
  refine sg_psh f103_243 (v := .int 4) (by decide) ?_
  refine sg_icmp f103_244 (fun c => ?_) (fun c => ?_)
  · have h := h.1 c
    refine sg_inc f103_270 (d := 1) (ls' := [some (.ref 0), some (.long x1), none, some (.int x3), some (.int (x4 + 1)), some (.int x5)]) rfl (by decide) rfl ?_
    refine sg_goto f103_273 ?_
    exact sg_drop [5] rfl h
  · have h := h.2 c
    refine sg_psh f103_247 (v := .long 31) (by decide) ?_
    refine sg_ld f103_250 (v := .long x1) rfl rfl ?_
    refine sg_binl f103_251 rfl ?_
    refine sg_ld f103_252 (v := .ref 0) rfl rfl ?_
    refine sg_ld f103_253 (v := .int x4) rfl rfl ?_
    refine sg_ld f103_255 (v := .int x3) rfl rfl ?_
    refine sg_ld f103_256 (v := .int x5) rfl rfl ?_
    refine sg_cV f103_258 (vs := [.int x4, .int x3, .int x5]) (r := 0) (rest := [.long (31 * x1)]) (en := [some (.ref 0), some (.int x4), some (.int x3), some (.int x5)]) pq78 ⟨rfl, rfl⟩ rfl rfl rfl rfl rfl rfl h ?_
    rintro _ mi2 ml3 ⟨y1, rfl, h⟩
    refine sg_i2l f103_261 ?_
    refine sg_binl f103_262 rfl ?_
    refine sg_st2 f103_263 (ls' := [some (.ref 0), some (.long ((31 * x1) + (Int32.toInt64 y1))), none, some (.int x3), some (.int x4), some (.int x5)]) rfl rfl rfl ?_
    refine sg_inc f103_264 (d := 1) (ls' := [some (.ref 0), some (.long ((31 * x1) + (Int32.toInt64 y1))), none, some (.int x3), some (.int x4), some (.int (x5 + 1))]) rfl (by decide) rfl ?_
    refine sg_goto f103_267 ?_
    exact h

set_option maxRecDepth 10000 in
theorem rg103_284 {mi : Mi} {ml : Ml} {F : Int64 → Mi → Ml → Prop} {x1 : Int64} {x3 : Int32}  (h : ((6 ≤ x3) → F x1 mi ml) ∧ (¬ (6 ≤ x3) → (vp_in x3 6) ∧ (∃ r2 : Nat, (MR 25 (Int32.toNatClampNeg x3)) = some r2 ∧ isY r2 ∧ ((((mi r2 0) = 0) → Sg 103 284 [some (.ref 0), some (.long x1), none, some (.int (x3 + 1)), none, none] [] mi ml (ql F)) ∧ (¬ ((mi r2 0) = 0) → Sg 94 0 [some (.ref 0), some (.int x3), none, none, none] [] mi ml (qi fun y3 mi4 ml5 => Sg 103 284 [some (.ref 0), some (.long ((31 * x1) + (Int32.toInt64 y3))), none, some (.int (x3 + 1)), none, none] [] mi4 ml5 (ql F))))))) : Sg 103 284 [some (.ref 0), some (.long x1), none, some (.int x3), none, none] [] mi ml (ql F) := by
  refine sg_ld f103_284 (v := .int x3) rfl rfl ?_
  refine sg_psh f103_285 (v := .int 6) (by decide) ?_
  refine sg_icmp f103_287 (fun c => ?_) (fun c => ?_)
  · have h := h.1 c
    refine sg_ld f103_321 (v := .long x1) rfl rfl ?_
    exact sg_lret f103_322 pq103 rfl ⟨_, rfl, h⟩
  · have h := h.2 c
    refine sg_ld f103_290 (v := .ref 0) rfl rfl ?_
    refine sg_getr f103_291 rfl rfl (w := 25) rfl ?_
    refine sg_ld f103_294 (v := .int x3) rfl rfl ?_
    obtain ⟨e1, h⟩ := h
    refine sg_aald f103_295 (j := 2) rfl e1 (by decide) ?_
    obtain ⟨r2, qr2, hr2, h⟩ := h
    rw [qr2]
    refine sg_geti f103_296 hr2.1 rfl (x := (mi r2 0)) rfl ?_
    refine sg_if f103_299 (fun c => ?_) (fun c => ?_)
    · have h := h.1 c
      refine sg_inc f103_315 (d := 1) (ls' := [some (.ref 0), some (.long x1), none, some (.int (x3 + 1)), none, none]) rfl (by decide) rfl ?_
      refine sg_goto f103_318 ?_
      exact h
    · have h := h.2 c
      refine sg_psh f103_302 (v := .long 31) (by decide) ?_
      refine sg_ld f103_305 (v := .long x1) rfl rfl ?_
      refine sg_binl f103_306 rfl ?_
      refine sg_ld f103_307 (v := .ref 0) rfl rfl ?_
      refine sg_ld f103_308 (v := .int x3) rfl rfl ?_
      refine sg_cV f103_309 (vs := [.int x3]) (r := 0) (rest := [.long (31 * x1)]) (en := [some (.ref 0), some (.int x3), none, none, none]) pq94 ⟨rfl, rfl⟩ rfl rfl rfl rfl rfl rfl h ?_
      rintro _ mi4 ml5 ⟨y3, rfl, h⟩
      refine sg_i2l f103_312 ?_
      refine sg_binl f103_313 rfl ?_
      refine sg_st2 f103_314 (ls' := [some (.ref 0), some (.long ((31 * x1) + (Int32.toInt64 y3))), none, some (.int x3), none, none]) rfl rfl rfl ?_
      refine sg_inc f103_315 (d := 1) (ls' := [some (.ref 0), some (.long ((31 * x1) + (Int32.toInt64 y3))), none, some (.int (x3 + 1)), none, none]) rfl (by decide) rfl ?_
      refine sg_goto f103_318 ?_
      exact h

/-! X6_found (I)I -/
theorem fe104 (pc : Nat) : gm_fetch 104 pc = gm_find pc cd_104 := rfl
theorem f104_0 : gm_fetch 104 0 = some (1, .aload_n 0, 0, 0, 0, 0) := (fe104 0).trans rfl
theorem f104_1 : gm_fetch 104 1 = some (2, .iload_n 1, 0, 0, 0, 0) := (fe104 1).trans rfl
theorem f104_2 : gm_fetch 104 2 = some (5, .putfield 231, 83, 6, 7, 0) := (fe104 2).trans rfl
theorem f104_5 : gm_fetch 104 5 = some (7, .bipush (-10), 0, 0, 0, 0) := (fe104 5).trans rfl
theorem f104_7 : gm_fetch 104 7 = some (8, .iload_n 1, 0, 0, 0, 0) := (fe104 7).trans rfl
theorem f104_8 : gm_fetch 104 8 = some (9, .isub, 0, 0, 0, 0) := (fe104 8).trans rfl
theorem f104_9 : gm_fetch 104 9 = some (10, .ireturn, 0, 0, 0, 0) := (fe104 9).trans rfl
set_option maxRecDepth 10000 in
theorem rg104_0 {mi : Mi} {ml : Ml} {F : Int32 → Mi → Ml → Prop} {x1 : Int32}  (h : F ((-10) - x1) (va_up mi 0 (va_up (mi 0) 7 x1)) ml) : Sg 104 0 [some (.ref 0), some (.int x1)] [] mi ml (qi F) := by
  refine sg_ld f104_0 (v := .ref 0) rfl rfl ?_
  refine sg_ld f104_1 (v := .int x1) rfl rfl ?_
  refine sg_puti f104_2 rfl rfl rfl (fun hz => by cases hz) ?_
  refine sg_psh f104_5 (v := .int (-10)) (by decide) ?_
  refine sg_ld f104_7 (v := .int x1) rfl rfl ?_
  refine sg_bin f104_8 rfl ?_
  exact sg_iret f104_9 pq104 rfl rfl ⟨_, rfl, h⟩

/-! X6_slotAt (I)LGridMender$Laying; -/
theorem fe105 (pc : Nat) : gm_fetch 105 pc = gm_find pc cd_105 := rfl
theorem f105_0 : gm_fetch 105 0 = some (1, .iload_n 1, 0, 0, 0, 0) := (fe105 0).trans rfl
theorem f105_1 : gm_fetch 105 1 = some (4, .ifCond .lt 18, 0, 19, 0, 0) := (fe105 1).trans rfl
theorem f105_4 : gm_fetch 105 4 = some (5, .iload_n 1, 0, 0, 0, 0) := (fe105 4).trans rfl
theorem f105_5 : gm_fetch 105 5 = some (7, .bipush 6, 0, 0, 0, 0) := (fe105 5).trans rfl
theorem f105_7 : gm_fetch 105 7 = some (10, .if_icmp .ge 12, 0, 19, 0, 0) := (fe105 7).trans rfl
theorem f105_10 : gm_fetch 105 10 = some (11, .aload_n 0, 0, 0, 0, 0) := (fe105 10).trans rfl
theorem f105_11 : gm_fetch 105 11 = some (14, .getfield 39, 80, 6, 4, 0) := (fe105 11).trans rfl
theorem f105_14 : gm_fetch 105 14 = some (15, .iload_n 1, 0, 0, 0, 0) := (fe105 14).trans rfl
theorem f105_15 : gm_fetch 105 15 = some (16, .aaload, 0, 0, 0, 0) := (fe105 15).trans rfl
theorem f105_16 : gm_fetch 105 16 = some (19, .goto 4, 0, 20, 0, 0) := (fe105 16).trans rfl
theorem f105_19 : gm_fetch 105 19 = some (20, .aconst_null, 0, 0, 0, 0) := (fe105 19).trans rfl
theorem f105_20 : gm_fetch 105 20 = some (21, .areturn, 0, 0, 0, 0) := (fe105 20).trans rfl
set_option maxRecDepth 10000 in
theorem rg105_0 {mi : Mi} {ml : Ml} {F : Option Nat → Mi → Ml → Prop} {x1 : Int32}  (h : ((x1 < 0) → F none mi ml) ∧ (¬ (x1 < 0) → ((6 ≤ x1) → F none mi ml) ∧ (¬ (6 ≤ x1) → (vp_in x1 6) ∧ (F (MR 25 (Int32.toNatClampNeg x1)) mi ml)))) : Sg 105 0 [some (.ref 0), some (.int x1)] [] mi ml (qr F) := by
  refine sg_ld f105_0 (v := .int x1) rfl rfl ?_
  refine sg_if f105_1 (fun c => ?_) (fun c => ?_)
  · have h := h.1 c
    refine sg_psh f105_19 (v := .null) rfl ?_
    exact sg_aret (x := none) f105_20 pq105 rfl ⟨_, rfl, h⟩
  · have h := h.2 c
    refine sg_ld f105_4 (v := .int x1) rfl rfl ?_
    refine sg_psh f105_5 (v := .int 6) (by decide) ?_
    refine sg_icmp f105_7 (fun c => ?_) (fun c => ?_)
    · have h := h.1 c
      refine sg_psh f105_19 (v := .null) rfl ?_
      exact sg_aret (x := none) f105_20 pq105 rfl ⟨_, rfl, h⟩
    · have h := h.2 c
      refine sg_ld f105_10 (v := .ref 0) rfl rfl ?_
      refine sg_getr f105_11 rfl rfl (w := 25) rfl ?_
      refine sg_ld f105_14 (v := .int x1) rfl rfl ?_
      obtain ⟨e1, h⟩ := h
      refine sg_aald f105_15 (j := 2) rfl e1 (by decide) ?_
      refine sg_goto f105_16 ?_
      exact sg_aret (x := (MR 25 (Int32.toNatClampNeg x1))) f105_20 pq105 rfl ⟨_, rfl, h⟩

/-! X6_sheetAt (I)LGridMender$Sheet; -/
theorem fe106 (pc : Nat) : gm_fetch 106 pc = gm_find pc cd_106 := rfl
theorem f106_0 : gm_fetch 106 0 = some (1, .iload_n 1, 0, 0, 0, 0) := (fe106 0).trans rfl
theorem f106_1 : gm_fetch 106 1 = some (4, .ifCond .lt 17, 0, 18, 0, 0) := (fe106 1).trans rfl
theorem f106_4 : gm_fetch 106 4 = some (5, .iload_n 1, 0, 0, 0, 0) := (fe106 4).trans rfl
theorem f106_5 : gm_fetch 106 5 = some (6, .iconst 4, 0, 0, 0, 0) := (fe106 5).trans rfl
theorem f106_6 : gm_fetch 106 6 = some (9, .if_icmp .ge 12, 0, 18, 0, 0) := (fe106 6).trans rfl
theorem f106_9 : gm_fetch 106 9 = some (10, .aload_n 0, 0, 0, 0, 0) := (fe106 9).trans rfl
theorem f106_10 : gm_fetch 106 10 = some (13, .getfield 45, 81, 6, 5, 0) := (fe106 10).trans rfl
theorem f106_13 : gm_fetch 106 13 = some (14, .iload_n 1, 0, 0, 0, 0) := (fe106 13).trans rfl
theorem f106_14 : gm_fetch 106 14 = some (15, .aaload, 0, 0, 0, 0) := (fe106 14).trans rfl
theorem f106_15 : gm_fetch 106 15 = some (18, .goto 4, 0, 19, 0, 0) := (fe106 15).trans rfl
theorem f106_18 : gm_fetch 106 18 = some (19, .aconst_null, 0, 0, 0, 0) := (fe106 18).trans rfl
theorem f106_19 : gm_fetch 106 19 = some (20, .areturn, 0, 0, 0, 0) := (fe106 19).trans rfl
set_option maxRecDepth 10000 in
theorem rg106_0 {mi : Mi} {ml : Ml} {F : Option Nat → Mi → Ml → Prop} {x1 : Int32}  (h : ((x1 < 0) → F none mi ml) ∧ (¬ (x1 < 0) → ((4 ≤ x1) → F none mi ml) ∧ (¬ (4 ≤ x1) → (vp_in x1 4) ∧ (F (MR 26 (Int32.toNatClampNeg x1)) mi ml)))) : Sg 106 0 [some (.ref 0), some (.int x1)] [] mi ml (qr F) := by
  refine sg_ld f106_0 (v := .int x1) rfl rfl ?_
  refine sg_if f106_1 (fun c => ?_) (fun c => ?_)
  · have h := h.1 c
    refine sg_psh f106_18 (v := .null) rfl ?_
    exact sg_aret (x := none) f106_19 pq106 rfl ⟨_, rfl, h⟩
  · have h := h.2 c
    refine sg_ld f106_4 (v := .int x1) rfl rfl ?_
    refine sg_psh f106_5 (v := .int 4) (by decide) ?_
    refine sg_icmp f106_6 (fun c => ?_) (fun c => ?_)
    · have h := h.1 c
      refine sg_psh f106_18 (v := .null) rfl ?_
      exact sg_aret (x := none) f106_19 pq106 rfl ⟨_, rfl, h⟩
    · have h := h.2 c
      refine sg_ld f106_9 (v := .ref 0) rfl rfl ?_
      refine sg_getr f106_10 rfl rfl (w := 26) rfl ?_
      refine sg_ld f106_13 (v := .int x1) rfl rfl ?_
      obtain ⟨e1, h⟩ := h
      refine sg_aald f106_14 (j := 5) rfl e1 (by decide) ?_
      refine sg_goto f106_15 ?_
      exact sg_aret (x := (MR 26 (Int32.toNatClampNeg x1))) f106_19 pq106 rfl ⟨_, rfl, h⟩

/-! X6_filledSlots ()I -/
theorem fe107 (pc : Nat) : gm_fetch 107 pc = gm_find pc cd_107 := rfl
theorem f107_0 : gm_fetch 107 0 = some (1, .iconst 0, 0, 0, 0, 0) := (fe107 0).trans rfl
theorem f107_1 : gm_fetch 107 1 = some (2, .istore_n 1, 0, 0, 0, 0) := (fe107 1).trans rfl
theorem f107_2 : gm_fetch 107 2 = some (3, .iconst 0, 0, 0, 0, 0) := (fe107 2).trans rfl
theorem f107_3 : gm_fetch 107 3 = some (4, .istore_n 2, 0, 0, 0, 0) := (fe107 3).trans rfl
theorem f107_4 : gm_fetch 107 4 = some (5, .iload_n 2, 0, 0, 0, 0) := (fe107 4).trans rfl
theorem f107_5 : gm_fetch 107 5 = some (7, .bipush 6, 0, 0, 0, 0) := (fe107 5).trans rfl
theorem f107_7 : gm_fetch 107 7 = some (10, .if_icmp .ge 24, 0, 31, 0, 0) := (fe107 7).trans rfl
theorem f107_10 : gm_fetch 107 10 = some (11, .aload_n 0, 0, 0, 0, 0) := (fe107 10).trans rfl
theorem f107_11 : gm_fetch 107 11 = some (14, .getfield 39, 80, 6, 4, 0) := (fe107 11).trans rfl
theorem f107_14 : gm_fetch 107 14 = some (15, .iload_n 2, 0, 0, 0, 0) := (fe107 14).trans rfl
theorem f107_15 : gm_fetch 107 15 = some (16, .aaload, 0, 0, 0, 0) := (fe107 15).trans rfl
theorem f107_16 : gm_fetch 107 16 = some (19, .getfield 54, 61, 2, 0, 0) := (fe107 16).trans rfl
theorem f107_19 : gm_fetch 107 19 = some (22, .ifCond .eq 6, 0, 25, 0, 0) := (fe107 19).trans rfl
theorem f107_22 : gm_fetch 107 22 = some (25, .iinc 1 1, 0, 0, 0, 0) := (fe107 22).trans rfl
theorem f107_25 : gm_fetch 107 25 = some (28, .iinc 2 1, 0, 0, 0, 0) := (fe107 25).trans rfl
theorem f107_28 : gm_fetch 107 28 = some (31, .goto (-24), 0, 4, 0, 0) := (fe107 28).trans rfl
theorem f107_31 : gm_fetch 107 31 = some (32, .iload_n 1, 0, 0, 0, 0) := (fe107 31).trans rfl
theorem f107_32 : gm_fetch 107 32 = some (33, .ireturn, 0, 0, 0, 0) := (fe107 32).trans rfl
set_option maxRecDepth 10000 in
theorem rg107_0 {mi : Mi} {ml : Ml} {F : Int32 → Mi → Ml → Prop}   (h : Sg 107 4 [some (.ref 0), some (.int 0), some (.int 0)] [] mi ml (qi F)) : Sg 107 0 [some (.ref 0), none, none] [] mi ml (qi F) := by
  refine sg_psh f107_0 (v := .int 0) (by decide) ?_
  refine sg_st1 f107_1 (ls' := [some (.ref 0), some (.int 0), none]) rfl rfl rfl rfl ?_
  refine sg_psh f107_2 (v := .int 0) (by decide) ?_
  refine sg_st1 f107_3 (ls' := [some (.ref 0), some (.int 0), some (.int 0)]) rfl rfl rfl rfl ?_
  exact h

set_option maxRecDepth 10000 in
theorem rg107_4 {mi : Mi} {ml : Ml} {F : Int32 → Mi → Ml → Prop} {x1 : Int32} {x2 : Int32}  (h : ((6 ≤ x2) → F x1 mi ml) ∧ (¬ (6 ≤ x2) → (vp_in x2 6) ∧ (∃ r2 : Nat, (MR 25 (Int32.toNatClampNeg x2)) = some r2 ∧ isY r2 ∧ ((((mi r2 0) = 0) → Sg 107 4 [some (.ref 0), some (.int x1), some (.int (x2 + 1))] [] mi ml (qi F)) ∧ (¬ ((mi r2 0) = 0) → Sg 107 4 [some (.ref 0), some (.int (x1 + 1)), some (.int (x2 + 1))] [] mi ml (qi F)))))) : Sg 107 4 [some (.ref 0), some (.int x1), some (.int x2)] [] mi ml (qi F) := by
  refine sg_ld f107_4 (v := .int x2) rfl rfl ?_
  refine sg_psh f107_5 (v := .int 6) (by decide) ?_
  refine sg_icmp f107_7 (fun c => ?_) (fun c => ?_)
  · have h := h.1 c
    refine sg_ld f107_31 (v := .int x1) rfl rfl ?_
    exact sg_iret f107_32 pq107 rfl rfl ⟨_, rfl, h⟩
  · have h := h.2 c
    refine sg_ld f107_10 (v := .ref 0) rfl rfl ?_
    refine sg_getr f107_11 rfl rfl (w := 25) rfl ?_
    refine sg_ld f107_14 (v := .int x2) rfl rfl ?_
    obtain ⟨e1, h⟩ := h
    refine sg_aald f107_15 (j := 2) rfl e1 (by decide) ?_
    obtain ⟨r2, qr2, hr2, h⟩ := h
    rw [qr2]
    refine sg_geti f107_16 hr2.1 rfl (x := (mi r2 0)) rfl ?_
    refine sg_if f107_19 (fun c => ?_) (fun c => ?_)
    · have h := h.1 c
      refine sg_inc f107_25 (d := 1) (ls' := [some (.ref 0), some (.int x1), some (.int (x2 + 1))]) rfl (by decide) rfl ?_
      refine sg_goto f107_28 ?_
      exact h
    · have h := h.2 c
      refine sg_inc f107_22 (d := 1) (ls' := [some (.ref 0), some (.int (x1 + 1)), some (.int x2)]) rfl (by decide) rfl ?_
      refine sg_inc f107_25 (d := 1) (ls' := [some (.ref 0), some (.int (x1 + 1)), some (.int (x2 + 1))]) rfl (by decide) rfl ?_
      refine sg_goto f107_28 ?_
      exact h

/-! X6_isForm (I)Z -/
theorem fe108 (pc : Nat) : gm_fetch 108 pc = gm_find pc cd_108 := rfl
theorem f108_0 : gm_fetch 108 0 = some (1, .iload_n 0, 0, 0, 0, 0) := (fe108 0).trans rfl
theorem f108_1 : gm_fetch 108 1 = some (4, .ifCond .eq 13, 0, 14, 0, 0) := (fe108 1).trans rfl
theorem f108_4 : gm_fetch 108 4 = some (5, .iload_n 0, 0, 0, 0, 0) := (fe108 4).trans rfl
theorem f108_5 : gm_fetch 108 5 = some (6, .iconst 1, 0, 0, 0, 0) := (fe108 5).trans rfl
theorem f108_6 : gm_fetch 108 6 = some (9, .if_icmp .eq 8, 0, 14, 0, 0) := (fe108 6).trans rfl
theorem f108_9 : gm_fetch 108 9 = some (10, .iload_n 0, 0, 0, 0, 0) := (fe108 9).trans rfl
theorem f108_10 : gm_fetch 108 10 = some (11, .iconst 2, 0, 0, 0, 0) := (fe108 10).trans rfl
theorem f108_11 : gm_fetch 108 11 = some (14, .if_icmp .ne 7, 0, 18, 0, 0) := (fe108 11).trans rfl
theorem f108_14 : gm_fetch 108 14 = some (15, .iconst 1, 0, 0, 0, 0) := (fe108 14).trans rfl
theorem f108_15 : gm_fetch 108 15 = some (18, .goto 4, 0, 19, 0, 0) := (fe108 15).trans rfl
theorem f108_18 : gm_fetch 108 18 = some (19, .iconst 0, 0, 0, 0, 0) := (fe108 18).trans rfl
theorem f108_19 : gm_fetch 108 19 = some (20, .ireturn, 0, 0, 0, 0) := (fe108 19).trans rfl
set_option maxRecDepth 10000 in
theorem rg108_0 {mi : Mi} {ml : Ml} {F : Int32 → Mi → Ml → Prop} {x0 : Int32}  (h : ((x0 = 0) → F 1 mi ml) ∧ (¬ (x0 = 0) → ((x0 = 1) → F 1 mi ml) ∧ (¬ (x0 = 1) → ((¬ x0 = 2) → F 0 mi ml) ∧ (¬ (¬ x0 = 2) → F 1 mi ml)))) : Sg 108 0 [some (.int x0)] [] mi ml (qi F) := by
  refine sg_ld f108_0 (v := .int x0) rfl rfl ?_
  refine sg_if f108_1 (fun c => ?_) (fun c => ?_)
  · have h := h.1 c
    refine sg_psh f108_14 (v := .int 1) (by decide) ?_
    refine sg_goto f108_15 ?_
    exact sg_iret f108_19 pq108 rfl (by decide) ⟨_, rfl, h⟩
  · have h := h.2 c
    refine sg_ld f108_4 (v := .int x0) rfl rfl ?_
    refine sg_psh f108_5 (v := .int 1) (by decide) ?_
    refine sg_icmp f108_6 (fun c => ?_) (fun c => ?_)
    · have h := h.1 c
      refine sg_psh f108_14 (v := .int 1) (by decide) ?_
      refine sg_goto f108_15 ?_
      exact sg_iret f108_19 pq108 rfl (by decide) ⟨_, rfl, h⟩
    · have h := h.2 c
      refine sg_ld f108_9 (v := .int x0) rfl rfl ?_
      refine sg_psh f108_10 (v := .int 2) (by decide) ?_
      refine sg_icmp f108_11 (fun c => ?_) (fun c => ?_)
      · have h := h.1 c
        refine sg_psh f108_18 (v := .int 0) (by decide) ?_
        exact sg_iret f108_19 pq108 rfl (by decide) ⟨_, rfl, h⟩
      · have h := h.2 c
        refine sg_psh f108_14 (v := .int 1) (by decide) ?_
        refine sg_goto f108_15 ?_
        exact sg_iret f108_19 pq108 rfl (by decide) ⟨_, rfl, h⟩

/-! X6_bitOf (II)I -/
theorem fe109 (pc : Nat) : gm_fetch 109 pc = gm_find pc cd_109 := rfl
theorem f109_0 : gm_fetch 109 0 = some (1, .iload_n 0, 0, 0, 0, 0) := (fe109 0).trans rfl
theorem f109_1 : gm_fetch 109 1 = some (2, .iload_n 1, 0, 0, 0, 0) := (fe109 1).trans rfl
theorem f109_2 : gm_fetch 109 2 = some (3, .iushr, 0, 0, 0, 0) := (fe109 2).trans rfl
theorem f109_3 : gm_fetch 109 3 = some (4, .iconst 1, 0, 0, 0, 0) := (fe109 3).trans rfl
theorem f109_4 : gm_fetch 109 4 = some (5, .iand, 0, 0, 0, 0) := (fe109 4).trans rfl
theorem f109_5 : gm_fetch 109 5 = some (6, .ireturn, 0, 0, 0, 0) := (fe109 5).trans rfl
set_option maxRecDepth 10000 in
theorem rg109_0 {mi : Mi} {ml : Ml} {F : Int32 → Mi → Ml → Prop} {x0 : Int32} {x1 : Int32}  (h : F ((ushr x0 x1) &&& 1) mi ml) : Sg 109 0 [some (.int x0), some (.int x1)] [] mi ml (qi F) := by
  refine sg_ld f109_0 (v := .int x0) rfl rfl ?_
  refine sg_ld f109_1 (v := .int x1) rfl rfl ?_
  refine sg_bin f109_2 rfl ?_
  refine sg_psh f109_3 (v := .int 1) (by decide) ?_
  refine sg_bin f109_4 rfl ?_
  exact sg_iret f109_5 pq109 rfl rfl ⟨_, rfl, h⟩

/-! X6_columnOf (II)I -/
theorem fe110 (pc : Nat) : gm_fetch 110 pc = gm_find pc cd_110 := rfl
theorem f110_0 : gm_fetch 110 0 = some (1, .iload_n 1, 0, 0, 0, 0) := (fe110 0).trans rfl
theorem f110_1 : gm_fetch 110 1 = some (2, .istore_n 2, 0, 0, 0, 0) := (fe110 1).trans rfl
theorem f110_2 : gm_fetch 110 2 = some (3, .iconst 0, 0, 0, 0, 0) := (fe110 2).trans rfl
theorem f110_3 : gm_fetch 110 3 = some (4, .istore_n 3, 0, 0, 0, 0) := (fe110 3).trans rfl
theorem f110_4 : gm_fetch 110 4 = some (5, .iload_n 3, 0, 0, 0, 0) := (fe110 4).trans rfl
theorem f110_5 : gm_fetch 110 5 = some (7, .bipush 7, 0, 0, 0, 0) := (fe110 5).trans rfl
theorem f110_7 : gm_fetch 110 7 = some (10, .if_icmp .ge 27, 0, 34, 0, 0) := (fe110 7).trans rfl
theorem f110_10 : gm_fetch 110 10 = some (11, .iload_n 0, 0, 0, 0, 0) := (fe110 10).trans rfl
theorem f110_11 : gm_fetch 110 11 = some (12, .iload_n 3, 0, 0, 0, 0) := (fe110 11).trans rfl
theorem f110_12 : gm_fetch 110 12 = some (15, .invokestatic 130, 38, 109, 0, 0) := (fe110 12).trans rfl
theorem f110_15 : gm_fetch 110 15 = some (16, .iconst 1, 0, 0, 0, 0) := (fe110 15).trans rfl
theorem f110_16 : gm_fetch 110 16 = some (19, .if_icmp .ne 12, 0, 28, 0, 0) := (fe110 16).trans rfl
theorem f110_19 : gm_fetch 110 19 = some (20, .iload_n 2, 0, 0, 0, 0) := (fe110 19).trans rfl
theorem f110_20 : gm_fetch 110 20 = some (23, .ifCond .ne 5, 0, 25, 0, 0) := (fe110 20).trans rfl
theorem f110_23 : gm_fetch 110 23 = some (24, .iload_n 3, 0, 0, 0, 0) := (fe110 23).trans rfl
theorem f110_24 : gm_fetch 110 24 = some (25, .ireturn, 0, 0, 0, 0) := (fe110 24).trans rfl
theorem f110_25 : gm_fetch 110 25 = some (28, .iinc 2 (-1), 0, 0, 0, 0) := (fe110 25).trans rfl
theorem f110_28 : gm_fetch 110 28 = some (31, .iinc 3 1, 0, 0, 0, 0) := (fe110 28).trans rfl
theorem f110_31 : gm_fetch 110 31 = some (34, .goto (-27), 0, 4, 0, 0) := (fe110 31).trans rfl
theorem f110_34 : gm_fetch 110 34 = some (35, .iconst (-1), 0, 0, 0, 0) := (fe110 34).trans rfl
theorem f110_35 : gm_fetch 110 35 = some (36, .ireturn, 0, 0, 0, 0) := (fe110 35).trans rfl
set_option maxRecDepth 10000 in
theorem rg110_0 {mi : Mi} {ml : Ml} {F : Int32 → Mi → Ml → Prop} {x0 : Int32} {x1 : Int32}  (h : Sg 110 4 [some (.int x0), some (.int x1), some (.int x1), some (.int 0)] [] mi ml (qi F)) : Sg 110 0 [some (.int x0), some (.int x1), none, none] [] mi ml (qi F) := by
  refine sg_ld f110_0 (v := .int x1) rfl rfl ?_
  refine sg_st1 f110_1 (ls' := [some (.int x0), some (.int x1), some (.int x1), none]) rfl rfl rfl rfl ?_
  refine sg_psh f110_2 (v := .int 0) (by decide) ?_
  refine sg_st1 f110_3 (ls' := [some (.int x0), some (.int x1), some (.int x1), some (.int 0)]) rfl rfl rfl rfl ?_
  exact h

set_option maxRecDepth 10000 in
theorem rg110_4 {mi : Mi} {ml : Ml} {F : Int32 → Mi → Ml → Prop} {x0 : Int32} {x1 : Int32} {x2 : Int32} {x3 : Int32}  (h : ((7 ≤ x3) → F (-1) mi ml) ∧ (¬ (7 ≤ x3) → Sg 109 0 [some (.int x0), some (.int x3)] [] mi ml (qi fun y1 mi2 ml3 => ((¬ y1 = 1) → Sg 110 4 [some (.int x0), some (.int x1), some (.int x2), some (.int (x3 + 1))] [] mi2 ml3 (qi F)) ∧ (¬ (¬ y1 = 1) → ((¬ x2 = 0) → Sg 110 4 [some (.int x0), some (.int x1), some (.int (x2 + (-1))), some (.int (x3 + 1))] [] mi2 ml3 (qi F)) ∧ (¬ (¬ x2 = 0) → F x3 mi2 ml3))))) : Sg 110 4 [some (.int x0), some (.int x1), some (.int x2), some (.int x3)] [] mi ml (qi F) := by
  refine sg_ld f110_4 (v := .int x3) rfl rfl ?_
  refine sg_psh f110_5 (v := .int 7) (by decide) ?_
  refine sg_icmp f110_7 (fun c => ?_) (fun c => ?_)
  · have h := h.1 c
    refine sg_psh f110_34 (v := .int (-1)) (by decide) ?_
    exact sg_iret f110_35 pq110 rfl rfl ⟨_, rfl, h⟩
  · have h := h.2 c
    refine sg_ld f110_10 (v := .int x0) rfl rfl ?_
    refine sg_ld f110_11 (v := .int x3) rfl rfl ?_
    refine sg_cS f110_12 (vs := [.int x0, .int x3]) (rest := []) (en := [some (.int x0), some (.int x3)]) (by decide) pq109 ⟨rfl, rfl⟩ rfl rfl rfl rfl rfl h ?_
    rintro _ mi2 ml3 ⟨y1, rfl, h⟩
    refine sg_psh f110_15 (v := .int 1) (by decide) ?_
    refine sg_icmp f110_16 (fun c => ?_) (fun c => ?_)
    · have h := h.1 c
      refine sg_inc f110_28 (d := 1) (ls' := [some (.int x0), some (.int x1), some (.int x2), some (.int (x3 + 1))]) rfl (by decide) rfl ?_
      refine sg_goto f110_31 ?_
      exact h
    · have h := h.2 c
      refine sg_ld f110_19 (v := .int x2) rfl rfl ?_
      refine sg_if f110_20 (fun c => ?_) (fun c => ?_)
      · have h := h.1 c
        refine sg_inc f110_25 (d := (-1)) (ls' := [some (.int x0), some (.int x1), some (.int (x2 + (-1))), some (.int x3)]) rfl (by decide) rfl ?_
        refine sg_inc f110_28 (d := 1) (ls' := [some (.int x0), some (.int x1), some (.int (x2 + (-1))), some (.int (x3 + 1))]) rfl (by decide) rfl ?_
        refine sg_goto f110_31 ?_
        exact h
      · have h := h.2 c
        refine sg_ld f110_23 (v := .int x3) rfl rfl ?_
        exact sg_iret f110_24 pq110 rfl rfl ⟨_, rfl, h⟩

/-! X6_taskAt (II)I -/
theorem fe111 (pc : Nat) : gm_fetch 111 pc = gm_find pc cd_111 := rfl
theorem f111_0 : gm_fetch 111 0 = some (1, .iload_n 0, 0, 0, 0, 0) := (fe111 0).trans rfl
theorem f111_1 : gm_fetch 111 1 = some (2, .iload_n 1, 0, 0, 0, 0) := (fe111 1).trans rfl
theorem f111_2 : gm_fetch 111 2 = some (5, .invokestatic 130, 38, 109, 0, 0) := (fe111 2).trans rfl
theorem f111_5 : gm_fetch 111 5 = some (6, .iconst 1, 0, 0, 0, 0) := (fe111 5).trans rfl
theorem f111_6 : gm_fetch 111 6 = some (9, .if_icmp .ne 16, 0, 22, 0, 0) := (fe111 6).trans rfl
theorem f111_9 : gm_fetch 111 9 = some (10, .iload_n 0, 0, 0, 0, 0) := (fe111 9).trans rfl
theorem f111_10 : gm_fetch 111 10 = some (11, .iconst 1, 0, 0, 0, 0) := (fe111 10).trans rfl
theorem f111_11 : gm_fetch 111 11 = some (12, .iload_n 1, 0, 0, 0, 0) := (fe111 11).trans rfl
theorem f111_12 : gm_fetch 111 12 = some (13, .ishl, 0, 0, 0, 0) := (fe111 12).trans rfl
theorem f111_13 : gm_fetch 111 13 = some (14, .iconst 1, 0, 0, 0, 0) := (fe111 13).trans rfl
theorem f111_14 : gm_fetch 111 14 = some (15, .isub, 0, 0, 0, 0) := (fe111 14).trans rfl
theorem f111_15 : gm_fetch 111 15 = some (16, .iand, 0, 0, 0, 0) := (fe111 15).trans rfl
theorem f111_16 : gm_fetch 111 16 = some (19, .invokestatic 167, 40, 194, 0, 0) := (fe111 16).trans rfl
theorem f111_19 : gm_fetch 111 19 = some (22, .goto 4, 0, 23, 0, 0) := (fe111 19).trans rfl
theorem f111_22 : gm_fetch 111 22 = some (23, .iconst (-1), 0, 0, 0, 0) := (fe111 22).trans rfl
theorem f111_23 : gm_fetch 111 23 = some (24, .ireturn, 0, 0, 0, 0) := (fe111 23).trans rfl
set_option maxRecDepth 10000 in
theorem rg111_0 {mi : Mi} {ml : Ml} {F : Int32 → Mi → Ml → Prop} {x0 : Int32} {x1 : Int32}  (h : Sg 109 0 [some (.int x0), some (.int x1)] [] mi ml (qi fun y1 mi2 ml3 => ((¬ y1 = 1) → F (-1) mi2 ml3) ∧ (¬ (¬ y1 = 1) → Sg 194 0 [some (.int (x0 &&& ((1 <<< (x1 &&& 31)) - 1)))] [] mi2 ml3 (qi fun y4 mi5 ml6 => F y4 mi5 ml6)))) : Sg 111 0 [some (.int x0), some (.int x1)] [] mi ml (qi F) := by
  refine sg_ld f111_0 (v := .int x0) rfl rfl ?_
  refine sg_ld f111_1 (v := .int x1) rfl rfl ?_
  refine sg_cS f111_2 (vs := [.int x0, .int x1]) (rest := []) (en := [some (.int x0), some (.int x1)]) (by decide) pq109 ⟨rfl, rfl⟩ rfl rfl rfl rfl rfl h ?_
  rintro _ mi2 ml3 ⟨y1, rfl, h⟩
  refine sg_psh f111_5 (v := .int 1) (by decide) ?_
  refine sg_icmp f111_6 (fun c => ?_) (fun c => ?_)
  · have h := h.1 c
    refine sg_psh f111_22 (v := .int (-1)) (by decide) ?_
    exact sg_iret f111_23 pq111 rfl rfl ⟨_, rfl, h⟩
  · have h := h.2 c
    refine sg_ld f111_9 (v := .int x0) rfl rfl ?_
    refine sg_psh f111_10 (v := .int 1) (by decide) ?_
    refine sg_ld f111_11 (v := .int x1) rfl rfl ?_
    refine sg_bin f111_12 rfl ?_
    refine sg_psh f111_13 (v := .int 1) (by decide) ?_
    refine sg_bin f111_14 rfl ?_
    refine sg_bin f111_15 rfl ?_
    refine sg_cS f111_16 (vs := [.int (x0 &&& ((1 <<< (x1 &&& 31)) - 1))]) (rest := []) (en := [some (.int (x0 &&& ((1 <<< (x1 &&& 31)) - 1)))]) (by decide) pq194 ⟨rfl, rfl⟩ rfl rfl rfl rfl rfl h ?_
    rintro _ mi5 ml6 ⟨y4, rfl, h⟩
    refine sg_goto f111_19 ?_
    exact sg_iret f111_23 pq111 rfl rfl ⟨_, rfl, h⟩

/-! X6_tasksMoved (III)I -/
theorem fe112 (pc : Nat) : gm_fetch 112 pc = gm_find pc cd_112 := rfl
theorem f112_0 : gm_fetch 112 0 = some (1, .iconst 0, 0, 0, 0, 0) := (fe112 0).trans rfl
theorem f112_1 : gm_fetch 112 1 = some (2, .istore_n 3, 0, 0, 0, 0) := (fe112 1).trans rfl
theorem f112_2 : gm_fetch 112 2 = some (3, .iconst 0, 0, 0, 0, 0) := (fe112 2).trans rfl
theorem f112_3 : gm_fetch 112 3 = some (5, .istore 4, 0, 0, 0, 0) := (fe112 3).trans rfl
theorem f112_5 : gm_fetch 112 5 = some (7, .iload 4, 0, 0, 0, 0) := (fe112 5).trans rfl
theorem f112_7 : gm_fetch 112 7 = some (8, .iload_n 2, 0, 0, 0, 0) := (fe112 7).trans rfl
theorem f112_8 : gm_fetch 112 8 = some (11, .if_icmp .ge 27, 0, 35, 0, 0) := (fe112 8).trans rfl
theorem f112_11 : gm_fetch 112 11 = some (12, .iload_n 0, 0, 0, 0, 0) := (fe112 11).trans rfl
theorem f112_12 : gm_fetch 112 12 = some (14, .iload 4, 0, 0, 0, 0) := (fe112 12).trans rfl
theorem f112_14 : gm_fetch 112 14 = some (17, .invokestatic 176, 93, 110, 0, 0) := (fe112 14).trans rfl
theorem f112_17 : gm_fetch 112 17 = some (18, .iload_n 1, 0, 0, 0, 0) := (fe112 17).trans rfl
theorem f112_18 : gm_fetch 112 18 = some (20, .iload 4, 0, 0, 0, 0) := (fe112 18).trans rfl
theorem f112_20 : gm_fetch 112 20 = some (23, .invokestatic 176, 93, 110, 0, 0) := (fe112 20).trans rfl
theorem f112_23 : gm_fetch 112 23 = some (26, .if_icmp .eq 6, 0, 29, 0, 0) := (fe112 23).trans rfl
theorem f112_26 : gm_fetch 112 26 = some (29, .iinc 3 1, 0, 0, 0, 0) := (fe112 26).trans rfl
theorem f112_29 : gm_fetch 112 29 = some (32, .iinc 4 1, 0, 0, 0, 0) := (fe112 29).trans rfl
theorem f112_32 : gm_fetch 112 32 = some (35, .goto (-27), 0, 5, 0, 0) := (fe112 32).trans rfl
theorem f112_35 : gm_fetch 112 35 = some (36, .iload_n 3, 0, 0, 0, 0) := (fe112 35).trans rfl
theorem f112_36 : gm_fetch 112 36 = some (37, .ireturn, 0, 0, 0, 0) := (fe112 36).trans rfl
set_option maxRecDepth 10000 in
theorem rg112_0 {mi : Mi} {ml : Ml} {F : Int32 → Mi → Ml → Prop} {x0 : Int32} {x1 : Int32} {x2 : Int32}  (h : Sg 112 5 [some (.int x0), some (.int x1), some (.int x2), some (.int 0), some (.int 0)] [] mi ml (qi F)) : Sg 112 0 [some (.int x0), some (.int x1), some (.int x2), none, none] [] mi ml (qi F) := by
  refine sg_psh f112_0 (v := .int 0) (by decide) ?_
  refine sg_st1 f112_1 (ls' := [some (.int x0), some (.int x1), some (.int x2), some (.int 0), none]) rfl rfl rfl rfl ?_
  refine sg_psh f112_2 (v := .int 0) (by decide) ?_
  refine sg_st1 f112_3 (ls' := [some (.int x0), some (.int x1), some (.int x2), some (.int 0), some (.int 0)]) rfl rfl rfl rfl ?_
  exact h

set_option maxRecDepth 10000 in
theorem rg112_5 {mi : Mi} {ml : Ml} {F : Int32 → Mi → Ml → Prop} {x0 : Int32} {x1 : Int32} {x2 : Int32} {x3 : Int32} {x4 : Int32}  (h : ((x2 ≤ x4) → F x3 mi ml) ∧ (¬ (x2 ≤ x4) → Sg 110 0 [some (.int x0), some (.int x4), none, none] [] mi ml (qi fun y1 mi2 ml3 => Sg 110 0 [some (.int x1), some (.int x4), none, none] [] mi2 ml3 (qi fun y4 mi5 ml6 => ((y1 = y4) → Sg 112 5 [some (.int x0), some (.int x1), some (.int x2), some (.int x3), some (.int (x4 + 1))] [] mi5 ml6 (qi F)) ∧ (¬ (y1 = y4) → Sg 112 5 [some (.int x0), some (.int x1), some (.int x2), some (.int (x3 + 1)), some (.int (x4 + 1))] [] mi5 ml6 (qi F)))))) : Sg 112 5 [some (.int x0), some (.int x1), some (.int x2), some (.int x3), some (.int x4)] [] mi ml (qi F) := by
  refine sg_ld f112_5 (v := .int x4) rfl rfl ?_
  refine sg_ld f112_7 (v := .int x2) rfl rfl ?_
  refine sg_icmp f112_8 (fun c => ?_) (fun c => ?_)
  · have h := h.1 c
    refine sg_ld f112_35 (v := .int x3) rfl rfl ?_
    exact sg_iret f112_36 pq112 rfl rfl ⟨_, rfl, h⟩
  · have h := h.2 c
    refine sg_ld f112_11 (v := .int x0) rfl rfl ?_
    refine sg_ld f112_12 (v := .int x4) rfl rfl ?_
    refine sg_cS f112_14 (vs := [.int x0, .int x4]) (rest := []) (en := [some (.int x0), some (.int x4), none, none]) (by decide) pq110 ⟨rfl, rfl⟩ rfl rfl rfl rfl rfl h ?_
    rintro _ mi2 ml3 ⟨y1, rfl, h⟩
    refine sg_ld f112_17 (v := .int x1) rfl rfl ?_
    refine sg_ld f112_18 (v := .int x4) rfl rfl ?_
    refine sg_cS f112_20 (vs := [.int x1, .int x4]) (rest := [.int y1]) (en := [some (.int x1), some (.int x4), none, none]) (by decide) pq110 ⟨rfl, rfl⟩ rfl rfl rfl rfl rfl h ?_
    rintro _ mi5 ml6 ⟨y4, rfl, h⟩
    refine sg_icmp f112_23 (fun c => ?_) (fun c => ?_)
    · have h := h.1 c
      refine sg_inc f112_29 (d := 1) (ls' := [some (.int x0), some (.int x1), some (.int x2), some (.int x3), some (.int (x4 + 1))]) rfl (by decide) rfl ?_
      refine sg_goto f112_32 ?_
      exact h
    · have h := h.2 c
      refine sg_inc f112_26 (d := 1) (ls' := [some (.int x0), some (.int x1), some (.int x2), some (.int (x3 + 1)), some (.int x4)]) rfl (by decide) rfl ?_
      refine sg_inc f112_29 (d := 1) (ls' := [some (.int x0), some (.int x1), some (.int x2), some (.int (x3 + 1)), some (.int (x4 + 1))]) rfl (by decide) rfl ?_
      refine sg_goto f112_32 ?_
      exact h

