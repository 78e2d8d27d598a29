/-! X3_refresh ()V -/
theorem fe33 (pc : Nat) : gm_fetch 33 pc = gm_find pc cd_33 := rfl
theorem f33_0 : gm_fetch 33 0 = some (1, .aload_n 0, 0, 0, 0, 0) := (fe33 0).trans rfl
theorem f33_1 : gm_fetch 33 1 = some (4, .getfield 45, 49, 3, 12, 0) := (fe33 1).trans rfl
theorem f33_4 : gm_fetch 33 4 = some (5, .aload_n 0, 0, 0, 0, 0) := (fe33 4).trans rfl
theorem f33_5 : gm_fetch 33 5 = some (8, .getfield 41, 37, 3, 0, 0) := (fe33 5).trans rfl
theorem f33_8 : gm_fetch 33 8 = some (11, .getfield 49, 21, 0, 5, 0) := (fe33 8).trans rfl
theorem f33_11 : gm_fetch 33 11 = some (14, .if_icmp .ne 4, 0, 15, 0, 0) := (fe33 11).trans rfl
theorem f33_14 : gm_fetch 33 14 = some (15, .return_, 0, 0, 0, 0) := (fe33 14).trans rfl
theorem f33_15 : gm_fetch 33 15 = some (16, .aload_n 0, 0, 0, 0, 0) := (fe33 15).trans rfl
theorem f33_16 : gm_fetch 33 16 = some (17, .aload_n 0, 0, 0, 0, 0) := (fe33 16).trans rfl
theorem f33_17 : gm_fetch 33 17 = some (20, .getfield 41, 37, 3, 0, 0) := (fe33 17).trans rfl
theorem f33_20 : gm_fetch 33 20 = some (23, .getfield 49, 21, 0, 5, 0) := (fe33 20).trans rfl
theorem f33_23 : gm_fetch 33 23 = some (26, .putfield 45, 49, 3, 12, 0) := (fe33 23).trans rfl
theorem f33_26 : gm_fetch 33 26 = some (27, .aload_n 0, 0, 0, 0, 0) := (fe33 26).trans rfl
theorem f33_27 : gm_fetch 33 27 = some (30, .getfield 12, 38, 3, 1, 0) := (fe33 27).trans rfl
theorem f33_30 : gm_fetch 33 30 = some (31, .aload_n 0, 0, 0, 0, 0) := (fe33 30).trans rfl
theorem f33_31 : gm_fetch 33 31 = some (34, .getfield 41, 37, 3, 0, 0) := (fe33 31).trans rfl
theorem f33_34 : gm_fetch 33 34 = some (37, .getfield 54, 6, 0, 1, 0) := (fe33 34).trans rfl
theorem f33_37 : gm_fetch 33 37 = some (38, .aload_n 0, 0, 0, 0, 0) := (fe33 37).trans rfl
theorem f33_38 : gm_fetch 33 38 = some (41, .getfield 41, 37, 3, 0, 0) := (fe33 38).trans rfl
theorem f33_41 : gm_fetch 33 41 = some (44, .getfield 57, 11, 0, 2, 0) := (fe33 41).trans rfl
theorem f33_44 : gm_fetch 33 44 = some (45, .aload_n 0, 0, 0, 0, 0) := (fe33 44).trans rfl
theorem f33_45 : gm_fetch 33 45 = some (48, .getfield 41, 37, 3, 0, 0) := (fe33 45).trans rfl
theorem f33_48 : gm_fetch 33 48 = some (51, .getfield 60, 15, 0, 3, 0) := (fe33 48).trans rfl
theorem f33_51 : gm_fetch 33 51 = some (54, .invokevirtual 63, 43, 56, 0, 0) := (fe33 51).trans rfl
theorem f33_54 : gm_fetch 33 54 = some (55, .aload_n 0, 0, 0, 0, 0) := (fe33 54).trans rfl
theorem f33_55 : gm_fetch 33 55 = some (56, .aload_n 0, 0, 0, 0, 0) := (fe33 55).trans rfl
theorem f33_56 : gm_fetch 33 56 = some (57, .aload_n 0, 0, 0, 0, 0) := (fe33 56).trans rfl
theorem f33_57 : gm_fetch 33 57 = some (60, .getfield 12, 38, 3, 1, 0) := (fe33 57).trans rfl
theorem f33_60 : gm_fetch 33 60 = some (61, .aload_n 0, 0, 0, 0, 0) := (fe33 60).trans rfl
theorem f33_61 : gm_fetch 33 61 = some (64, .getfield 18, 39, 3, 2, 0) := (fe33 61).trans rfl
theorem f33_64 : gm_fetch 33 64 = some (67, .invokevirtual 67, 49, 34, 0, 0) := (fe33 64).trans rfl
theorem f33_67 : gm_fetch 33 67 = some (70, .putfield 71, 46, 3, 9, 0) := (fe33 67).trans rfl
theorem f33_70 : gm_fetch 33 70 = some (71, .return_, 0, 0, 0, 0) := (fe33 70).trans rfl
set_option maxRecDepth 10000 in
theorem rg33_0 {mi : Mi} {ml : Ml} {F : Mi → Ml → Prop}   (h : ((¬ (mi 3 12) = (mi 1 5)) → Sg 56 0 [some (.ref 4), some (.int (mi 1 1)), some (.int (mi 1 2)), some (.int (mi 1 3)), none] [] (va_up mi 3 (va_up (mi 3) 12 (mi 1 5))) ml (qv fun mi2 ml3 => Sg 34 0 [some (.ref 3), some (.ref 4), some (.ref 8), none] [] mi2 ml3 (qi fun y4 mi5 ml6 => (y4 = 0 ∨ y4 = 1) ∧ (F (va_up mi5 3 (va_up (mi5 3) 9 y4)) ml6)))) ∧ (¬ (¬ (mi 3 12) = (mi 1 5)) → F mi ml)) : Sg 33 0 [some (.ref 3)] [] mi ml (qv F) := by
  refine sg_ld f33_0 (v := .ref 3) rfl rfl ?_
  refine sg_geti f33_1 rfl rfl (x := (mi 3 12)) rfl ?_
  refine sg_ld f33_4 (v := .ref 3) rfl rfl ?_
  refine sg_getr f33_5 rfl rfl (w := 1) rfl ?_
  refine sg_geti f33_8 rfl rfl (x := (mi 1 5)) rfl ?_
  refine sg_icmp f33_11 (fun c => ?_) (fun c => ?_)
  · have h := h.1 c
    refine sg_ld f33_15 (v := .ref 3) rfl rfl ?_
    refine sg_ld f33_16 (v := .ref 3) rfl rfl ?_
    refine sg_getr f33_17 rfl rfl (w := 1) rfl ?_
    refine sg_geti f33_20 rfl rfl (x := (mi 1 5)) rfl ?_
    refine sg_puti f33_23 rfl rfl rfl (fun hz => by cases hz) ?_
    refine sg_ld f33_26 (v := .ref 3) rfl rfl ?_
    refine sg_getr f33_27 rfl rfl (w := 4) rfl ?_
    refine sg_ld f33_30 (v := .ref 3) rfl rfl ?_
    refine sg_getr f33_31 rfl rfl (w := 1) rfl ?_
    refine sg_geti f33_34 rfl rfl (x := (mi 1 1)) rfl ?_
    refine sg_ld f33_37 (v := .ref 3) rfl rfl ?_
    refine sg_getr f33_38 rfl rfl (w := 1) rfl ?_
    refine sg_geti f33_41 rfl rfl (x := (mi 1 2)) rfl ?_
    refine sg_ld f33_44 (v := .ref 3) rfl rfl ?_
    refine sg_getr f33_45 rfl rfl (w := 1) rfl ?_
    refine sg_geti f33_48 rfl rfl (x := (mi 1 3)) rfl ?_
    refine sg_cV f33_51 (vs := [.int (mi 1 1), .int (mi 1 2), .int (mi 1 3)]) (r := 4) (rest := []) (en := [some (.ref 4), some (.int (mi 1 1)), some (.int (mi 1 2)), some (.int (mi 1 3)), none]) pq56 ⟨rfl, rfl⟩ rfl rfl rfl rfl rfl rfl h ?_
    intro _ mi2 ml3 h
    have h := gm_qv h
    refine sg_ld f33_54 (v := .ref 3) rfl rfl ?_
    refine sg_ld f33_55 (v := .ref 3) rfl rfl ?_
    refine sg_ld f33_56 (v := .ref 3) rfl rfl ?_
    refine sg_getr f33_57 rfl rfl (w := 4) rfl ?_
    refine sg_ld f33_60 (v := .ref 3) rfl rfl ?_
    refine sg_getr f33_61 rfl rfl (w := 8) rfl ?_
    refine sg_cV f33_64 (vs := [.ref 4, .ref 8]) (r := 3) (rest := [.ref 3]) (en := [some (.ref 3), some (.ref 4), some (.ref 8), none]) pq34 ⟨rfl, rfl⟩ rfl rfl rfl rfl rfl rfl h ?_
    rintro _ mi5 ml6 ⟨y4, rfl, h⟩
    obtain ⟨e7, h⟩ := h
    refine sg_puti f33_67 rfl rfl rfl (fun _ => e7) ?_
    exact sg_ret f33_70 pq33 rfl h
  · have h := h.2 c
    exact sg_ret f33_14 pq33 rfl h

/-! X3_canPlaceBy (LGridMender$SeatTable;[J)Z -/
theorem fe34 (pc : Nat) : gm_fetch 34 pc = gm_find pc cd_34 := rfl
theorem f34_0 : gm_fetch 34 0 = some (1, .iconst 0, 0, 0, 0, 0) := (fe34 0).trans rfl
theorem f34_1 : gm_fetch 34 1 = some (2, .istore_n 3, 0, 0, 0, 0) := (fe34 1).trans rfl
theorem f34_2 : gm_fetch 34 2 = some (3, .iload_n 3, 0, 0, 0, 0) := (fe34 2).trans rfl
theorem f34_3 : gm_fetch 34 3 = some (4, .aload_n 0, 0, 0, 0, 0) := (fe34 3).trans rfl
theorem f34_4 : gm_fetch 34 4 = some (7, .getfield 41, 37, 3, 0, 0) := (fe34 4).trans rfl
theorem f34_7 : gm_fetch 34 7 = some (10, .getfield 75, 1, 0, 0, 0) := (fe34 7).trans rfl
theorem f34_10 : gm_fetch 34 10 = some (13, .if_icmp .ge 25, 0, 35, 0, 0) := (fe34 10).trans rfl
theorem f34_13 : gm_fetch 34 13 = some (14, .aload_n 2, 0, 0, 0, 0) := (fe34 13).trans rfl
theorem f34_14 : gm_fetch 34 14 = some (15, .iload_n 3, 0, 0, 0, 0) := (fe34 14).trans rfl
theorem f34_15 : gm_fetch 34 15 = some (16, .aload_n 1, 0, 0, 0, 0) := (fe34 15).trans rfl
theorem f34_16 : gm_fetch 34 16 = some (17, .aload_n 0, 0, 0, 0, 0) := (fe34 16).trans rfl
theorem f34_17 : gm_fetch 34 17 = some (20, .getfield 41, 37, 3, 0, 0) := (fe34 17).trans rfl
theorem f34_20 : gm_fetch 34 20 = some (23, .getfield 78, 24, 0, 6, 0) := (fe34 20).trans rfl
theorem f34_23 : gm_fetch 34 23 = some (24, .iload_n 3, 0, 0, 0, 0) := (fe34 23).trans rfl
theorem f34_24 : gm_fetch 34 24 = some (25, .iaload, 0, 0, 0, 0) := (fe34 24).trans rfl
theorem f34_25 : gm_fetch 34 25 = some (28, .invokevirtual 81, 50, 62, 0, 0) := (fe34 25).trans rfl
theorem f34_28 : gm_fetch 34 28 = some (29, .lastore, 0, 0, 0, 0) := (fe34 28).trans rfl
theorem f34_29 : gm_fetch 34 29 = some (32, .iinc 3 1, 0, 0, 0, 0) := (fe34 29).trans rfl
theorem f34_32 : gm_fetch 34 32 = some (35, .goto (-30), 0, 2, 0, 0) := (fe34 32).trans rfl
theorem f34_35 : gm_fetch 34 35 = some (36, .aload_n 1, 0, 0, 0, 0) := (fe34 35).trans rfl
theorem f34_36 : gm_fetch 34 36 = some (37, .aload_n 2, 0, 0, 0, 0) := (fe34 36).trans rfl
theorem f34_37 : gm_fetch 34 37 = some (38, .iconst 0, 0, 0, 0, 0) := (fe34 37).trans rfl
theorem f34_38 : gm_fetch 34 38 = some (39, .aload_n 0, 0, 0, 0, 0) := (fe34 38).trans rfl
theorem f34_39 : gm_fetch 34 39 = some (42, .getfield 41, 37, 3, 0, 0) := (fe34 39).trans rfl
theorem f34_42 : gm_fetch 34 42 = some (45, .getfield 75, 1, 0, 0, 0) := (fe34 42).trans rfl
theorem f34_45 : gm_fetch 34 45 = some (46, .iconst 1, 0, 0, 0, 0) := (fe34 45).trans rfl
theorem f34_46 : gm_fetch 34 46 = some (47, .isub, 0, 0, 0, 0) := (fe34 46).trans rfl
theorem f34_47 : gm_fetch 34 47 = some (50, .invokestatic 85, 51, 35, 0, 0) := (fe34 47).trans rfl
theorem f34_50 : gm_fetch 34 50 = some (51, .ireturn, 0, 0, 0, 0) := (fe34 50).trans rfl
set_option maxRecDepth 10000 in
theorem rg34_0 {mi : Mi} {ml : Ml} {F : Int32 → Mi → Ml → Prop} {rx1 : Nat} {rx2 : Nat} (hrx1 : isT rx1) (hrx2 : isJ rx2) (h : Sg 34 2 [some (.ref 3), some (.ref rx1), some (.ref rx2), some (.int 0)] [] mi ml (qi F)) : Sg 34 0 [some (.ref 3), some (.ref rx1), some (.ref rx2), none] [] mi ml (qi F) := by
  refine sg_psh f34_0 (v := .int 0) (by decide) ?_
  refine sg_st1 f34_1 (ls' := [some (.ref 3), some (.ref rx1), some (.ref rx2), some (.int 0)]) rfl rfl rfl rfl ?_
  exact h

set_option maxRecDepth 10000 in
theorem rg34_2 {mi : Mi} {ml : Ml} {F : Int32 → Mi → Ml → Prop} {rx1 : Nat} {rx2 : Nat} {x3 : Int32} (hrx1 : isT rx1) (hrx2 : isJ rx2) (h : (((mi 1 0) ≤ x3) → Sg 35 0 [some (.ref rx1), some (.ref rx2), some (.int 0), some (.int ((mi 1 0) - 1)), none, none, none] [] mi ml (qi fun y1 mi2 ml3 => (y1 = 0 ∨ y1 = 1) ∧ F y1 mi2 ml3)) ∧ (¬ ((mi 1 0) ≤ x3) → (vp_in x3 7) ∧ (Sg 62 0 [some (.ref rx1), some (.int (mi 2 (Int32.toNatClampNeg x3))), none, none, none] [] mi ml (ql fun y5 mi6 ml7 => Sg 34 2 [some (.ref 3), some (.ref rx1), some (.ref rx2), some (.int (x3 + 1))] [] mi6 (va_up ml7 rx2 (va_up (ml7 rx2) (Int32.toNatClampNeg x3) y5)) (qi F))))) : Sg 34 2 [some (.ref 3), some (.ref rx1), some (.ref rx2), some (.int x3)] [] mi ml (qi F) := by
  refine sg_ld f34_2 (v := .int x3) rfl rfl ?_
  refine sg_ld f34_3 (v := .ref 3) rfl rfl ?_
  refine sg_getr f34_4 rfl rfl (w := 1) rfl ?_
  refine sg_geti f34_7 rfl rfl (x := (mi 1 0)) rfl ?_
  refine sg_icmp f34_10 (fun c => ?_) (fun c => ?_)
  · have h := h.1 c
    refine sg_ld f34_35 (v := .ref rx1) rfl rfl ?_
    refine sg_ld f34_36 (v := .ref rx2) rfl rfl ?_
    refine sg_psh f34_37 (v := .int 0) (by decide) ?_
    refine sg_ld f34_38 (v := .ref 3) rfl rfl ?_
    refine sg_getr f34_39 rfl rfl (w := 1) rfl ?_
    refine sg_geti f34_42 rfl rfl (x := (mi 1 0)) rfl ?_
    refine sg_psh f34_45 (v := .int 1) (by decide) ?_
    refine sg_bin f34_46 rfl ?_
    refine sg_cS f34_47 (vs := [.ref rx1, .ref rx2, .int 0, .int ((mi 1 0) - 1)]) (rest := []) (en := [some (.ref rx1), some (.ref rx2), some (.int 0), some (.int ((mi 1 0) - 1)), none, none, none]) (by decide) pq35 ⟨rfl, rfl⟩ rfl rfl rfl rfl rfl h ?_
    rintro _ mi2 ml3 ⟨y1, rfl, h⟩
    exact sg_iret f34_50 pq34 rfl (gm_nz h.1) ⟨_, rfl, h.2⟩
  · have h := h.2 c
    refine sg_ld f34_13 (v := .ref rx2) rfl rfl ?_
    refine sg_ld f34_14 (v := .int x3) rfl rfl ?_
    refine sg_ld f34_15 (v := .ref rx1) rfl rfl ?_
    refine sg_ld f34_16 (v := .ref 3) rfl rfl ?_
    refine sg_getr f34_17 rfl rfl (w := 1) rfl ?_
    refine sg_getr f34_20 rfl rfl (w := 2) rfl ?_
    refine sg_ld f34_23 (v := .int x3) rfl rfl ?_
    obtain ⟨e4, h⟩ := h
    refine sg_iald f34_24 rfl e4 (x := (mi 2 (Int32.toNatClampNeg x3))) rfl ?_
    refine sg_cV f34_25 (vs := [.int (mi 2 (Int32.toNatClampNeg x3))]) (r := rx1) (rest := [.int x3, .ref rx2]) (en := [some (.ref rx1), some (.int (mi 2 (Int32.toNatClampNeg x3))), none, none, none]) pq62 ⟨rfl, rfl⟩ rfl hrx1.1 rfl rfl rfl rfl h ?_
    rintro _ mi6 ml7 ⟨y5, rfl, h⟩
    refine sg_last f34_28 hrx2 e4 ?_
    refine sg_inc f34_29 (d := 1) (ls' := [some (.ref 3), some (.ref rx1), some (.ref rx2), some (.int (x3 + 1))]) rfl (by decide) rfl ?_
    refine sg_goto f34_32 ?_
    exact h

/-! X3_canPlace (LGridMender$SeatTable;[JII)Z -/
theorem fe35 (pc : Nat) : gm_fetch 35 pc = gm_find pc cd_35 := rfl
theorem f35_0 : gm_fetch 35 0 = some (1, .aload_n 1, 0, 0, 0, 0) := (fe35 0).trans rfl
theorem f35_1 : gm_fetch 35 1 = some (2, .iload_n 2, 0, 0, 0, 0) := (fe35 1).trans rfl
theorem f35_2 : gm_fetch 35 2 = some (3, .laload, 0, 0, 0, 0) := (fe35 2).trans rfl
theorem f35_3 : gm_fetch 35 3 = some (5, .lstore 4, 0, 0, 0, 0) := (fe35 3).trans rfl
theorem f35_5 : gm_fetch 35 5 = some (6, .iload_n 2, 0, 0, 0, 0) := (fe35 5).trans rfl
theorem f35_6 : gm_fetch 35 6 = some (7, .iconst 1, 0, 0, 0, 0) := (fe35 6).trans rfl
theorem f35_7 : gm_fetch 35 7 = some (8, .iadd, 0, 0, 0, 0) := (fe35 7).trans rfl
theorem f35_8 : gm_fetch 35 8 = some (10, .istore 6, 0, 0, 0, 0) := (fe35 8).trans rfl
theorem f35_10 : gm_fetch 35 10 = some (12, .iload 6, 0, 0, 0, 0) := (fe35 10).trans rfl
theorem f35_12 : gm_fetch 35 12 = some (13, .iload_n 3, 0, 0, 0, 0) := (fe35 12).trans rfl
theorem f35_13 : gm_fetch 35 13 = some (16, .if_icmp .gt 29, 0, 42, 0, 0) := (fe35 13).trans rfl
theorem f35_16 : gm_fetch 35 16 = some (18, .lload 4, 0, 0, 0, 0) := (fe35 16).trans rfl
theorem f35_18 : gm_fetch 35 18 = some (19, .lconst 0, 0, 0, 0, 0) := (fe35 18).trans rfl
theorem f35_19 : gm_fetch 35 19 = some (20, .lcmp, 0, 0, 0, 0) := (fe35 19).trans rfl
theorem f35_20 : gm_fetch 35 20 = some (23, .ifCond .eq 22, 0, 42, 0, 0) := (fe35 20).trans rfl
theorem f35_23 : gm_fetch 35 23 = some (24, .aload_n 1, 0, 0, 0, 0) := (fe35 23).trans rfl
theorem f35_24 : gm_fetch 35 24 = some (26, .iload 6, 0, 0, 0, 0) := (fe35 24).trans rfl
theorem f35_26 : gm_fetch 35 26 = some (27, .laload, 0, 0, 0, 0) := (fe35 26).trans rfl
theorem f35_27 : gm_fetch 35 27 = some (28, .aload_n 0, 0, 0, 0, 0) := (fe35 27).trans rfl
theorem f35_28 : gm_fetch 35 28 = some (30, .lload 4, 0, 0, 0, 0) := (fe35 28).trans rfl
theorem f35_30 : gm_fetch 35 30 = some (33, .invokevirtual 89, 52, 63, 0, 0) := (fe35 30).trans rfl
theorem f35_33 : gm_fetch 35 33 = some (34, .land, 0, 0, 0, 0) := (fe35 33).trans rfl
theorem f35_34 : gm_fetch 35 34 = some (36, .lstore 4, 0, 0, 0, 0) := (fe35 34).trans rfl
theorem f35_36 : gm_fetch 35 36 = some (39, .iinc 6 1, 0, 0, 0, 0) := (fe35 36).trans rfl
theorem f35_39 : gm_fetch 35 39 = some (42, .goto (-29), 0, 10, 0, 0) := (fe35 39).trans rfl
theorem f35_42 : gm_fetch 35 42 = some (44, .lload 4, 0, 0, 0, 0) := (fe35 42).trans rfl
theorem f35_44 : gm_fetch 35 44 = some (45, .lconst 0, 0, 0, 0, 0) := (fe35 44).trans rfl
theorem f35_45 : gm_fetch 35 45 = some (46, .lcmp, 0, 0, 0, 0) := (fe35 45).trans rfl
theorem f35_46 : gm_fetch 35 46 = some (49, .ifCond .eq 7, 0, 53, 0, 0) := (fe35 46).trans rfl
theorem f35_49 : gm_fetch 35 49 = some (50, .iconst 1, 0, 0, 0, 0) := (fe35 49).trans rfl
theorem f35_50 : gm_fetch 35 50 = some (53, .goto 4, 0, 54, 0, 0) := (fe35 50).trans rfl
theorem f35_53 : gm_fetch 35 53 = some (54, .iconst 0, 0, 0, 0, 0) := (fe35 53).trans rfl
theorem f35_54 : gm_fetch 35 54 = some (55, .ireturn, 0, 0, 0, 0) := (fe35 54).trans rfl
set_option maxRecDepth 10000 in
theorem rg35_0 {mi : Mi} {ml : Ml} {F : Int32 → Mi → Ml → Prop} {rx0 : Nat} {rx1 : Nat} {x2 : Int32} {x3 : Int32} (hrx0 : isT rx0) (hrx1 : isJ rx1) (h : (vp_in x2 7) ∧ (Sg 35 10 [some (.ref rx0), some (.ref rx1), some (.int x2), some (.int x3), some (.long (ml rx1 (Int32.toNatClampNeg x2))), none, some (.int (x2 + 1))] [] mi ml (qi F))) : Sg 35 0 [some (.ref rx0), some (.ref rx1), some (.int x2), some (.int x3), none, none, none] [] mi ml (qi F) := by
  refine sg_ld f35_0 (v := .ref rx1) rfl rfl ?_
  refine sg_ld f35_1 (v := .int x2) rfl rfl ?_
  obtain ⟨e1, h⟩ := h
  refine sg_lald f35_2 hrx1 e1 (x := (ml rx1 (Int32.toNatClampNeg x2))) rfl ?_
  refine sg_st2 f35_3 (ls' := [some (.ref rx0), some (.ref rx1), some (.int x2), some (.int x3), some (.long (ml rx1 (Int32.toNatClampNeg x2))), none, none]) rfl rfl rfl ?_
  refine sg_ld f35_5 (v := .int x2) rfl rfl ?_
  refine sg_psh f35_6 (v := .int 1) (by decide) ?_
  refine sg_bin f35_7 rfl ?_
  refine sg_st1 f35_8 (ls' := [some (.ref rx0), some (.ref rx1), some (.int x2), some (.int x3), some (.long (ml rx1 (Int32.toNatClampNeg x2))), none, some (.int (x2 + 1))]) rfl rfl rfl rfl ?_
  exact h

set_option maxRecDepth 10000 in
theorem rg35_10 {mi : Mi} {ml : Ml} {F : Int32 → Mi → Ml → Prop} {rx0 : Nat} {rx1 : Nat} {x2 : Int32} {x3 : Int32} {x4 : Int64} {x6 : Int32} (hrx0 : isT rx0) (hrx1 : isJ rx1) (h : ((x3 < x6) → Sg 35 42 [some (.ref rx0), some (.ref rx1), some (.int x2), some (.int x3), some (.long x4), none, some (.int x6)] [] mi ml (qi F)) ∧ (¬ (x3 < x6) → (((lg_cmp x4 0) = 0) → Sg 35 42 [some (.ref rx0), some (.ref rx1), some (.int x2), some (.int x3), some (.long x4), none, some (.int x6)] [] mi ml (qi F)) ∧ (¬ ((lg_cmp x4 0) = 0) → (vp_in x6 7) ∧ (Sg 63 0 [some (.ref rx0), some (.long x4), none, none, none, none] [] mi ml (ql fun y2 mi3 ml4 => Sg 35 10 [some (.ref rx0), some (.ref rx1), some (.int x2), some (.int x3), some (.long ((ml rx1 (Int32.toNatClampNeg x6)) &&& y2)), none, some (.int (x6 + 1))] [] mi3 ml4 (qi F)))))) : Sg 35 10 [some (.ref rx0), some (.ref rx1), some (.int x2), some (.int x3), some (.long x4), none, some (.int x6)] [] mi ml (qi F) := by
  refine sg_ld f35_10 (v := .int x6) rfl rfl ?_
  refine sg_ld f35_12 (v := .int x3) rfl rfl ?_
  refine sg_icmp f35_13 (fun c => ?_) (fun c => ?_)
  · have h := h.1 c
    exact h
  · have h := h.2 c
    refine sg_ld f35_16 (v := .long x4) rfl rfl ?_
    refine sg_psh f35_18 (v := .long 0) (by decide) ?_
    refine sg_lcmp f35_19 ?_
    refine sg_if f35_20 (fun c => ?_) (fun c => ?_)
    · have h := h.1 c
      exact h
    · have h := h.2 c
      refine sg_ld f35_23 (v := .ref rx1) rfl rfl ?_
      refine sg_ld f35_24 (v := .int x6) rfl rfl ?_
      obtain ⟨e1, h⟩ := h
      refine sg_lald f35_26 hrx1 e1 (x := (ml rx1 (Int32.toNatClampNeg x6))) rfl ?_
      refine sg_ld f35_27 (v := .ref rx0) rfl rfl ?_
      refine sg_ld f35_28 (v := .long x4) rfl rfl ?_
      refine sg_cV f35_30 (vs := [.long x4]) (r := rx0) (rest := [.long (ml rx1 (Int32.toNatClampNeg x6))]) (en := [some (.ref rx0), some (.long x4), none, none, none, none]) pq63 ⟨rfl, rfl⟩ rfl hrx0.1 rfl rfl rfl rfl h ?_
      rintro _ mi3 ml4 ⟨y2, rfl, h⟩
      refine sg_binl f35_33 rfl ?_
      refine sg_st2 f35_34 (ls' := [some (.ref rx0), some (.ref rx1), some (.int x2), some (.int x3), some (.long ((ml rx1 (Int32.toNatClampNeg x6)) &&& y2)), none, some (.int x6)]) rfl rfl rfl ?_
      refine sg_inc f35_36 (d := 1) (ls' := [some (.ref rx0), some (.ref rx1), some (.int x2), some (.int x3), some (.long ((ml rx1 (Int32.toNatClampNeg x6)) &&& y2)), none, some (.int (x6 + 1))]) rfl (by decide) rfl ?_
      refine sg_goto f35_39 ?_
      exact h

set_option maxRecDepth 10000 in
theorem rg35_42 {mi : Mi} {ml : Ml} {F : Int32 → Mi → Ml → Prop} {rx0 : Nat} {rx1 : Nat} {x2 : Int32} {x3 : Int32} {x4 : Int64} {x6 : Int32} (hrx0 : isT rx0) (hrx1 : isJ rx1) (h : (((lg_cmp x4 0) = 0) → F 0 mi ml) ∧ (¬ ((lg_cmp x4 0) = 0) → F 1 mi ml)) : Sg 35 42 [some (.ref rx0), some (.ref rx1), some (.int x2), some (.int x3), some (.long x4), none, some (.int x6)] [] mi ml (qi F) := by
  refine sg_ld f35_42 (v := .long x4) rfl rfl ?_
  refine sg_psh f35_44 (v := .long 0) (by decide) ?_
  refine sg_lcmp f35_45 ?_
  refine sg_if f35_46 (fun c => ?_) (fun c => ?_)
  · have h := h.1 c
    refine sg_psh f35_53 (v := .int 0) (by decide) ?_
    exact sg_iret f35_54 pq35 rfl (by decide) ⟨_, rfl, h⟩
  · have h := h.2 c
    refine sg_psh f35_49 (v := .int 1) (by decide) ?_
    refine sg_goto f35_50 ?_
    exact sg_iret f35_54 pq35 rfl (by decide) ⟨_, rfl, h⟩

/-! X3_isWhole ()Z -/
theorem fe36 (pc : Nat) : gm_fetch 36 pc = gm_find pc cd_36 := rfl
theorem f36_0 : gm_fetch 36 0 = some (1, .aload_n 0, 0, 0, 0, 0) := (fe36 0).trans rfl
theorem f36_1 : gm_fetch 36 1 = some (4, .invokevirtual 93, 42, 33, 0, 0) := (fe36 1).trans rfl
theorem f36_4 : gm_fetch 36 4 = some (5, .aload_n 0, 0, 0, 0, 0) := (fe36 4).trans rfl
theorem f36_5 : gm_fetch 36 5 = some (8, .getfield 71, 46, 3, 9, 0) := (fe36 5).trans rfl
theorem f36_8 : gm_fetch 36 8 = some (9, .ireturn, 0, 0, 0, 0) := (fe36 8).trans rfl
set_option maxRecDepth 10000 in
theorem rg36_0 {mi : Mi} {ml : Ml} {F : Int32 → Mi → Ml → Prop}   (h : Sg 33 0 [some (.ref 3)] [] mi ml (qv fun mi2 ml3 => ((mi2 3 9) = 0 ∨ (mi2 3 9) = 1) ∧ F (mi2 3 9) mi2 ml3)) : Sg 36 0 [some (.ref 3)] [] mi ml (qi F) := by
  refine sg_ld f36_0 (v := .ref 3) rfl rfl ?_
  refine sg_cV f36_1 (vs := []) (r := 3) (rest := []) (en := [some (.ref 3)]) pq33 ⟨rfl, rfl⟩ rfl rfl rfl rfl rfl rfl h ?_
  intro _ mi2 ml3 h
  have h := gm_qv h
  refine sg_ld f36_4 (v := .ref 3) rfl rfl ?_
  refine sg_geti f36_5 rfl rfl (x := (mi2 3 9)) rfl ?_
  exact sg_iret f36_8 pq36 rfl (gm_nz h.1) ⟨_, rfl, h.2⟩

/-! X3_seatsOfRow (I)I -/
theorem fe37 (pc : Nat) : gm_fetch 37 pc = gm_find pc cd_37 := rfl
theorem f37_0 : gm_fetch 37 0 = some (1, .aload_n 0, 0, 0, 0, 0) := (fe37 0).trans rfl
theorem f37_1 : gm_fetch 37 1 = some (4, .invokevirtual 93, 42, 33, 0, 0) := (fe37 1).trans rfl
theorem f37_4 : gm_fetch 37 4 = some (5, .aload_n 0, 0, 0, 0, 0) := (fe37 4).trans rfl
theorem f37_5 : gm_fetch 37 5 = some (8, .getfield 18, 39, 3, 2, 0) := (fe37 5).trans rfl
theorem f37_8 : gm_fetch 37 8 = some (9, .iload_n 1, 0, 0, 0, 0) := (fe37 8).trans rfl
theorem f37_9 : gm_fetch 37 9 = some (10, .laload, 0, 0, 0, 0) := (fe37 9).trans rfl
theorem f37_10 : gm_fetch 37 10 = some (13, .invokestatic 96, 97, 195, 0, 0) := (fe37 10).trans rfl
theorem f37_13 : gm_fetch 37 13 = some (14, .ireturn, 0, 0, 0, 0) := (fe37 13).trans rfl
set_option maxRecDepth 10000 in
theorem rg37_0 {mi : Mi} {ml : Ml} {F : Int32 → Mi → Ml → Prop} {x1 : Int32}  (h : Sg 33 0 [some (.ref 3)] [] mi ml (qv fun mi2 ml3 => (vp_in x1 7) ∧ (Sg 195 0 [some (.long (ml3 8 (Int32.toNatClampNeg x1))), none] [] mi2 ml3 (qi fun y5 mi6 ml7 => F y5 mi6 ml7)))) : Sg 37 0 [some (.ref 3), some (.int x1)] [] mi ml (qi F) := by
  refine sg_ld f37_0 (v := .ref 3) rfl rfl ?_
  refine sg_cV f37_1 (vs := []) (r := 3) (rest := []) (en := [some (.ref 3)]) pq33 ⟨rfl, rfl⟩ rfl rfl rfl rfl rfl rfl h ?_
  intro _ mi2 ml3 h
  have h := gm_qv h
  refine sg_ld f37_4 (v := .ref 3) rfl rfl ?_
  refine sg_getr f37_5 rfl rfl (w := 8) rfl ?_
  refine sg_ld f37_8 (v := .int x1) rfl rfl ?_
  obtain ⟨e4, h⟩ := h
  refine sg_lald f37_9 rfl e4 (x := (ml3 8 (Int32.toNatClampNeg x1))) rfl ?_
  refine sg_cS f37_10 (vs := [.long (ml3 8 (Int32.toNatClampNeg x1))]) (rest := []) (en := [some (.long (ml3 8 (Int32.toNatClampNeg x1))), none]) (by decide) pq195 ⟨rfl, rfl⟩ rfl rfl rfl rfl rfl h ?_
  rintro _ mi6 ml7 ⟨y5, rfl, h⟩
  exact sg_iret f37_13 pq37 rfl rfl ⟨_, rfl, h⟩

/-! X3_seatsOfAllRows ()I -/
theorem fe38 (pc : Nat) : gm_fetch 38 pc = gm_find pc cd_38 := rfl
theorem f38_0 : gm_fetch 38 0 = some (1, .aload_n 0, 0, 0, 0, 0) := (fe38 0).trans rfl
theorem f38_1 : gm_fetch 38 1 = some (4, .invokevirtual 93, 42, 33, 0, 0) := (fe38 1).trans rfl
theorem f38_4 : gm_fetch 38 4 = some (5, .iconst 0, 0, 0, 0, 0) := (fe38 4).trans rfl
theorem f38_5 : gm_fetch 38 5 = some (6, .istore_n 1, 0, 0, 0, 0) := (fe38 5).trans rfl
theorem f38_6 : gm_fetch 38 6 = some (7, .iconst 0, 0, 0, 0, 0) := (fe38 6).trans rfl
theorem f38_7 : gm_fetch 38 7 = some (8, .istore_n 2, 0, 0, 0, 0) := (fe38 7).trans rfl
theorem f38_8 : gm_fetch 38 8 = some (9, .iload_n 2, 0, 0, 0, 0) := (fe38 8).trans rfl
theorem f38_9 : gm_fetch 38 9 = some (10, .aload_n 0, 0, 0, 0, 0) := (fe38 9).trans rfl
theorem f38_10 : gm_fetch 38 10 = some (13, .getfield 41, 37, 3, 0, 0) := (fe38 10).trans rfl
theorem f38_13 : gm_fetch 38 13 = some (16, .getfield 75, 1, 0, 0, 0) := (fe38 13).trans rfl
theorem f38_16 : gm_fetch 38 16 = some (19, .if_icmp .ge 21, 0, 37, 0, 0) := (fe38 16).trans rfl
theorem f38_19 : gm_fetch 38 19 = some (20, .iload_n 1, 0, 0, 0, 0) := (fe38 19).trans rfl
theorem f38_20 : gm_fetch 38 20 = some (21, .aload_n 0, 0, 0, 0, 0) := (fe38 20).trans rfl
theorem f38_21 : gm_fetch 38 21 = some (24, .getfield 18, 39, 3, 2, 0) := (fe38 21).trans rfl
theorem f38_24 : gm_fetch 38 24 = some (25, .iload_n 2, 0, 0, 0, 0) := (fe38 24).trans rfl
theorem f38_25 : gm_fetch 38 25 = some (26, .laload, 0, 0, 0, 0) := (fe38 25).trans rfl
theorem f38_26 : gm_fetch 38 26 = some (29, .invokestatic 96, 97, 195, 0, 0) := (fe38 26).trans rfl
theorem f38_29 : gm_fetch 38 29 = some (30, .iadd, 0, 0, 0, 0) := (fe38 29).trans rfl
theorem f38_30 : gm_fetch 38 30 = some (31, .istore_n 1, 0, 0, 0, 0) := (fe38 30).trans rfl
theorem f38_31 : gm_fetch 38 31 = some (34, .iinc 2 1, 0, 0, 0, 0) := (fe38 31).trans rfl
theorem f38_34 : gm_fetch 38 34 = some (37, .goto (-26), 0, 8, 0, 0) := (fe38 34).trans rfl
theorem f38_37 : gm_fetch 38 37 = some (38, .iload_n 1, 0, 0, 0, 0) := (fe38 37).trans rfl
theorem f38_38 : gm_fetch 38 38 = some (39, .ireturn, 0, 0, 0, 0) := (fe38 38).trans rfl
set_option maxRecDepth 10000 in
theorem rg38_0 {mi : Mi} {ml : Ml} {F : Int32 → Mi → Ml → Prop}   (h : Sg 33 0 [some (.ref 3)] [] mi ml (qv fun mi2 ml3 => Sg 38 8 [some (.ref 3), some (.int 0), some (.int 0)] [] mi2 ml3 (qi F))) : Sg 38 0 [some (.ref 3), none, none] [] mi ml (qi F) := by
  refine sg_ld f38_0 (v := .ref 3) rfl rfl ?_
  refine sg_cV f38_1 (vs := []) (r := 3) (rest := []) (en := [some (.ref 3)]) pq33 ⟨rfl, rfl⟩ rfl rfl rfl rfl rfl rfl h ?_
  intro _ mi2 ml3 h
  have h := gm_qv h
  refine sg_psh f38_4 (v := .int 0) (by decide) ?_
  refine sg_st1 f38_5 (ls' := [some (.ref 3), some (.int 0), none]) rfl rfl rfl rfl ?_
  refine sg_psh f38_6 (v := .int 0) (by decide) ?_
  refine sg_st1 f38_7 (ls' := [some (.ref 3), some (.int 0), some (.int 0)]) rfl rfl rfl rfl ?_
  exact h

set_option maxRecDepth 10000 in
theorem rg38_8 {mi : Mi} {ml : Ml} {F : Int32 → Mi → Ml → Prop} {x1 : Int32} {x2 : Int32}  (h : (((mi 1 0) ≤ x2) → F x1 mi ml) ∧ (¬ ((mi 1 0) ≤ x2) → (vp_in x2 7) ∧ (Sg 195 0 [some (.long (ml 8 (Int32.toNatClampNeg x2))), none] [] mi ml (qi fun y2 mi3 ml4 => Sg 38 8 [some (.ref 3), some (.int (x1 + y2)), some (.int (x2 + 1))] [] mi3 ml4 (qi F))))) : Sg 38 8 [some (.ref 3), some (.int x1), some (.int x2)] [] mi ml (qi F) := by
  refine sg_ld f38_8 (v := .int x2) rfl rfl ?_
  refine sg_ld f38_9 (v := .ref 3) rfl rfl ?_
  refine sg_getr f38_10 rfl rfl (w := 1) rfl ?_
  refine sg_geti f38_13 rfl rfl (x := (mi 1 0)) rfl ?_
  refine sg_icmp f38_16 (fun c => ?_) (fun c => ?_)
  · have h := h.1 c
    refine sg_ld f38_37 (v := .int x1) rfl rfl ?_
    exact sg_iret f38_38 pq38 rfl rfl ⟨_, rfl, h⟩
  · have h := h.2 c
    refine sg_ld f38_19 (v := .int x1) rfl rfl ?_
    refine sg_ld f38_20 (v := .ref 3) rfl rfl ?_
    refine sg_getr f38_21 rfl rfl (w := 8) rfl ?_
    refine sg_ld f38_24 (v := .int x2) rfl rfl ?_
    obtain ⟨e1, h⟩ := h
    refine sg_lald f38_25 rfl e1 (x := (ml 8 (Int32.toNatClampNeg x2))) rfl ?_
    refine sg_cS f38_26 (vs := [.long (ml 8 (Int32.toNatClampNeg x2))]) (rest := [.int x1]) (en := [some (.long (ml 8 (Int32.toNatClampNeg x2))), none]) (by decide) pq195 ⟨rfl, rfl⟩ rfl rfl rfl rfl rfl h ?_
    rintro _ mi3 ml4 ⟨y2, rfl, h⟩
    refine sg_bin f38_29 rfl ?_
    refine sg_st1 f38_30 (ls' := [some (.ref 3), some (.int (x1 + y2)), some (.int x2)]) rfl rfl rfl rfl ?_
    refine sg_inc f38_31 (d := 1) (ls' := [some (.ref 3), some (.int (x1 + y2)), some (.int (x2 + 1))]) rfl (by decide) rfl ?_
    refine sg_goto f38_34 ?_
    exact h

/-! X3_firstRowOfWitness ()I -/
theorem fe39 (pc : Nat) : gm_fetch 39 pc = gm_find pc cd_39 := rfl
theorem f39_0 : gm_fetch 39 0 = some (1, .aload_n 0, 0, 0, 0, 0) := (fe39 0).trans rfl
theorem f39_1 : gm_fetch 39 1 = some (4, .invokevirtual 93, 42, 33, 0, 0) := (fe39 1).trans rfl
theorem f39_4 : gm_fetch 39 4 = some (5, .aload_n 0, 0, 0, 0, 0) := (fe39 4).trans rfl
theorem f39_5 : gm_fetch 39 5 = some (8, .invokevirtual 102, 53, 43, 0, 0) := (fe39 5).trans rfl
theorem f39_8 : gm_fetch 39 8 = some (9, .aload_n 0, 0, 0, 0, 0) := (fe39 8).trans rfl
theorem f39_9 : gm_fetch 39 9 = some (12, .getfield 105, 47, 3, 10, 0) := (fe39 9).trans rfl
theorem f39_12 : gm_fetch 39 12 = some (13, .ireturn, 0, 0, 0, 0) := (fe39 12).trans rfl
set_option maxRecDepth 10000 in
theorem rg39_0 {mi : Mi} {ml : Ml} {F : Int32 → Mi → Ml → Prop}   (h : Sg 33 0 [some (.ref 3)] [] mi ml (qv fun mi2 ml3 => Sg 43 0 [some (.ref 3)] [] mi2 ml3 (qv fun mi5 ml6 => F (mi5 3 10) mi5 ml6))) : Sg 39 0 [some (.ref 3)] [] mi ml (qi F) := by
  refine sg_ld f39_0 (v := .ref 3) rfl rfl ?_
  refine sg_cV f39_1 (vs := []) (r := 3) (rest := []) (en := [some (.ref 3)]) pq33 ⟨rfl, rfl⟩ rfl rfl rfl rfl rfl rfl h ?_
  intro _ mi2 ml3 h
  have h := gm_qv h
  refine sg_ld f39_4 (v := .ref 3) rfl rfl ?_
  refine sg_cV f39_5 (vs := []) (r := 3) (rest := []) (en := [some (.ref 3)]) pq43 ⟨rfl, rfl⟩ rfl rfl rfl rfl rfl rfl h ?_
  intro _ mi5 ml6 h
  have h := gm_qv h
  refine sg_ld f39_8 (v := .ref 3) rfl rfl ?_
  refine sg_geti f39_9 rfl rfl (x := (mi5 3 10)) rfl ?_
  exact sg_iret f39_12 pq39 rfl rfl ⟨_, rfl, h⟩

/-! X3_lastRowOfWitness ()I -/
theorem fe40 (pc : Nat) : gm_fetch 40 pc = gm_find pc cd_40 := rfl
theorem f40_0 : gm_fetch 40 0 = some (1, .aload_n 0, 0, 0, 0, 0) := (fe40 0).trans rfl
theorem f40_1 : gm_fetch 40 1 = some (4, .invokevirtual 93, 42, 33, 0, 0) := (fe40 1).trans rfl
theorem f40_4 : gm_fetch 40 4 = some (5, .aload_n 0, 0, 0, 0, 0) := (fe40 4).trans rfl
theorem f40_5 : gm_fetch 40 5 = some (8, .invokevirtual 102, 53, 43, 0, 0) := (fe40 5).trans rfl
theorem f40_8 : gm_fetch 40 8 = some (9, .aload_n 0, 0, 0, 0, 0) := (fe40 8).trans rfl
theorem f40_9 : gm_fetch 40 9 = some (12, .getfield 108, 48, 3, 11, 0) := (fe40 9).trans rfl
theorem f40_12 : gm_fetch 40 12 = some (13, .ireturn, 0, 0, 0, 0) := (fe40 12).trans rfl
set_option maxRecDepth 10000 in
theorem rg40_0 {mi : Mi} {ml : Ml} {F : Int32 → Mi → Ml → Prop}   (h : Sg 33 0 [some (.ref 3)] [] mi ml (qv fun mi2 ml3 => Sg 43 0 [some (.ref 3)] [] mi2 ml3 (qv fun mi5 ml6 => F (mi5 3 11) mi5 ml6))) : Sg 40 0 [some (.ref 3)] [] mi ml (qi F) := by
  refine sg_ld f40_0 (v := .ref 3) rfl rfl ?_
  refine sg_cV f40_1 (vs := []) (r := 3) (rest := []) (en := [some (.ref 3)]) pq33 ⟨rfl, rfl⟩ rfl rfl rfl rfl rfl rfl h ?_
  intro _ mi2 ml3 h
  have h := gm_qv h
  refine sg_ld f40_4 (v := .ref 3) rfl rfl ?_
  refine sg_cV f40_5 (vs := []) (r := 3) (rest := []) (en := [some (.ref 3)]) pq43 ⟨rfl, rfl⟩ rfl rfl rfl rfl rfl rfl h ?_
  intro _ mi5 ml6 h
  have h := gm_qv h
  refine sg_ld f40_8 (v := .ref 3) rfl rfl ?_
  refine sg_geti f40_9 rfl rfl (x := (mi5 3 11)) rfl ?_
  exact sg_iret f40_12 pq40 rfl rfl ⟨_, rfl, h⟩

/-! X3_coreOfRow (I)I -/
theorem fe41 (pc : Nat) : gm_fetch 41 pc = gm_find pc cd_41 := rfl
theorem f41_0 : gm_fetch 41 0 = some (1, .aload_n 0, 0, 0, 0, 0) := (fe41 0).trans rfl
theorem f41_1 : gm_fetch 41 1 = some (4, .invokevirtual 93, 42, 33, 0, 0) := (fe41 1).trans rfl
theorem f41_4 : gm_fetch 41 4 = some (5, .aload_n 0, 0, 0, 0, 0) := (fe41 4).trans rfl
theorem f41_5 : gm_fetch 41 5 = some (8, .invokevirtual 102, 53, 43, 0, 0) := (fe41 5).trans rfl
theorem f41_8 : gm_fetch 41 8 = some (9, .aload_n 0, 0, 0, 0, 0) := (fe41 8).trans rfl
theorem f41_9 : gm_fetch 41 9 = some (12, .getfield 28, 42, 3, 5, 0) := (fe41 9).trans rfl
theorem f41_12 : gm_fetch 41 12 = some (13, .iload_n 1, 0, 0, 0, 0) := (fe41 12).trans rfl
theorem f41_13 : gm_fetch 41 13 = some (14, .iaload, 0, 0, 0, 0) := (fe41 13).trans rfl
theorem f41_14 : gm_fetch 41 14 = some (15, .ireturn, 0, 0, 0, 0) := (fe41 14).trans rfl
set_option maxRecDepth 10000 in
theorem rg41_0 {mi : Mi} {ml : Ml} {F : Int32 → Mi → Ml → Prop} {x1 : Int32}  (h : Sg 33 0 [some (.ref 3)] [] mi ml (qv fun mi2 ml3 => Sg 43 0 [some (.ref 3)] [] mi2 ml3 (qv fun mi5 ml6 => (vp_in x1 7) ∧ (F (mi5 14 (Int32.toNatClampNeg x1)) mi5 ml6)))) : Sg 41 0 [some (.ref 3), some (.int x1)] [] mi ml (qi F) := by
  refine sg_ld f41_0 (v := .ref 3) rfl rfl ?_
  refine sg_cV f41_1 (vs := []) (r := 3) (rest := []) (en := [some (.ref 3)]) pq33 ⟨rfl, rfl⟩ rfl rfl rfl rfl rfl rfl h ?_
  intro _ mi2 ml3 h
  have h := gm_qv h
  refine sg_ld f41_4 (v := .ref 3) rfl rfl ?_
  refine sg_cV f41_5 (vs := []) (r := 3) (rest := []) (en := [some (.ref 3)]) pq43 ⟨rfl, rfl⟩ rfl rfl rfl rfl rfl rfl h ?_
  intro _ mi5 ml6 h
  have h := gm_qv h
  refine sg_ld f41_8 (v := .ref 3) rfl rfl ?_
  refine sg_getr f41_9 rfl rfl (w := 14) rfl ?_
  refine sg_ld f41_12 (v := .int x1) rfl rfl ?_
  obtain ⟨e7, h⟩ := h
  refine sg_iald f41_13 rfl e7 (x := (mi5 14 (Int32.toNatClampNeg x1))) rfl ?_
  exact sg_iret f41_14 pq41 rfl rfl ⟨_, rfl, h⟩

/-! X3_criticalOfRow (I)I -/
theorem fe42 (pc : Nat) : gm_fetch 42 pc = gm_find pc cd_42 := rfl
theorem f42_0 : gm_fetch 42 0 = some (1, .aload_n 0, 0, 0, 0, 0) := (fe42 0).trans rfl
theorem f42_1 : gm_fetch 42 1 = some (4, .invokevirtual 93, 42, 33, 0, 0) := (fe42 1).trans rfl
theorem f42_4 : gm_fetch 42 4 = some (5, .aload_n 0, 0, 0, 0, 0) := (fe42 4).trans rfl
theorem f42_5 : gm_fetch 42 5 = some (8, .invokevirtual 102, 53, 43, 0, 0) := (fe42 5).trans rfl
theorem f42_8 : gm_fetch 42 8 = some (9, .aload_n 0, 0, 0, 0, 0) := (fe42 8).trans rfl
theorem f42_9 : gm_fetch 42 9 = some (12, .getfield 32, 43, 3, 6, 0) := (fe42 9).trans rfl
theorem f42_12 : gm_fetch 42 12 = some (13, .iload_n 1, 0, 0, 0, 0) := (fe42 12).trans rfl
theorem f42_13 : gm_fetch 42 13 = some (14, .iaload, 0, 0, 0, 0) := (fe42 13).trans rfl
theorem f42_14 : gm_fetch 42 14 = some (15, .ireturn, 0, 0, 0, 0) := (fe42 14).trans rfl
set_option maxRecDepth 10000 in
theorem rg42_0 {mi : Mi} {ml : Ml} {F : Int32 → Mi → Ml → Prop} {x1 : Int32}  (h : Sg 33 0 [some (.ref 3)] [] mi ml (qv fun mi2 ml3 => Sg 43 0 [some (.ref 3)] [] mi2 ml3 (qv fun mi5 ml6 => (vp_in x1 7) ∧ (F (mi5 15 (Int32.toNatClampNeg x1)) mi5 ml6)))) : Sg 42 0 [some (.ref 3), some (.int x1)] [] mi ml (qi F) := by
  refine sg_ld f42_0 (v := .ref 3) rfl rfl ?_
  refine sg_cV f42_1 (vs := []) (r := 3) (rest := []) (en := [some (.ref 3)]) pq33 ⟨rfl, rfl⟩ rfl rfl rfl rfl rfl rfl h ?_
  intro _ mi2 ml3 h
  have h := gm_qv h
  refine sg_ld f42_4 (v := .ref 3) rfl rfl ?_
  refine sg_cV f42_5 (vs := []) (r := 3) (rest := []) (en := [some (.ref 3)]) pq43 ⟨rfl, rfl⟩ rfl rfl rfl rfl rfl rfl h ?_
  intro _ mi5 ml6 h
  have h := gm_qv h
  refine sg_ld f42_8 (v := .ref 3) rfl rfl ?_
  refine sg_getr f42_9 rfl rfl (w := 15) rfl ?_
  refine sg_ld f42_12 (v := .int x1) rfl rfl ?_
  obtain ⟨e7, h⟩ := h
  refine sg_iald f42_13 rfl e7 (x := (mi5 15 (Int32.toNatClampNeg x1))) rfl ?_
  exact sg_iret f42_14 pq42 rfl rfl ⟨_, rfl, h⟩

/-! X3_refreshMarks ()V -/
theorem fe43 (pc : Nat) : gm_fetch 43 pc = gm_find pc cd_43 := rfl
theorem f43_0 : gm_fetch 43 0 = some (1, .aload_n 0, 0, 0, 0, 0) := (fe43 0).trans rfl
theorem f43_1 : gm_fetch 43 1 = some (4, .getfield 111, 50, 3, 13, 0) := (fe43 1).trans rfl
theorem f43_4 : gm_fetch 43 4 = some (5, .aload_n 0, 0, 0, 0, 0) := (fe43 4).trans rfl
theorem f43_5 : gm_fetch 43 5 = some (8, .getfield 41, 37, 3, 0, 0) := (fe43 5).trans rfl
theorem f43_8 : gm_fetch 43 8 = some (11, .getfield 49, 21, 0, 5, 0) := (fe43 8).trans rfl
theorem f43_11 : gm_fetch 43 11 = some (14, .if_icmp .ne 4, 0, 15, 0, 0) := (fe43 11).trans rfl
theorem f43_14 : gm_fetch 43 14 = some (15, .return_, 0, 0, 0, 0) := (fe43 14).trans rfl
theorem f43_15 : gm_fetch 43 15 = some (16, .aload_n 0, 0, 0, 0, 0) := (fe43 15).trans rfl
theorem f43_16 : gm_fetch 43 16 = some (17, .aload_n 0, 0, 0, 0, 0) := (fe43 16).trans rfl
theorem f43_17 : gm_fetch 43 17 = some (20, .getfield 41, 37, 3, 0, 0) := (fe43 17).trans rfl
theorem f43_20 : gm_fetch 43 20 = some (23, .getfield 49, 21, 0, 5, 0) := (fe43 20).trans rfl
theorem f43_23 : gm_fetch 43 23 = some (26, .putfield 111, 50, 3, 13, 0) := (fe43 23).trans rfl
theorem f43_26 : gm_fetch 43 26 = some (27, .aload_n 0, 0, 0, 0, 0) := (fe43 26).trans rfl
theorem f43_27 : gm_fetch 43 27 = some (30, .getfield 28, 42, 3, 5, 0) := (fe43 27).trans rfl
theorem f43_30 : gm_fetch 43 30 = some (31, .iconst 0, 0, 0, 0, 0) := (fe43 30).trans rfl
theorem f43_31 : gm_fetch 43 31 = some (34, .invokestatic 114, 54, 198, 0, 0) := (fe43 31).trans rfl
theorem f43_34 : gm_fetch 43 34 = some (35, .aload_n 0, 0, 0, 0, 0) := (fe43 34).trans rfl
theorem f43_35 : gm_fetch 43 35 = some (38, .getfield 32, 43, 3, 6, 0) := (fe43 35).trans rfl
theorem f43_38 : gm_fetch 43 38 = some (39, .iconst 0, 0, 0, 0, 0) := (fe43 38).trans rfl
theorem f43_39 : gm_fetch 43 39 = some (42, .invokestatic 114, 54, 198, 0, 0) := (fe43 39).trans rfl
theorem f43_42 : gm_fetch 43 42 = some (43, .aload_n 0, 0, 0, 0, 0) := (fe43 42).trans rfl
theorem f43_43 : gm_fetch 43 43 = some (44, .iconst (-1), 0, 0, 0, 0) := (fe43 43).trans rfl
theorem f43_44 : gm_fetch 43 44 = some (47, .putfield 105, 47, 3, 10, 0) := (fe43 44).trans rfl
theorem f43_47 : gm_fetch 43 47 = some (48, .aload_n 0, 0, 0, 0, 0) := (fe43 47).trans rfl
theorem f43_48 : gm_fetch 43 48 = some (49, .iconst (-1), 0, 0, 0, 0) := (fe43 48).trans rfl
theorem f43_49 : gm_fetch 43 49 = some (52, .putfield 108, 48, 3, 11, 0) := (fe43 49).trans rfl
theorem f43_52 : gm_fetch 43 52 = some (53, .aload_n 0, 0, 0, 0, 0) := (fe43 52).trans rfl
theorem f43_53 : gm_fetch 43 53 = some (56, .getfield 71, 46, 3, 9, 0) := (fe43 53).trans rfl
theorem f43_56 : gm_fetch 43 56 = some (59, .ifCond .eq 10, 0, 66, 0, 0) := (fe43 56).trans rfl
theorem f43_59 : gm_fetch 43 59 = some (60, .aload_n 0, 0, 0, 0, 0) := (fe43 59).trans rfl
theorem f43_60 : gm_fetch 43 60 = some (63, .invokevirtual 120, 55, 44, 0, 0) := (fe43 60).trans rfl
theorem f43_63 : gm_fetch 43 63 = some (66, .goto 11, 0, 74, 0, 0) := (fe43 63).trans rfl
theorem f43_66 : gm_fetch 43 66 = some (67, .aload_n 0, 0, 0, 0, 0) := (fe43 66).trans rfl
theorem f43_67 : gm_fetch 43 67 = some (70, .invokevirtual 123, 57, 45, 0, 0) := (fe43 67).trans rfl
theorem f43_70 : gm_fetch 43 70 = some (71, .aload_n 0, 0, 0, 0, 0) := (fe43 70).trans rfl
theorem f43_71 : gm_fetch 43 71 = some (74, .invokevirtual 126, 58, 46, 0, 0) := (fe43 71).trans rfl
theorem f43_74 : gm_fetch 43 74 = some (75, .return_, 0, 0, 0, 0) := (fe43 74).trans rfl
set_option maxRecDepth 10000 in
theorem rg43_0 {mi : Mi} {ml : Ml} {F : Mi → Ml → Prop}   (h : ((¬ (mi 3 13) = (mi 1 5)) → Sg 198 0 [some (.ref 14), some (.int 0), none, none] [] (va_up mi 3 (va_up (mi 3) 13 (mi 1 5))) ml (qv fun mi2 ml3 => Sg 198 0 [some (.ref 15), some (.int 0), none, none] [] mi2 ml3 (qv fun mi5 ml6 => (((mi5 3 9) = 0) → Sg 45 0 [some (.ref 3), none, none] [] (va_up mi5 3 (va_up (va_up (mi5 3) 10 (-1)) 11 (-1))) ml6 (qv fun mi8 ml9 => Sg 46 0 [some (.ref 3), none, none, none, none, none] [] mi8 ml9 (qv fun mi11 ml12 => F mi11 ml12))) ∧ (¬ ((mi5 3 9) = 0) → Sg 44 0 [some (.ref 3), none, none] [] (va_up mi5 3 (va_up (va_up (mi5 3) 10 (-1)) 11 (-1))) ml6 (qv fun mi14 ml15 => F mi14 ml15))))) ∧ (¬ (¬ (mi 3 13) = (mi 1 5)) → F mi ml)) : Sg 43 0 [some (.ref 3)] [] mi ml (qv F) := by
  refine sg_ld f43_0 (v := .ref 3) rfl rfl ?_
  refine sg_geti f43_1 rfl rfl (x := (mi 3 13)) rfl ?_
  refine sg_ld f43_4 (v := .ref 3) rfl rfl ?_
  refine sg_getr f43_5 rfl rfl (w := 1) rfl ?_
  refine sg_geti f43_8 rfl rfl (x := (mi 1 5)) rfl ?_
  refine sg_icmp f43_11 (fun c => ?_) (fun c => ?_)
  · have h := h.1 c
    refine sg_ld f43_15 (v := .ref 3) rfl rfl ?_
    refine sg_ld f43_16 (v := .ref 3) rfl rfl ?_
    refine sg_getr f43_17 rfl rfl (w := 1) rfl ?_
    refine sg_geti f43_20 rfl rfl (x := (mi 1 5)) rfl ?_
    refine sg_puti f43_23 rfl rfl rfl (fun hz => by cases hz) ?_
    refine sg_ld f43_26 (v := .ref 3) rfl rfl ?_
    refine sg_getr f43_27 rfl rfl (w := 14) rfl ?_
    refine sg_psh f43_30 (v := .int 0) (by decide) ?_
    refine sg_cS f43_31 (vs := [.ref 14, .int 0]) (rest := []) (en := [some (.ref 14), some (.int 0), none, none]) (by decide) pq198 ⟨rfl, rfl⟩ rfl rfl rfl rfl rfl h ?_
    intro _ mi2 ml3 h
    have h := gm_qv h
    refine sg_ld f43_34 (v := .ref 3) rfl rfl ?_
    refine sg_getr f43_35 rfl rfl (w := 15) rfl ?_
    refine sg_psh f43_38 (v := .int 0) (by decide) ?_
    refine sg_cS f43_39 (vs := [.ref 15, .int 0]) (rest := []) (en := [some (.ref 15), some (.int 0), none, none]) (by decide) pq198 ⟨rfl, rfl⟩ rfl rfl rfl rfl rfl h ?_
    intro _ mi5 ml6 h
    have h := gm_qv h
    refine sg_ld f43_42 (v := .ref 3) rfl rfl ?_
    refine sg_psh f43_43 (v := .int (-1)) (by decide) ?_
    refine sg_puti f43_44 rfl rfl rfl (fun hz => by cases hz) ?_
    refine sg_ld f43_47 (v := .ref 3) rfl rfl ?_
    refine sg_psh f43_48 (v := .int (-1)) (by decide) ?_
    refine sg_puti2 f43_49 rfl rfl rfl (fun hz => by cases hz) ?_
    refine sg_ld f43_52 (v := .ref 3) rfl rfl ?_
    refine sg_geti f43_53 rfl rfl (x := (mi5 3 9)) rfl ?_
    refine sg_if f43_56 (fun c => ?_) (fun c => ?_)
    · have h := h.1 c
      refine sg_ld f43_66 (v := .ref 3) rfl rfl ?_
      refine sg_cV f43_67 (vs := []) (r := 3) (rest := []) (en := [some (.ref 3), none, none]) pq45 ⟨rfl, rfl⟩ rfl rfl rfl rfl rfl rfl h ?_
      intro _ mi8 ml9 h
      have h := gm_qv h
      refine sg_ld f43_70 (v := .ref 3) rfl rfl ?_
      refine sg_cV f43_71 (vs := []) (r := 3) (rest := []) (en := [some (.ref 3), none, none, none, none, none]) pq46 ⟨rfl, rfl⟩ rfl rfl rfl rfl rfl rfl h ?_
      intro _ mi11 ml12 h
      have h := gm_qv h
      exact sg_ret f43_74 pq43 rfl h
    · have h := h.2 c
      refine sg_ld f43_59 (v := .ref 3) rfl rfl ?_
      refine sg_cV f43_60 (vs := []) (r := 3) (rest := []) (en := [some (.ref 3), none, none]) pq44 ⟨rfl, rfl⟩ rfl rfl rfl rfl rfl rfl h ?_
      intro _ mi14 ml15 h
      have h := gm_qv h
      refine sg_goto f43_63 ?_
      exact sg_ret f43_74 pq43 rfl h
  · have h := h.2 c
    exact sg_ret f43_14 pq43 rfl h

/-! X3_markCritical ()V -/
theorem fe44 (pc : Nat) : gm_fetch 44 pc = gm_find pc cd_44 := rfl
set_option maxRecDepth 10000 in
theorem f44_0 : gm_fetch 44 0 = some (1, .aload_n 0, 0, 0, 0, 0) := (fe44 0).trans rfl
set_option maxRecDepth 10000 in
theorem f44_1 : gm_fetch 44 1 = some (4, .getfield 41, 37, 3, 0, 0) := (fe44 1).trans rfl
set_option maxRecDepth 10000 in
theorem f44_4 : gm_fetch 44 4 = some (7, .getfield 75, 1, 0, 0, 0) := (fe44 4).trans rfl
set_option maxRecDepth 10000 in
theorem f44_7 : gm_fetch 44 7 = some (8, .iconst 1, 0, 0, 0, 0) := (fe44 7).trans rfl
set_option maxRecDepth 10000 in
theorem f44_8 : gm_fetch 44 8 = some (9, .isub, 0, 0, 0, 0) := (fe44 8).trans rfl
set_option maxRecDepth 10000 in
theorem f44_9 : gm_fetch 44 9 = some (10, .istore_n 1, 0, 0, 0, 0) := (fe44 9).trans rfl
set_option maxRecDepth 10000 in
theorem f44_10 : gm_fetch 44 10 = some (11, .aload_n 0, 0, 0, 0, 0) := (fe44 10).trans rfl
set_option maxRecDepth 10000 in
theorem f44_11 : gm_fetch 44 11 = some (14, .getfield 25, 41, 3, 4, 0) := (fe44 11).trans rfl
set_option maxRecDepth 10000 in
theorem f44_14 : gm_fetch 44 14 = some (15, .iconst 0, 0, 0, 0, 0) := (fe44 14).trans rfl
set_option maxRecDepth 10000 in
theorem f44_15 : gm_fetch 44 15 = some (16, .aload_n 0, 0, 0, 0, 0) := (fe44 15).trans rfl
set_option maxRecDepth 10000 in
theorem f44_16 : gm_fetch 44 16 = some (19, .getfield 18, 39, 3, 2, 0) := (fe44 16).trans rfl
set_option maxRecDepth 10000 in
theorem f44_19 : gm_fetch 44 19 = some (20, .iconst 0, 0, 0, 0, 0) := (fe44 19).trans rfl
set_option maxRecDepth 10000 in
theorem f44_20 : gm_fetch 44 20 = some (21, .laload, 0, 0, 0, 0) := (fe44 20).trans rfl
set_option maxRecDepth 10000 in
theorem f44_21 : gm_fetch 44 21 = some (22, .lastore, 0, 0, 0, 0) := (fe44 21).trans rfl
set_option maxRecDepth 10000 in
theorem f44_22 : gm_fetch 44 22 = some (23, .iconst 1, 0, 0, 0, 0) := (fe44 22).trans rfl
set_option maxRecDepth 10000 in
theorem f44_23 : gm_fetch 44 23 = some (24, .istore_n 2, 0, 0, 0, 0) := (fe44 23).trans rfl
set_option maxRecDepth 10000 in
theorem f44_24 : gm_fetch 44 24 = some (25, .iload_n 2, 0, 0, 0, 0) := (fe44 24).trans rfl
set_option maxRecDepth 10000 in
theorem f44_25 : gm_fetch 44 25 = some (26, .iload_n 1, 0, 0, 0, 0) := (fe44 25).trans rfl
set_option maxRecDepth 10000 in
theorem f44_26 : gm_fetch 44 26 = some (29, .if_icmp .gt 37, 0, 63, 0, 0) := (fe44 26).trans rfl
set_option maxRecDepth 10000 in
theorem f44_29 : gm_fetch 44 29 = some (30, .aload_n 0, 0, 0, 0, 0) := (fe44 29).trans rfl
set_option maxRecDepth 10000 in
theorem f44_30 : gm_fetch 44 30 = some (33, .getfield 25, 41, 3, 4, 0) := (fe44 30).trans rfl
set_option maxRecDepth 10000 in
theorem f44_33 : gm_fetch 44 33 = some (34, .iload_n 2, 0, 0, 0, 0) := (fe44 33).trans rfl
set_option maxRecDepth 10000 in
theorem f44_34 : gm_fetch 44 34 = some (35, .aload_n 0, 0, 0, 0, 0) := (fe44 34).trans rfl
set_option maxRecDepth 10000 in
theorem f44_35 : gm_fetch 44 35 = some (38, .getfield 18, 39, 3, 2, 0) := (fe44 35).trans rfl
set_option maxRecDepth 10000 in
theorem f44_38 : gm_fetch 44 38 = some (39, .iload_n 2, 0, 0, 0, 0) := (fe44 38).trans rfl
set_option maxRecDepth 10000 in
theorem f44_39 : gm_fetch 44 39 = some (40, .laload, 0, 0, 0, 0) := (fe44 39).trans rfl
set_option maxRecDepth 10000 in
theorem f44_40 : gm_fetch 44 40 = some (41, .aload_n 0, 0, 0, 0, 0) := (fe44 40).trans rfl
set_option maxRecDepth 10000 in
theorem f44_41 : gm_fetch 44 41 = some (44, .getfield 12, 38, 3, 1, 0) := (fe44 41).trans rfl
set_option maxRecDepth 10000 in
theorem f44_44 : gm_fetch 44 44 = some (45, .aload_n 0, 0, 0, 0, 0) := (fe44 44).trans rfl
set_option maxRecDepth 10000 in
theorem f44_45 : gm_fetch 44 45 = some (48, .getfield 25, 41, 3, 4, 0) := (fe44 45).trans rfl
set_option maxRecDepth 10000 in
theorem f44_48 : gm_fetch 44 48 = some (49, .iload_n 2, 0, 0, 0, 0) := (fe44 48).trans rfl
set_option maxRecDepth 10000 in
theorem f44_49 : gm_fetch 44 49 = some (50, .iconst 1, 0, 0, 0, 0) := (fe44 49).trans rfl
set_option maxRecDepth 10000 in
theorem f44_50 : gm_fetch 44 50 = some (51, .isub, 0, 0, 0, 0) := (fe44 50).trans rfl
set_option maxRecDepth 10000 in
theorem f44_51 : gm_fetch 44 51 = some (52, .laload, 0, 0, 0, 0) := (fe44 51).trans rfl
set_option maxRecDepth 10000 in
theorem f44_52 : gm_fetch 44 52 = some (55, .invokevirtual 89, 52, 63, 0, 0) := (fe44 52).trans rfl
set_option maxRecDepth 10000 in
theorem f44_55 : gm_fetch 44 55 = some (56, .land, 0, 0, 0, 0) := (fe44 55).trans rfl
set_option maxRecDepth 10000 in
theorem f44_56 : gm_fetch 44 56 = some (57, .lastore, 0, 0, 0, 0) := (fe44 56).trans rfl
set_option maxRecDepth 10000 in
theorem f44_57 : gm_fetch 44 57 = some (60, .iinc 2 1, 0, 0, 0, 0) := (fe44 57).trans rfl
set_option maxRecDepth 10000 in
theorem f44_60 : gm_fetch 44 60 = some (63, .goto (-36), 0, 24, 0, 0) := (fe44 60).trans rfl
set_option maxRecDepth 10000 in
theorem f44_63 : gm_fetch 44 63 = some (64, .iload_n 1, 0, 0, 0, 0) := (fe44 63).trans rfl
set_option maxRecDepth 10000 in
theorem f44_64 : gm_fetch 44 64 = some (65, .iconst 1, 0, 0, 0, 0) := (fe44 64).trans rfl
set_option maxRecDepth 10000 in
theorem f44_65 : gm_fetch 44 65 = some (66, .isub, 0, 0, 0, 0) := (fe44 65).trans rfl
set_option maxRecDepth 10000 in
theorem f44_66 : gm_fetch 44 66 = some (67, .istore_n 2, 0, 0, 0, 0) := (fe44 66).trans rfl
set_option maxRecDepth 10000 in
theorem f44_67 : gm_fetch 44 67 = some (68, .iload_n 2, 0, 0, 0, 0) := (fe44 67).trans rfl
set_option maxRecDepth 10000 in
theorem f44_68 : gm_fetch 44 68 = some (71, .ifCond .lt 33, 0, 101, 0, 0) := (fe44 68).trans rfl
set_option maxRecDepth 10000 in
theorem f44_71 : gm_fetch 44 71 = some (72, .aload_n 0, 0, 0, 0, 0) := (fe44 71).trans rfl
set_option maxRecDepth 10000 in
theorem f44_72 : gm_fetch 44 72 = some (75, .getfield 25, 41, 3, 4, 0) := (fe44 72).trans rfl
set_option maxRecDepth 10000 in
theorem f44_75 : gm_fetch 44 75 = some (76, .iload_n 2, 0, 0, 0, 0) := (fe44 75).trans rfl
set_option maxRecDepth 10000 in
theorem f44_76 : gm_fetch 44 76 = some (77, .dup2, 0, 0, 0, 0) := (fe44 76).trans rfl
set_option maxRecDepth 10000 in
theorem f44_77 : gm_fetch 44 77 = some (78, .laload, 0, 0, 0, 0) := (fe44 77).trans rfl
set_option maxRecDepth 10000 in
theorem f44_78 : gm_fetch 44 78 = some (79, .aload_n 0, 0, 0, 0, 0) := (fe44 78).trans rfl
set_option maxRecDepth 10000 in
theorem f44_79 : gm_fetch 44 79 = some (82, .getfield 12, 38, 3, 1, 0) := (fe44 79).trans rfl
set_option maxRecDepth 10000 in
theorem f44_82 : gm_fetch 44 82 = some (83, .aload_n 0, 0, 0, 0, 0) := (fe44 82).trans rfl
set_option maxRecDepth 10000 in
theorem f44_83 : gm_fetch 44 83 = some (86, .getfield 25, 41, 3, 4, 0) := (fe44 83).trans rfl
set_option maxRecDepth 10000 in
theorem f44_86 : gm_fetch 44 86 = some (87, .iload_n 2, 0, 0, 0, 0) := (fe44 86).trans rfl
set_option maxRecDepth 10000 in
theorem f44_87 : gm_fetch 44 87 = some (88, .iconst 1, 0, 0, 0, 0) := (fe44 87).trans rfl
set_option maxRecDepth 10000 in
theorem f44_88 : gm_fetch 44 88 = some (89, .iadd, 0, 0, 0, 0) := (fe44 88).trans rfl
set_option maxRecDepth 10000 in
theorem f44_89 : gm_fetch 44 89 = some (90, .laload, 0, 0, 0, 0) := (fe44 89).trans rfl
set_option maxRecDepth 10000 in
theorem f44_90 : gm_fetch 44 90 = some (93, .invokevirtual 89, 52, 63, 0, 0) := (fe44 90).trans rfl
set_option maxRecDepth 10000 in
theorem f44_93 : gm_fetch 44 93 = some (94, .land, 0, 0, 0, 0) := (fe44 93).trans rfl
set_option maxRecDepth 10000 in
theorem f44_94 : gm_fetch 44 94 = some (95, .lastore, 0, 0, 0, 0) := (fe44 94).trans rfl
set_option maxRecDepth 10000 in
theorem f44_95 : gm_fetch 44 95 = some (98, .iinc 2 (-1), 0, 0, 0, 0) := (fe44 95).trans rfl
set_option maxRecDepth 10000 in
theorem f44_98 : gm_fetch 44 98 = some (101, .goto (-31), 0, 67, 0, 0) := (fe44 98).trans rfl
set_option maxRecDepth 10000 in
theorem f44_101 : gm_fetch 44 101 = some (102, .iconst 0, 0, 0, 0, 0) := (fe44 101).trans rfl
set_option maxRecDepth 10000 in
theorem f44_102 : gm_fetch 44 102 = some (103, .istore_n 2, 0, 0, 0, 0) := (fe44 102).trans rfl
set_option maxRecDepth 10000 in
theorem f44_103 : gm_fetch 44 103 = some (104, .iload_n 2, 0, 0, 0, 0) := (fe44 103).trans rfl
set_option maxRecDepth 10000 in
theorem f44_104 : gm_fetch 44 104 = some (105, .iload_n 1, 0, 0, 0, 0) := (fe44 104).trans rfl
set_option maxRecDepth 10000 in
theorem f44_105 : gm_fetch 44 105 = some (108, .if_icmp .gt 28, 0, 133, 0, 0) := (fe44 105).trans rfl
set_option maxRecDepth 10000 in
theorem f44_108 : gm_fetch 44 108 = some (109, .aload_n 0, 0, 0, 0, 0) := (fe44 108).trans rfl
set_option maxRecDepth 10000 in
theorem f44_109 : gm_fetch 44 109 = some (112, .getfield 32, 43, 3, 6, 0) := (fe44 109).trans rfl
set_option maxRecDepth 10000 in
theorem f44_112 : gm_fetch 44 112 = some (113, .iload_n 2, 0, 0, 0, 0) := (fe44 112).trans rfl
set_option maxRecDepth 10000 in
theorem f44_113 : gm_fetch 44 113 = some (114, .aload_n 0, 0, 0, 0, 0) := (fe44 113).trans rfl
set_option maxRecDepth 10000 in
theorem f44_114 : gm_fetch 44 114 = some (117, .getfield 12, 38, 3, 1, 0) := (fe44 114).trans rfl
set_option maxRecDepth 10000 in
theorem f44_117 : gm_fetch 44 117 = some (118, .aload_n 0, 0, 0, 0, 0) := (fe44 117).trans rfl
set_option maxRecDepth 10000 in
theorem f44_118 : gm_fetch 44 118 = some (121, .getfield 25, 41, 3, 4, 0) := (fe44 118).trans rfl
set_option maxRecDepth 10000 in
theorem f44_121 : gm_fetch 44 121 = some (122, .iload_n 2, 0, 0, 0, 0) := (fe44 121).trans rfl
set_option maxRecDepth 10000 in
theorem f44_122 : gm_fetch 44 122 = some (123, .laload, 0, 0, 0, 0) := (fe44 122).trans rfl
set_option maxRecDepth 10000 in
theorem f44_123 : gm_fetch 44 123 = some (126, .invokevirtual 129, 56, 64, 0, 0) := (fe44 123).trans rfl
set_option maxRecDepth 10000 in
theorem f44_126 : gm_fetch 44 126 = some (127, .iastore, 0, 0, 0, 0) := (fe44 126).trans rfl
set_option maxRecDepth 10000 in
theorem f44_127 : gm_fetch 44 127 = some (130, .iinc 2 1, 0, 0, 0, 0) := (fe44 127).trans rfl
set_option maxRecDepth 10000 in
theorem f44_130 : gm_fetch 44 130 = some (133, .goto (-27), 0, 103, 0, 0) := (fe44 130).trans rfl
set_option maxRecDepth 10000 in
theorem f44_133 : gm_fetch 44 133 = some (134, .return_, 0, 0, 0, 0) := (fe44 133).trans rfl
set_option maxRecDepth 10000 in
theorem rg44_0 {mi : Mi} {ml : Ml} {F : Mi → Ml → Prop}   (h : Sg 44 24 [some (.ref 3), some (.int ((mi 1 0) - 1)), some (.int 1)] [] mi (va_up ml 13 (va_up (ml 13) (Int32.toNatClampNeg 0) (ml 8 (Int32.toNatClampNeg 0)))) (qv F)) : Sg 44 0 [some (.ref 3), none, none] [] mi ml (qv F) := by
  refine sg_ld f44_0 (v := .ref 3) rfl rfl ?_
  refine sg_getr f44_1 rfl rfl (w := 1) rfl ?_
  refine sg_geti f44_4 rfl rfl (x := (mi 1 0)) rfl ?_
  refine sg_psh f44_7 (v := .int 1) (by decide) ?_
  refine sg_bin f44_8 rfl ?_
  refine sg_st1 f44_9 (ls' := [some (.ref 3), some (.int ((mi 1 0) - 1)), none]) rfl rfl rfl rfl ?_
  refine sg_ld f44_10 (v := .ref 3) rfl rfl ?_
  refine sg_getr f44_11 rfl rfl (w := 13) rfl ?_
  refine sg_psh f44_14 (v := .int 0) (by decide) ?_
  refine sg_ld f44_15 (v := .ref 3) rfl rfl ?_
  refine sg_getr f44_16 rfl rfl (w := 8) rfl ?_
  refine sg_psh f44_19 (v := .int 0) (by decide) ?_
  refine sg_lald f44_20 rfl (by unfold vp_in; decide) (x := (ml 8 (Int32.toNatClampNeg 0))) rfl ?_
  refine sg_last f44_21 rfl (by unfold vp_in; decide) ?_
  refine sg_psh f44_22 (v := .int 1) (by decide) ?_
  refine sg_st1 f44_23 (ls' := [some (.ref 3), some (.int ((mi 1 0) - 1)), some (.int 1)]) rfl rfl rfl rfl ?_
  exact h

set_option maxRecDepth 10000 in
theorem rg44_24 {mi : Mi} {ml : Ml} {F : Mi → Ml → Prop} {x1 : Int32} {x2 : Int32}  (h : ((x1 < x2) → Sg 44 67 [some (.ref 3), some (.int x1), some (.int (x1 - 1))] [] mi ml (qv F)) ∧ (¬ (x1 < x2) → (vp_in x2 7) ∧ ((vp_in (x2 - 1) 7) ∧ (Sg 63 0 [some (.ref 4), some (.long (ml 13 (Int32.toNatClampNeg (x2 - 1)))), none, none, none, none] [] mi ml (ql fun y3 mi4 ml5 => Sg 44 24 [some (.ref 3), some (.int x1), some (.int (x2 + 1))] [] mi4 (va_up ml5 13 (va_up (ml5 13) (Int32.toNatClampNeg x2) ((ml 8 (Int32.toNatClampNeg x2)) &&& y3))) (qv F)))))) : Sg 44 24 [some (.ref 3), some (.int x1), some (.int x2)] [] mi ml (qv F) := by
  refine sg_ld f44_24 (v := .int x2) rfl rfl ?_
  refine sg_ld f44_25 (v := .int x1) rfl rfl ?_
  refine sg_icmp f44_26 (fun c => ?_) (fun c => ?_)
  · have h := h.1 c
    refine sg_ld f44_63 (v := .int x1) rfl rfl ?_
    refine sg_psh f44_64 (v := .int 1) (by decide) ?_
    refine sg_bin f44_65 rfl ?_
    refine sg_st1 f44_66 (ls' := [some (.ref 3), some (.int x1), some (.int (x1 - 1))]) rfl rfl rfl rfl ?_
    exact h
  · have h := h.2 c
    refine sg_ld f44_29 (v := .ref 3) rfl rfl ?_
    refine sg_getr f44_30 rfl rfl (w := 13) rfl ?_
    refine sg_ld f44_33 (v := .int x2) rfl rfl ?_
    refine sg_ld f44_34 (v := .ref 3) rfl rfl ?_
    refine sg_getr f44_35 rfl rfl (w := 8) rfl ?_
    refine sg_ld f44_38 (v := .int x2) rfl rfl ?_
    obtain ⟨e1, h⟩ := h
    refine sg_lald f44_39 rfl e1 (x := (ml 8 (Int32.toNatClampNeg x2))) rfl ?_
    refine sg_ld f44_40 (v := .ref 3) rfl rfl ?_
    refine sg_getr f44_41 rfl rfl (w := 4) rfl ?_
    refine sg_ld f44_44 (v := .ref 3) rfl rfl ?_
    refine sg_getr f44_45 rfl rfl (w := 13) rfl ?_
    refine sg_ld f44_48 (v := .int x2) rfl rfl ?_
    refine sg_psh f44_49 (v := .int 1) (by decide) ?_
    refine sg_bin f44_50 rfl ?_
    obtain ⟨e2, h⟩ := h
    refine sg_lald f44_51 rfl e2 (x := (ml 13 (Int32.toNatClampNeg (x2 - 1)))) rfl ?_
    refine sg_cV f44_52 (vs := [.long (ml 13 (Int32.toNatClampNeg (x2 - 1)))]) (r := 4) (rest := [.long (ml 8 (Int32.toNatClampNeg x2)), .int x2, .ref 13]) (en := [some (.ref 4), some (.long (ml 13 (Int32.toNatClampNeg (x2 - 1)))), none, none, none, none]) pq63 ⟨rfl, rfl⟩ rfl rfl rfl rfl rfl rfl h ?_
    rintro _ mi4 ml5 ⟨y3, rfl, h⟩
    refine sg_binl f44_55 rfl ?_
    refine sg_last f44_56 rfl e1 ?_
    refine sg_inc f44_57 (d := 1) (ls' := [some (.ref 3), some (.int x1), some (.int (x2 + 1))]) rfl (by decide) rfl ?_
    refine sg_goto f44_60 ?_
    exact h

set_option maxRecDepth 10000 in
theorem rg44_67 {mi : Mi} {ml : Ml} {F : Mi → Ml → Prop} {x1 : Int32} {x2 : Int32}  (h : ((x2 < 0) → Sg 44 103 [some (.ref 3), some (.int x1), some (.int 0)] [] mi ml (qv F)) ∧ (¬ (x2 < 0) → (vp_in x2 7) ∧ ((vp_in (x2 + 1) 7) ∧ (Sg 63 0 [some (.ref 4), some (.long (ml 13 (Int32.toNatClampNeg (x2 + 1)))), none, none, none, none] [] mi ml (ql fun y3 mi4 ml5 => Sg 44 67 [some (.ref 3), some (.int x1), some (.int (x2 + (-1)))] [] mi4 (va_up ml5 13 (va_up (ml5 13) (Int32.toNatClampNeg x2) ((ml 13 (Int32.toNatClampNeg x2)) &&& y3))) (qv F)))))) : Sg 44 67 [some (.ref 3), some (.int x1), some (.int x2)] [] mi ml (qv F) := by
  refine sg_ld f44_67 (v := .int x2) rfl rfl ?_
  refine sg_if f44_68 (fun c => ?_) (fun c => ?_)
  · have h := h.1 c
    refine sg_psh f44_101 (v := .int 0) (by decide) ?_
    refine sg_st1 f44_102 (ls' := [some (.ref 3), some (.int x1), some (.int 0)]) rfl rfl rfl rfl ?_
    exact h
  · have h := h.2 c
    refine sg_ld f44_71 (v := .ref 3) rfl rfl ?_
    refine sg_getr f44_72 rfl rfl (w := 13) rfl ?_
    refine sg_ld f44_75 (v := .int x2) rfl rfl ?_
    refine sg_dup2 f44_76 rfl rfl ?_
    obtain ⟨e1, h⟩ := h
    refine sg_lald f44_77 rfl e1 (x := (ml 13 (Int32.toNatClampNeg x2))) rfl ?_
    refine sg_ld f44_78 (v := .ref 3) rfl rfl ?_
    refine sg_getr f44_79 rfl rfl (w := 4) rfl ?_
    refine sg_ld f44_82 (v := .ref 3) rfl rfl ?_
    refine sg_getr f44_83 rfl rfl (w := 13) rfl ?_
    refine sg_ld f44_86 (v := .int x2) rfl rfl ?_
    refine sg_psh f44_87 (v := .int 1) (by decide) ?_
    refine sg_bin f44_88 rfl ?_
    obtain ⟨e2, h⟩ := h
    refine sg_lald f44_89 rfl e2 (x := (ml 13 (Int32.toNatClampNeg (x2 + 1)))) rfl ?_
    refine sg_cV f44_90 (vs := [.long (ml 13 (Int32.toNatClampNeg (x2 + 1)))]) (r := 4) (rest := [.long (ml 13 (Int32.toNatClampNeg x2)), .int x2, .ref 13]) (en := [some (.ref 4), some (.long (ml 13 (Int32.toNatClampNeg (x2 + 1)))), none, none, none, none]) pq63 ⟨rfl, rfl⟩ rfl rfl rfl rfl rfl rfl h ?_
    rintro _ mi4 ml5 ⟨y3, rfl, h⟩
    refine sg_binl f44_93 rfl ?_
    refine sg_last f44_94 rfl e1 ?_
    refine sg_inc f44_95 (d := (-1)) (ls' := [some (.ref 3), some (.int x1), some (.int (x2 + (-1)))]) rfl (by decide) rfl ?_
    refine sg_goto f44_98 ?_
    exact h

set_option maxRecDepth 10000 in
theorem rg44_103 {mi : Mi} {ml : Ml} {F : Mi → Ml → Prop} {x1 : Int32} {x2 : Int32}  (h : ((x1 < x2) → F mi ml) ∧ (¬ (x1 < x2) → (vp_in x2 7) ∧ (Sg 64 0 [some (.ref 4), some (.long (ml 13 (Int32.toNatClampNeg x2))), none, none, none] [] mi ml (qi fun y2 mi3 ml4 => Sg 44 103 [some (.ref 3), some (.int x1), some (.int (x2 + 1))] [] (va_up mi3 15 (va_up (mi3 15) (Int32.toNatClampNeg x2) y2)) ml4 (qv F))))) : Sg 44 103 [some (.ref 3), some (.int x1), some (.int x2)] [] mi ml (qv F) := by
  refine sg_ld f44_103 (v := .int x2) rfl rfl ?_
  refine sg_ld f44_104 (v := .int x1) rfl rfl ?_
  refine sg_icmp f44_105 (fun c => ?_) (fun c => ?_)
  · have h := h.1 c
    exact sg_ret f44_133 pq44 rfl h
  · have h := h.2 c
    refine sg_ld f44_108 (v := .ref 3) rfl rfl ?_
    refine sg_getr f44_109 rfl rfl (w := 15) rfl ?_
    refine sg_ld f44_112 (v := .int x2) rfl rfl ?_
    refine sg_ld f44_113 (v := .ref 3) rfl rfl ?_
    refine sg_getr f44_114 rfl rfl (w := 4) rfl ?_
    refine sg_ld f44_117 (v := .ref 3) rfl rfl ?_
    refine sg_getr f44_118 rfl rfl (w := 13) rfl ?_
    refine sg_ld f44_121 (v := .int x2) rfl rfl ?_
    obtain ⟨e1, h⟩ := h
    refine sg_lald f44_122 rfl e1 (x := (ml 13 (Int32.toNatClampNeg x2))) rfl ?_
    refine sg_cV f44_123 (vs := [.long (ml 13 (Int32.toNatClampNeg x2))]) (r := 4) (rest := [.int x2, .ref 15]) (en := [some (.ref 4), some (.long (ml 13 (Int32.toNatClampNeg x2))), none, none, none]) pq64 ⟨rfl, rfl⟩ rfl rfl rfl rfl rfl rfl h ?_
    rintro _ mi3 ml4 ⟨y2, rfl, h⟩
    refine sg_iast f44_126 rfl e1 ?_
    refine sg_inc f44_127 (d := 1) (ls' := [some (.ref 3), some (.int x1), some (.int (x2 + 1))]) rfl (by decide) rfl ?_
    refine sg_goto f44_130 ?_
    exact h

/-! X3_markWitness ()V -/
theorem fe45 (pc : Nat) : gm_fetch 45 pc = gm_find pc cd_45 := rfl
theorem f45_0 : gm_fetch 45 0 = some (1, .iconst 1, 0, 0, 0, 0) := (fe45 0).trans rfl
theorem f45_1 : gm_fetch 45 1 = some (2, .istore_n 1, 0, 0, 0, 0) := (fe45 1).trans rfl
theorem f45_2 : gm_fetch 45 2 = some (3, .iload_n 1, 0, 0, 0, 0) := (fe45 2).trans rfl
theorem f45_3 : gm_fetch 45 3 = some (4, .aload_n 0, 0, 0, 0, 0) := (fe45 3).trans rfl
theorem f45_4 : gm_fetch 45 4 = some (7, .getfield 41, 37, 3, 0, 0) := (fe45 4).trans rfl
theorem f45_7 : gm_fetch 45 7 = some (10, .getfield 75, 1, 0, 0, 0) := (fe45 7).trans rfl
theorem f45_10 : gm_fetch 45 10 = some (13, .if_icmp .gt 65, 0, 75, 0, 0) := (fe45 10).trans rfl
theorem f45_13 : gm_fetch 45 13 = some (14, .iconst 0, 0, 0, 0, 0) := (fe45 13).trans rfl
theorem f45_14 : gm_fetch 45 14 = some (15, .istore_n 2, 0, 0, 0, 0) := (fe45 14).trans rfl
theorem f45_15 : gm_fetch 45 15 = some (16, .iload_n 2, 0, 0, 0, 0) := (fe45 15).trans rfl
theorem f45_16 : gm_fetch 45 16 = some (17, .iload_n 1, 0, 0, 0, 0) := (fe45 16).trans rfl
theorem f45_17 : gm_fetch 45 17 = some (18, .iadd, 0, 0, 0, 0) := (fe45 17).trans rfl
theorem f45_18 : gm_fetch 45 18 = some (19, .aload_n 0, 0, 0, 0, 0) := (fe45 18).trans rfl
theorem f45_19 : gm_fetch 45 19 = some (22, .getfield 41, 37, 3, 0, 0) := (fe45 19).trans rfl
theorem f45_22 : gm_fetch 45 22 = some (25, .getfield 75, 1, 0, 0, 0) := (fe45 22).trans rfl
theorem f45_25 : gm_fetch 45 25 = some (28, .if_icmp .gt 44, 0, 69, 0, 0) := (fe45 25).trans rfl
theorem f45_28 : gm_fetch 45 28 = some (29, .aload_n 0, 0, 0, 0, 0) := (fe45 28).trans rfl
theorem f45_29 : gm_fetch 45 29 = some (32, .getfield 12, 38, 3, 1, 0) := (fe45 29).trans rfl
theorem f45_32 : gm_fetch 45 32 = some (33, .aload_n 0, 0, 0, 0, 0) := (fe45 32).trans rfl
theorem f45_33 : gm_fetch 45 33 = some (36, .getfield 18, 39, 3, 2, 0) := (fe45 33).trans rfl
theorem f45_36 : gm_fetch 45 36 = some (37, .iload_n 2, 0, 0, 0, 0) := (fe45 36).trans rfl
theorem f45_37 : gm_fetch 45 37 = some (38, .iload_n 2, 0, 0, 0, 0) := (fe45 37).trans rfl
theorem f45_38 : gm_fetch 45 38 = some (39, .iload_n 1, 0, 0, 0, 0) := (fe45 38).trans rfl
theorem f45_39 : gm_fetch 45 39 = some (40, .iadd, 0, 0, 0, 0) := (fe45 39).trans rfl
theorem f45_40 : gm_fetch 45 40 = some (41, .iconst 1, 0, 0, 0, 0) := (fe45 40).trans rfl
theorem f45_41 : gm_fetch 45 41 = some (42, .isub, 0, 0, 0, 0) := (fe45 41).trans rfl
theorem f45_42 : gm_fetch 45 42 = some (45, .invokestatic 85, 51, 35, 0, 0) := (fe45 42).trans rfl
theorem f45_45 : gm_fetch 45 45 = some (48, .ifCond .ne 18, 0, 63, 0, 0) := (fe45 45).trans rfl
theorem f45_48 : gm_fetch 45 48 = some (49, .aload_n 0, 0, 0, 0, 0) := (fe45 48).trans rfl
theorem f45_49 : gm_fetch 45 49 = some (50, .iload_n 2, 0, 0, 0, 0) := (fe45 49).trans rfl
theorem f45_50 : gm_fetch 45 50 = some (53, .putfield 105, 47, 3, 10, 0) := (fe45 50).trans rfl
theorem f45_53 : gm_fetch 45 53 = some (54, .aload_n 0, 0, 0, 0, 0) := (fe45 53).trans rfl
theorem f45_54 : gm_fetch 45 54 = some (55, .iload_n 2, 0, 0, 0, 0) := (fe45 54).trans rfl
theorem f45_55 : gm_fetch 45 55 = some (56, .iload_n 1, 0, 0, 0, 0) := (fe45 55).trans rfl
theorem f45_56 : gm_fetch 45 56 = some (57, .iadd, 0, 0, 0, 0) := (fe45 56).trans rfl
theorem f45_57 : gm_fetch 45 57 = some (58, .iconst 1, 0, 0, 0, 0) := (fe45 57).trans rfl
theorem f45_58 : gm_fetch 45 58 = some (59, .isub, 0, 0, 0, 0) := (fe45 58).trans rfl
theorem f45_59 : gm_fetch 45 59 = some (62, .putfield 108, 48, 3, 11, 0) := (fe45 59).trans rfl
theorem f45_62 : gm_fetch 45 62 = some (63, .return_, 0, 0, 0, 0) := (fe45 62).trans rfl
theorem f45_63 : gm_fetch 45 63 = some (66, .iinc 2 1, 0, 0, 0, 0) := (fe45 63).trans rfl
theorem f45_66 : gm_fetch 45 66 = some (69, .goto (-51), 0, 15, 0, 0) := (fe45 66).trans rfl
theorem f45_69 : gm_fetch 45 69 = some (72, .iinc 1 1, 0, 0, 0, 0) := (fe45 69).trans rfl
theorem f45_72 : gm_fetch 45 72 = some (75, .goto (-70), 0, 2, 0, 0) := (fe45 72).trans rfl
theorem f45_75 : gm_fetch 45 75 = some (76, .return_, 0, 0, 0, 0) := (fe45 75).trans rfl
set_option maxRecDepth 10000 in
theorem rg45_0 {mi : Mi} {ml : Ml} {F : Mi → Ml → Prop}   (h : Sg 45 2 [some (.ref 3), some (.int 1), none] [] mi ml (qv F)) : Sg 45 0 [some (.ref 3), none, none] [] mi ml (qv F) := by
  refine sg_psh f45_0 (v := .int 1) (by decide) ?_
  refine sg_st1 f45_1 (ls' := [some (.ref 3), some (.int 1), none]) rfl rfl rfl rfl ?_
  exact h

set_option maxRecDepth 10000 in
theorem rg45_2 {mi : Mi} {ml : Ml} {F : Mi → Ml → Prop} {x1 : Int32}  (h : (((mi 1 0) < x1) → F mi ml) ∧ (¬ ((mi 1 0) < x1) → Sg 45 15 [some (.ref 3), some (.int x1), some (.int 0)] [] mi ml (qv F))) : Sg 45 2 [some (.ref 3), some (.int x1), none] [] mi ml (qv F) := by
  refine sg_ld f45_2 (v := .int x1) rfl rfl ?_
  refine sg_ld f45_3 (v := .ref 3) rfl rfl ?_
  refine sg_getr f45_4 rfl rfl (w := 1) rfl ?_
  refine sg_geti f45_7 rfl rfl (x := (mi 1 0)) rfl ?_
  refine sg_icmp f45_10 (fun c => ?_) (fun c => ?_)
  · have h := h.1 c
    exact sg_ret f45_75 pq45 rfl h
  · have h := h.2 c
    refine sg_psh f45_13 (v := .int 0) (by decide) ?_
    refine sg_st1 f45_14 (ls' := [some (.ref 3), some (.int x1), some (.int 0)]) rfl rfl rfl rfl ?_
    exact h

set_option maxRecDepth 10000 in
theorem rg45_15 {mi : Mi} {ml : Ml} {F : Mi → Ml → Prop} {x1 : Int32} {x2 : Int32}  (h : (((mi 1 0) < (x2 + x1)) → Sg 45 2 [some (.ref 3), some (.int (x1 + 1)), none] [] mi ml (qv F)) ∧ (¬ ((mi 1 0) < (x2 + x1)) → Sg 35 0 [some (.ref 4), some (.ref 8), some (.int x2), some (.int ((x2 + x1) - 1)), none, none, none] [] mi ml (qi fun y1 mi2 ml3 => ((¬ y1 = 0) → Sg 45 15 [some (.ref 3), some (.int x1), some (.int (x2 + 1))] [] mi2 ml3 (qv F)) ∧ (¬ (¬ y1 = 0) → F (va_up mi2 3 (va_up (va_up (mi2 3) 10 x2) 11 ((x2 + x1) - 1))) ml3)))) : Sg 45 15 [some (.ref 3), some (.int x1), some (.int x2)] [] mi ml (qv F) := by
  refine sg_ld f45_15 (v := .int x2) rfl rfl ?_
  refine sg_ld f45_16 (v := .int x1) rfl rfl ?_
  refine sg_bin f45_17 rfl ?_
  refine sg_ld f45_18 (v := .ref 3) rfl rfl ?_
  refine sg_getr f45_19 rfl rfl (w := 1) rfl ?_
  refine sg_geti f45_22 rfl rfl (x := (mi 1 0)) rfl ?_
  refine sg_icmp f45_25 (fun c => ?_) (fun c => ?_)
  · have h := h.1 c
    refine sg_inc f45_69 (d := 1) (ls' := [some (.ref 3), some (.int (x1 + 1)), some (.int x2)]) rfl (by decide) rfl ?_
    refine sg_goto f45_72 ?_
    exact sg_drop [2] rfl h
  · have h := h.2 c
    refine sg_ld f45_28 (v := .ref 3) rfl rfl ?_
    refine sg_getr f45_29 rfl rfl (w := 4) rfl ?_
    refine sg_ld f45_32 (v := .ref 3) rfl rfl ?_
    refine sg_getr f45_33 rfl rfl (w := 8) rfl ?_
    refine sg_ld f45_36 (v := .int x2) rfl rfl ?_
    refine sg_ld f45_37 (v := .int x2) rfl rfl ?_
    refine sg_ld f45_38 (v := .int x1) rfl rfl ?_
    refine sg_bin f45_39 rfl ?_
    refine sg_psh f45_40 (v := .int 1) (by decide) ?_
    refine sg_bin f45_41 rfl ?_
    refine sg_cS f45_42 (vs := [.ref 4, .ref 8, .int x2, .int ((x2 + x1) - 1)]) (rest := []) (en := [some (.ref 4), some (.ref 8), some (.int x2), some (.int ((x2 + x1) - 1)), none, none, none]) (by decide) pq35 ⟨rfl, rfl⟩ rfl rfl rfl rfl rfl h ?_
    rintro _ mi2 ml3 ⟨y1, rfl, h⟩
    refine sg_if f45_45 (fun c => ?_) (fun c => ?_)
    · have h := h.1 c
      refine sg_inc f45_63 (d := 1) (ls' := [some (.ref 3), some (.int x1), some (.int (x2 + 1))]) rfl (by decide) rfl ?_
      refine sg_goto f45_66 ?_
      exact h
    · have h := h.2 c
      refine sg_ld f45_48 (v := .ref 3) rfl rfl ?_
      refine sg_ld f45_49 (v := .int x2) rfl rfl ?_
      refine sg_puti f45_50 rfl rfl rfl (fun hz => by cases hz) ?_
      refine sg_ld f45_53 (v := .ref 3) rfl rfl ?_
      refine sg_ld f45_54 (v := .int x2) rfl rfl ?_
      refine sg_ld f45_55 (v := .int x1) rfl rfl ?_
      refine sg_bin f45_56 rfl ?_
      refine sg_psh f45_57 (v := .int 1) (by decide) ?_
      refine sg_bin f45_58 rfl ?_
      refine sg_puti2 f45_59 rfl rfl rfl (fun hz => by cases hz) ?_
      exact sg_ret f45_62 pq45 rfl h

/-! X3_markCore ()V -/
theorem fe46 (pc : Nat) : gm_fetch 46 pc = gm_find pc cd_46 := rfl
set_option maxRecDepth 10000 in
theorem f46_0 : gm_fetch 46 0 = some (1, .aload_n 0, 0, 0, 0, 0) := (fe46 0).trans rfl
set_option maxRecDepth 10000 in
theorem f46_1 : gm_fetch 46 1 = some (4, .getfield 18, 39, 3, 2, 0) := (fe46 1).trans rfl
set_option maxRecDepth 10000 in
theorem f46_4 : gm_fetch 46 4 = some (5, .iconst 0, 0, 0, 0, 0) := (fe46 4).trans rfl
set_option maxRecDepth 10000 in
theorem f46_5 : gm_fetch 46 5 = some (6, .aload_n 0, 0, 0, 0, 0) := (fe46 5).trans rfl
set_option maxRecDepth 10000 in
theorem f46_6 : gm_fetch 46 6 = some (9, .getfield 25, 41, 3, 4, 0) := (fe46 6).trans rfl
set_option maxRecDepth 10000 in
theorem f46_9 : gm_fetch 46 9 = some (10, .iconst 0, 0, 0, 0, 0) := (fe46 9).trans rfl
set_option maxRecDepth 10000 in
theorem f46_10 : gm_fetch 46 10 = some (12, .bipush 7, 0, 0, 0, 0) := (fe46 10).trans rfl
set_option maxRecDepth 10000 in
theorem f46_12 : gm_fetch 46 12 = some (15, .invokestatic 132, 59, 0, 2, 0) := (fe46 12).trans rfl
set_option maxRecDepth 10000 in
theorem f46_15 : gm_fetch 46 15 = some (16, .iconst 0, 0, 0, 0, 0) := (fe46 15).trans rfl
set_option maxRecDepth 10000 in
theorem f46_16 : gm_fetch 46 16 = some (17, .istore_n 1, 0, 0, 0, 0) := (fe46 16).trans rfl
set_option maxRecDepth 10000 in
theorem f46_17 : gm_fetch 46 17 = some (18, .iload_n 1, 0, 0, 0, 0) := (fe46 17).trans rfl
set_option maxRecDepth 10000 in
theorem f46_18 : gm_fetch 46 18 = some (19, .aload_n 0, 0, 0, 0, 0) := (fe46 18).trans rfl
set_option maxRecDepth 10000 in
theorem f46_19 : gm_fetch 46 19 = some (22, .getfield 41, 37, 3, 0, 0) := (fe46 19).trans rfl
set_option maxRecDepth 10000 in
theorem f46_22 : gm_fetch 46 22 = some (25, .getfield 75, 1, 0, 0, 0) := (fe46 22).trans rfl
set_option maxRecDepth 10000 in
theorem f46_25 : gm_fetch 46 25 = some (28, .if_icmp .ge 133, 0, 158, 0, 0) := (fe46 25).trans rfl
set_option maxRecDepth 10000 in
theorem f46_28 : gm_fetch 46 28 = some (29, .aload_n 0, 0, 0, 0, 0) := (fe46 28).trans rfl
set_option maxRecDepth 10000 in
theorem f46_29 : gm_fetch 46 29 = some (32, .getfield 28, 42, 3, 5, 0) := (fe46 29).trans rfl
set_option maxRecDepth 10000 in
theorem f46_32 : gm_fetch 46 32 = some (33, .iload_n 1, 0, 0, 0, 0) := (fe46 32).trans rfl
set_option maxRecDepth 10000 in
theorem f46_33 : gm_fetch 46 33 = some (34, .aload_n 0, 0, 0, 0, 0) := (fe46 33).trans rfl
set_option maxRecDepth 10000 in
theorem f46_34 : gm_fetch 46 34 = some (37, .getfield 41, 37, 3, 0, 0) := (fe46 34).trans rfl
set_option maxRecDepth 10000 in
theorem f46_37 : gm_fetch 46 37 = some (40, .getfield 78, 24, 0, 6, 0) := (fe46 37).trans rfl
set_option maxRecDepth 10000 in
theorem f46_40 : gm_fetch 46 40 = some (41, .iload_n 1, 0, 0, 0, 0) := (fe46 40).trans rfl
set_option maxRecDepth 10000 in
theorem f46_41 : gm_fetch 46 41 = some (42, .iaload, 0, 0, 0, 0) := (fe46 41).trans rfl
set_option maxRecDepth 10000 in
theorem f46_42 : gm_fetch 46 42 = some (43, .iastore, 0, 0, 0, 0) := (fe46 42).trans rfl
set_option maxRecDepth 10000 in
theorem f46_43 : gm_fetch 46 43 = some (44, .iconst 0, 0, 0, 0, 0) := (fe46 43).trans rfl
set_option maxRecDepth 10000 in
theorem f46_44 : gm_fetch 46 44 = some (45, .istore_n 2, 0, 0, 0, 0) := (fe46 44).trans rfl
set_option maxRecDepth 10000 in
theorem f46_45 : gm_fetch 46 45 = some (46, .iload_n 2, 0, 0, 0, 0) := (fe46 45).trans rfl
set_option maxRecDepth 10000 in
theorem f46_46 : gm_fetch 46 46 = some (47, .aload_n 0, 0, 0, 0, 0) := (fe46 46).trans rfl
set_option maxRecDepth 10000 in
theorem f46_47 : gm_fetch 46 47 = some (50, .getfield 41, 37, 3, 0, 0) := (fe46 47).trans rfl
set_option maxRecDepth 10000 in
theorem f46_50 : gm_fetch 46 50 = some (53, .getfield 54, 6, 0, 1, 0) := (fe46 50).trans rfl
set_option maxRecDepth 10000 in
theorem f46_53 : gm_fetch 46 53 = some (56, .if_icmp .ge 99, 0, 152, 0, 0) := (fe46 53).trans rfl
set_option maxRecDepth 10000 in
theorem f46_56 : gm_fetch 46 56 = some (57, .aload_n 0, 0, 0, 0, 0) := (fe46 56).trans rfl
set_option maxRecDepth 10000 in
theorem f46_57 : gm_fetch 46 57 = some (60, .getfield 28, 42, 3, 5, 0) := (fe46 57).trans rfl
set_option maxRecDepth 10000 in
theorem f46_60 : gm_fetch 46 60 = some (61, .iload_n 1, 0, 0, 0, 0) := (fe46 60).trans rfl
set_option maxRecDepth 10000 in
theorem f46_61 : gm_fetch 46 61 = some (62, .iaload, 0, 0, 0, 0) := (fe46 61).trans rfl
set_option maxRecDepth 10000 in
theorem f46_62 : gm_fetch 46 62 = some (63, .iconst 1, 0, 0, 0, 0) := (fe46 62).trans rfl
set_option maxRecDepth 10000 in
theorem f46_63 : gm_fetch 46 63 = some (64, .iload_n 2, 0, 0, 0, 0) := (fe46 63).trans rfl
set_option maxRecDepth 10000 in
theorem f46_64 : gm_fetch 46 64 = some (65, .ishl, 0, 0, 0, 0) := (fe46 64).trans rfl
set_option maxRecDepth 10000 in
theorem f46_65 : gm_fetch 46 65 = some (66, .iconst (-1), 0, 0, 0, 0) := (fe46 65).trans rfl
set_option maxRecDepth 10000 in
theorem f46_66 : gm_fetch 46 66 = some (67, .ixor, 0, 0, 0, 0) := (fe46 66).trans rfl
set_option maxRecDepth 10000 in
theorem f46_67 : gm_fetch 46 67 = some (68, .iand, 0, 0, 0, 0) := (fe46 67).trans rfl
set_option maxRecDepth 10000 in
theorem f46_68 : gm_fetch 46 68 = some (69, .istore_n 3, 0, 0, 0, 0) := (fe46 68).trans rfl
set_option maxRecDepth 10000 in
theorem f46_69 : gm_fetch 46 69 = some (70, .iload_n 3, 0, 0, 0, 0) := (fe46 69).trans rfl
set_option maxRecDepth 10000 in
theorem f46_70 : gm_fetch 46 70 = some (71, .aload_n 0, 0, 0, 0, 0) := (fe46 70).trans rfl
set_option maxRecDepth 10000 in
theorem f46_71 : gm_fetch 46 71 = some (74, .getfield 28, 42, 3, 5, 0) := (fe46 71).trans rfl
set_option maxRecDepth 10000 in
theorem f46_74 : gm_fetch 46 74 = some (75, .iload_n 1, 0, 0, 0, 0) := (fe46 74).trans rfl
set_option maxRecDepth 10000 in
theorem f46_75 : gm_fetch 46 75 = some (76, .iaload, 0, 0, 0, 0) := (fe46 75).trans rfl
set_option maxRecDepth 10000 in
theorem f46_76 : gm_fetch 46 76 = some (79, .if_icmp .ne 6, 0, 82, 0, 0) := (fe46 76).trans rfl
set_option maxRecDepth 10000 in
theorem f46_79 : gm_fetch 46 79 = some (82, .goto 67, 0, 146, 0, 0) := (fe46 79).trans rfl
set_option maxRecDepth 10000 in
theorem f46_82 : gm_fetch 46 82 = some (83, .aload_n 0, 0, 0, 0, 0) := (fe46 82).trans rfl
set_option maxRecDepth 10000 in
theorem f46_83 : gm_fetch 46 83 = some (86, .getfield 25, 41, 3, 4, 0) := (fe46 83).trans rfl
set_option maxRecDepth 10000 in
theorem f46_86 : gm_fetch 46 86 = some (87, .iload_n 1, 0, 0, 0, 0) := (fe46 86).trans rfl
set_option maxRecDepth 10000 in
theorem f46_87 : gm_fetch 46 87 = some (88, .laload, 0, 0, 0, 0) := (fe46 87).trans rfl
set_option maxRecDepth 10000 in
theorem f46_88 : gm_fetch 46 88 = some (90, .lstore 4, 0, 0, 0, 0) := (fe46 88).trans rfl
set_option maxRecDepth 10000 in
theorem f46_90 : gm_fetch 46 90 = some (91, .aload_n 0, 0, 0, 0, 0) := (fe46 90).trans rfl
set_option maxRecDepth 10000 in
theorem f46_91 : gm_fetch 46 91 = some (94, .getfield 25, 41, 3, 4, 0) := (fe46 91).trans rfl
set_option maxRecDepth 10000 in
theorem f46_94 : gm_fetch 46 94 = some (95, .iload_n 1, 0, 0, 0, 0) := (fe46 94).trans rfl
set_option maxRecDepth 10000 in
theorem f46_95 : gm_fetch 46 95 = some (96, .aload_n 0, 0, 0, 0, 0) := (fe46 95).trans rfl
set_option maxRecDepth 10000 in
theorem f46_96 : gm_fetch 46 96 = some (99, .getfield 12, 38, 3, 1, 0) := (fe46 96).trans rfl
set_option maxRecDepth 10000 in
theorem f46_99 : gm_fetch 46 99 = some (100, .iload_n 3, 0, 0, 0, 0) := (fe46 99).trans rfl
set_option maxRecDepth 10000 in
theorem f46_100 : gm_fetch 46 100 = some (103, .invokevirtual 81, 50, 62, 0, 0) := (fe46 100).trans rfl
set_option maxRecDepth 10000 in
theorem f46_103 : gm_fetch 46 103 = some (104, .lastore, 0, 0, 0, 0) := (fe46 103).trans rfl
set_option maxRecDepth 10000 in
theorem f46_104 : gm_fetch 46 104 = some (105, .aload_n 0, 0, 0, 0, 0) := (fe46 104).trans rfl
set_option maxRecDepth 10000 in
theorem f46_105 : gm_fetch 46 105 = some (108, .getfield 12, 38, 3, 1, 0) := (fe46 105).trans rfl
set_option maxRecDepth 10000 in
theorem f46_108 : gm_fetch 46 108 = some (109, .aload_n 0, 0, 0, 0, 0) := (fe46 108).trans rfl
set_option maxRecDepth 10000 in
theorem f46_109 : gm_fetch 46 109 = some (112, .getfield 25, 41, 3, 4, 0) := (fe46 109).trans rfl
set_option maxRecDepth 10000 in
theorem f46_112 : gm_fetch 46 112 = some (113, .iconst 0, 0, 0, 0, 0) := (fe46 112).trans rfl
set_option maxRecDepth 10000 in
theorem f46_113 : gm_fetch 46 113 = some (114, .aload_n 0, 0, 0, 0, 0) := (fe46 113).trans rfl
set_option maxRecDepth 10000 in
theorem f46_114 : gm_fetch 46 114 = some (117, .getfield 41, 37, 3, 0, 0) := (fe46 114).trans rfl
set_option maxRecDepth 10000 in
theorem f46_117 : gm_fetch 46 117 = some (120, .getfield 75, 1, 0, 0, 0) := (fe46 117).trans rfl
set_option maxRecDepth 10000 in
theorem f46_120 : gm_fetch 46 120 = some (121, .iconst 1, 0, 0, 0, 0) := (fe46 120).trans rfl
set_option maxRecDepth 10000 in
theorem f46_121 : gm_fetch 46 121 = some (122, .isub, 0, 0, 0, 0) := (fe46 121).trans rfl
set_option maxRecDepth 10000 in
theorem f46_122 : gm_fetch 46 122 = some (125, .invokestatic 85, 51, 35, 0, 0) := (fe46 122).trans rfl
set_option maxRecDepth 10000 in
theorem f46_125 : gm_fetch 46 125 = some (128, .ifCond .eq 14, 0, 139, 0, 0) := (fe46 125).trans rfl
set_option maxRecDepth 10000 in
theorem f46_128 : gm_fetch 46 128 = some (129, .aload_n 0, 0, 0, 0, 0) := (fe46 128).trans rfl
set_option maxRecDepth 10000 in
theorem f46_129 : gm_fetch 46 129 = some (132, .getfield 25, 41, 3, 4, 0) := (fe46 129).trans rfl
set_option maxRecDepth 10000 in
theorem f46_132 : gm_fetch 46 132 = some (133, .iload_n 1, 0, 0, 0, 0) := (fe46 132).trans rfl
set_option maxRecDepth 10000 in
theorem f46_133 : gm_fetch 46 133 = some (135, .lload 4, 0, 0, 0, 0) := (fe46 133).trans rfl
set_option maxRecDepth 10000 in
theorem f46_135 : gm_fetch 46 135 = some (136, .lastore, 0, 0, 0, 0) := (fe46 135).trans rfl
set_option maxRecDepth 10000 in
theorem f46_136 : gm_fetch 46 136 = some (139, .goto 10, 0, 146, 0, 0) := (fe46 136).trans rfl
set_option maxRecDepth 10000 in
theorem f46_139 : gm_fetch 46 139 = some (140, .aload_n 0, 0, 0, 0, 0) := (fe46 139).trans rfl
set_option maxRecDepth 10000 in
theorem f46_140 : gm_fetch 46 140 = some (143, .getfield 28, 42, 3, 5, 0) := (fe46 140).trans rfl
set_option maxRecDepth 10000 in
theorem f46_143 : gm_fetch 46 143 = some (144, .iload_n 1, 0, 0, 0, 0) := (fe46 143).trans rfl
set_option maxRecDepth 10000 in
theorem f46_144 : gm_fetch 46 144 = some (145, .iload_n 3, 0, 0, 0, 0) := (fe46 144).trans rfl
set_option maxRecDepth 10000 in
theorem f46_145 : gm_fetch 46 145 = some (146, .iastore, 0, 0, 0, 0) := (fe46 145).trans rfl
set_option maxRecDepth 10000 in
theorem f46_146 : gm_fetch 46 146 = some (149, .iinc 2 1, 0, 0, 0, 0) := (fe46 146).trans rfl
set_option maxRecDepth 10000 in
theorem f46_149 : gm_fetch 46 149 = some (152, .goto (-104), 0, 45, 0, 0) := (fe46 149).trans rfl
set_option maxRecDepth 10000 in
theorem f46_152 : gm_fetch 46 152 = some (155, .iinc 1 1, 0, 0, 0, 0) := (fe46 152).trans rfl
set_option maxRecDepth 10000 in
theorem f46_155 : gm_fetch 46 155 = some (158, .goto (-138), 0, 17, 0, 0) := (fe46 155).trans rfl
set_option maxRecDepth 10000 in
theorem f46_158 : gm_fetch 46 158 = some (159, .return_, 0, 0, 0, 0) := (fe46 158).trans rfl
set_option maxRecDepth 10000 in
theorem rg46_0 {mi : Mi} {ml : Ml} {F : Mi → Ml → Prop}   (h : Sg 46 17 [some (.ref 3), some (.int 0), none, none, none, none] [] mi (va_up ml 13 (va_cpy (ml 8) (ml 13) (Int32.toNatClampNeg 0) (Int32.toNatClampNeg 0) (Int32.toNatClampNeg 7))) (qv F)) : Sg 46 0 [some (.ref 3), none, none, none, none, none] [] mi ml (qv F) := by
  refine sg_ld f46_0 (v := .ref 3) rfl rfl ?_
  refine sg_getr f46_1 rfl rfl (w := 8) rfl ?_
  refine sg_psh f46_4 (v := .int 0) (by decide) ?_
  refine sg_ld f46_5 (v := .ref 3) rfl rfl ?_
  refine sg_getr f46_6 rfl rfl (w := 13) rfl ?_
  refine sg_psh f46_9 (v := .int 0) (by decide) ?_
  refine sg_psh f46_10 (v := .int 7) (by decide) ?_
  refine sg_cpl f46_12 rfl rfl (by decide) (by decide) (by decide) (by decide) (by decide) rfl ?_
  refine sg_psh f46_15 (v := .int 0) (by decide) ?_
  refine sg_st1 f46_16 (ls' := [some (.ref 3), some (.int 0), none, none, none, none]) rfl rfl rfl rfl ?_
  exact h

set_option maxRecDepth 10000 in
theorem rg46_17 {mi : Mi} {ml : Ml} {F : Mi → Ml → Prop} {x1 : Int32}  (h : (((mi 1 0) ≤ x1) → F mi ml) ∧ (¬ ((mi 1 0) ≤ x1) → (vp_in x1 7) ∧ (Sg 46 45 [some (.ref 3), some (.int x1), some (.int 0), none, none, none] [] (va_up mi 14 (va_up (mi 14) (Int32.toNatClampNeg x1) (mi 2 (Int32.toNatClampNeg x1)))) ml (qv F)))) : Sg 46 17 [some (.ref 3), some (.int x1), none, none, none, none] [] mi ml (qv F) := by
  refine sg_ld f46_17 (v := .int x1) rfl rfl ?_
  refine sg_ld f46_18 (v := .ref 3) rfl rfl ?_
  refine sg_getr f46_19 rfl rfl (w := 1) rfl ?_
  refine sg_geti f46_22 rfl rfl (x := (mi 1 0)) rfl ?_
  refine sg_icmp f46_25 (fun c => ?_) (fun c => ?_)
  · have h := h.1 c
    exact sg_ret f46_158 pq46 rfl h
  · have h := h.2 c
    refine sg_ld f46_28 (v := .ref 3) rfl rfl ?_
    refine sg_getr f46_29 rfl rfl (w := 14) rfl ?_
    refine sg_ld f46_32 (v := .int x1) rfl rfl ?_
    refine sg_ld f46_33 (v := .ref 3) rfl rfl ?_
    refine sg_getr f46_34 rfl rfl (w := 1) rfl ?_
    refine sg_getr f46_37 rfl rfl (w := 2) rfl ?_
    refine sg_ld f46_40 (v := .int x1) rfl rfl ?_
    obtain ⟨e1, h⟩ := h
    refine sg_iald f46_41 rfl e1 (x := (mi 2 (Int32.toNatClampNeg x1))) rfl ?_
    refine sg_iast f46_42 rfl e1 ?_
    refine sg_psh f46_43 (v := .int 0) (by decide) ?_
    refine sg_st1 f46_44 (ls' := [some (.ref 3), some (.int x1), some (.int 0), none, none, none]) rfl rfl rfl rfl ?_
    exact h

set_option maxRecDepth 10000 in
theorem rg46_45 {mi : Mi} {ml : Ml} {F : Mi → Ml → Prop} {x1 : Int32} {x2 : Int32}  (h : (((mi 1 1) ≤ x2) → Sg 46 17 [some (.ref 3), some (.int (x1 + 1)), none, none, none, none] [] mi ml (qv F)) ∧ (¬ ((mi 1 1) ≤ x2) → (vp_in x1 7) ∧ (((¬ ((mi 14 (Int32.toNatClampNeg x1)) &&& ((1 <<< (x2 &&& 31)) ^^^ (-1))) = (mi 14 (Int32.toNatClampNeg x1))) → Sg 62 0 [some (.ref 4), some (.int ((mi 14 (Int32.toNatClampNeg x1)) &&& ((1 <<< (x2 &&& 31)) ^^^ (-1)))), none, none, none] [] mi ml (ql fun y2 mi3 ml4 => Sg 35 0 [some (.ref 4), some (.ref 13), some (.int 0), some (.int ((mi3 1 0) - 1)), none, none, none] [] mi3 (va_up ml4 13 (va_up (ml4 13) (Int32.toNatClampNeg x1) y2)) (qi fun y5 mi6 ml7 => ((y5 = 0) → Sg 46 45 [some (.ref 3), some (.int x1), some (.int (x2 + 1)), none, none, none] [] (va_up mi6 14 (va_up (mi6 14) (Int32.toNatClampNeg x1) ((mi 14 (Int32.toNatClampNeg x1)) &&& ((1 <<< (x2 &&& 31)) ^^^ (-1))))) ml7 (qv F)) ∧ (¬ (y5 = 0) → Sg 46 45 [some (.ref 3), some (.int x1), some (.int (x2 + 1)), none, none, none] [] mi6 (va_up ml7 13 (va_up (ml7 13) (Int32.toNatClampNeg x1) (ml 13 (Int32.toNatClampNeg x1)))) (qv F))))) ∧ (¬ (¬ ((mi 14 (Int32.toNatClampNeg x1)) &&& ((1 <<< (x2 &&& 31)) ^^^ (-1))) = (mi 14 (Int32.toNatClampNeg x1))) → Sg 46 45 [some (.ref 3), some (.int x1), some (.int (x2 + 1)), none, none, none] [] mi ml (qv F))))) : Sg 46 45 [some (.ref 3), some (.int x1), some (.int x2), none, none, none] [] mi ml (qv F) := by
  refine sg_ld f46_45 (v := .int x2) rfl rfl ?_
  refine sg_ld f46_46 (v := .ref 3) rfl rfl ?_
  refine sg_getr f46_47 rfl rfl (w := 1) rfl ?_
  refine sg_geti f46_50 rfl rfl (x := (mi 1 1)) rfl ?_
  refine sg_icmp f46_53 (fun c => ?_) (fun c => ?_)
  · have h := h.1 c
    refine sg_inc f46_152 (d := 1) (ls' := [some (.ref 3), some (.int (x1 + 1)), some (.int x2), none, none, none]) rfl (by decide) rfl ?_
    refine sg_goto f46_155 ?_
    exact sg_drop [2] rfl h
  · have h := h.2 c
    refine sg_ld f46_56 (v := .ref 3) rfl rfl ?_
    refine sg_getr f46_57 rfl rfl (w := 14) rfl ?_
    refine sg_ld f46_60 (v := .int x1) rfl rfl ?_
    obtain ⟨e1, h⟩ := h
    refine sg_iald f46_61 rfl e1 (x := (mi 14 (Int32.toNatClampNeg x1))) rfl ?_
    refine sg_psh f46_62 (v := .int 1) (by decide) ?_
    refine sg_ld f46_63 (v := .int x2) rfl rfl ?_
    refine sg_bin f46_64 rfl ?_
    refine sg_psh f46_65 (v := .int (-1)) (by decide) ?_
    refine sg_bin f46_66 rfl ?_
    refine sg_bin f46_67 rfl ?_
    refine sg_st1 f46_68 (ls' := [some (.ref 3), some (.int x1), some (.int x2), some (.int ((mi 14 (Int32.toNatClampNeg x1)) &&& ((1 <<< (x2 &&& 31)) ^^^ (-1)))), none, none]) rfl rfl rfl rfl ?_
    refine sg_ld f46_69 (v := .int ((mi 14 (Int32.toNatClampNeg x1)) &&& ((1 <<< (x2 &&& 31)) ^^^ (-1)))) rfl rfl ?_
    refine sg_ld f46_70 (v := .ref 3) rfl rfl ?_
    refine sg_getr f46_71 rfl rfl (w := 14) rfl ?_
    refine sg_ld f46_74 (v := .int x1) rfl rfl ?_
    refine sg_iald f46_75 rfl e1 (x := (mi 14 (Int32.toNatClampNeg x1))) rfl ?_
    refine sg_icmp f46_76 (fun c => ?_) (fun c => ?_)
    · have h := h.1 c
      refine sg_ld f46_82 (v := .ref 3) rfl rfl ?_
      refine sg_getr f46_83 rfl rfl (w := 13) rfl ?_
      refine sg_ld f46_86 (v := .int x1) rfl rfl ?_
      refine sg_lald f46_87 rfl e1 (x := (ml 13 (Int32.toNatClampNeg x1))) rfl ?_
      refine sg_st2 f46_88 (ls' := [some (.ref 3), some (.int x1), some (.int x2), some (.int ((mi 14 (Int32.toNatClampNeg x1)) &&& ((1 <<< (x2 &&& 31)) ^^^ (-1)))), some (.long (ml 13 (Int32.toNatClampNeg x1))), none]) rfl rfl rfl ?_
      refine sg_ld f46_90 (v := .ref 3) rfl rfl ?_
      refine sg_getr f46_91 rfl rfl (w := 13) rfl ?_
      refine sg_ld f46_94 (v := .int x1) rfl rfl ?_
      refine sg_ld f46_95 (v := .ref 3) rfl rfl ?_
      refine sg_getr f46_96 rfl rfl (w := 4) rfl ?_
      refine sg_ld f46_99 (v := .int ((mi 14 (Int32.toNatClampNeg x1)) &&& ((1 <<< (x2 &&& 31)) ^^^ (-1)))) rfl rfl ?_
      refine sg_cV f46_100 (vs := [.int ((mi 14 (Int32.toNatClampNeg x1)) &&& ((1 <<< (x2 &&& 31)) ^^^ (-1)))]) (r := 4) (rest := [.int x1, .ref 13]) (en := [some (.ref 4), some (.int ((mi 14 (Int32.toNatClampNeg x1)) &&& ((1 <<< (x2 &&& 31)) ^^^ (-1)))), none, none, none]) pq62 ⟨rfl, rfl⟩ rfl rfl rfl rfl rfl rfl h ?_
      rintro _ mi3 ml4 ⟨y2, rfl, h⟩
      refine sg_last f46_103 rfl e1 ?_
      refine sg_ld f46_104 (v := .ref 3) rfl rfl ?_
      refine sg_getr f46_105 rfl rfl (w := 4) rfl ?_
      refine sg_ld f46_108 (v := .ref 3) rfl rfl ?_
      refine sg_getr f46_109 rfl rfl (w := 13) rfl ?_
      refine sg_psh f46_112 (v := .int 0) (by decide) ?_
      refine sg_ld f46_113 (v := .ref 3) rfl rfl ?_
      refine sg_getr f46_114 rfl rfl (w := 1) rfl ?_
      refine sg_geti f46_117 rfl rfl (x := (mi3 1 0)) rfl ?_
      refine sg_psh f46_120 (v := .int 1) (by decide) ?_
      refine sg_bin f46_121 rfl ?_
      refine sg_cS f46_122 (vs := [.ref 4, .ref 13, .int 0, .int ((mi3 1 0) - 1)]) (rest := []) (en := [some (.ref 4), some (.ref 13), some (.int 0), some (.int ((mi3 1 0) - 1)), none, none, none]) (by decide) pq35 ⟨rfl, rfl⟩ rfl rfl rfl rfl rfl h ?_
      rintro _ mi6 ml7 ⟨y5, rfl, h⟩
      refine sg_if f46_125 (fun c => ?_) (fun c => ?_)
      · have h := h.1 c
        refine sg_ld f46_139 (v := .ref 3) rfl rfl ?_
        refine sg_getr f46_140 rfl rfl (w := 14) rfl ?_
        refine sg_ld f46_143 (v := .int x1) rfl rfl ?_
        refine sg_ld f46_144 (v := .int ((mi 14 (Int32.toNatClampNeg x1)) &&& ((1 <<< (x2 &&& 31)) ^^^ (-1)))) rfl rfl ?_
        refine sg_iast f46_145 rfl e1 ?_
        refine sg_inc f46_146 (d := 1) (ls' := [some (.ref 3), some (.int x1), some (.int (x2 + 1)), some (.int ((mi 14 (Int32.toNatClampNeg x1)) &&& ((1 <<< (x2 &&& 31)) ^^^ (-1)))), some (.long (ml 13 (Int32.toNatClampNeg x1))), none]) rfl (by decide) rfl ?_
        refine sg_goto f46_149 ?_
        exact sg_drop [3, 4] rfl h
      · have h := h.2 c
        refine sg_ld f46_128 (v := .ref 3) rfl rfl ?_
        refine sg_getr f46_129 rfl rfl (w := 13) rfl ?_
        refine sg_ld f46_132 (v := .int x1) rfl rfl ?_
        refine sg_ld f46_133 (v := .long (ml 13 (Int32.toNatClampNeg x1))) rfl rfl ?_
        refine sg_last f46_135 rfl e1 ?_
        refine sg_goto f46_136 ?_
        refine sg_inc f46_146 (d := 1) (ls' := [some (.ref 3), some (.int x1), some (.int (x2 + 1)), some (.int ((mi 14 (Int32.toNatClampNeg x1)) &&& ((1 <<< (x2 &&& 31)) ^^^ (-1)))), some (.long (ml 13 (Int32.toNatClampNeg x1))), none]) rfl (by decide) rfl ?_
        refine sg_goto f46_149 ?_
        exact sg_drop [3, 4] rfl h
    · have h := h.2 c
      refine sg_goto f46_79 ?_
      refine sg_inc f46_146 (d := 1) (ls' := [some (.ref 3), some (.int x1), some (.int (x2 + 1)), some (.int ((mi 14 (Int32.toNatClampNeg x1)) &&& ((1 <<< (x2 &&& 31)) ^^^ (-1)))), none, none]) rfl (by decide) rfl ?_
      refine sg_goto f46_149 ?_
      exact sg_drop [3] rfl h

/-! X3_leastLength ()I -/
theorem fe47 (pc : Nat) : gm_fetch 47 pc = gm_find pc cd_47 := rfl
theorem f47_0 : gm_fetch 47 0 = some (1, .iconst 0, 0, 0, 0, 0) := (fe47 0).trans rfl
theorem f47_1 : gm_fetch 47 1 = some (2, .istore_n 1, 0, 0, 0, 0) := (fe47 1).trans rfl
theorem f47_2 : gm_fetch 47 2 = some (3, .iload_n 1, 0, 0, 0, 0) := (fe47 2).trans rfl
theorem f47_3 : gm_fetch 47 3 = some (5, .bipush 6, 0, 0, 0, 0) := (fe47 3).trans rfl
theorem f47_5 : gm_fetch 47 5 = some (8, .if_icmp .gt 48, 0, 53, 0, 0) := (fe47 5).trans rfl
theorem f47_8 : gm_fetch 47 8 = some (9, .aload_n 0, 0, 0, 0, 0) := (fe47 8).trans rfl
theorem f47_9 : gm_fetch 47 9 = some (12, .getfield 22, 40, 3, 3, 0) := (fe47 9).trans rfl
theorem f47_12 : gm_fetch 47 12 = some (13, .aload_n 0, 0, 0, 0, 0) := (fe47 12).trans rfl
theorem f47_13 : gm_fetch 47 13 = some (16, .getfield 41, 37, 3, 0, 0) := (fe47 13).trans rfl
theorem f47_16 : gm_fetch 47 16 = some (19, .getfield 54, 6, 0, 1, 0) := (fe47 16).trans rfl
theorem f47_19 : gm_fetch 47 19 = some (20, .aload_n 0, 0, 0, 0, 0) := (fe47 19).trans rfl
theorem f47_20 : gm_fetch 47 20 = some (23, .getfield 41, 37, 3, 0, 0) := (fe47 20).trans rfl
theorem f47_23 : gm_fetch 47 23 = some (26, .getfield 57, 11, 0, 2, 0) := (fe47 23).trans rfl
theorem f47_26 : gm_fetch 47 26 = some (27, .iload_n 1, 0, 0, 0, 0) := (fe47 26).trans rfl
theorem f47_27 : gm_fetch 47 27 = some (30, .invokevirtual 63, 43, 56, 0, 0) := (fe47 27).trans rfl
theorem f47_30 : gm_fetch 47 30 = some (31, .aload_n 0, 0, 0, 0, 0) := (fe47 30).trans rfl
theorem f47_31 : gm_fetch 47 31 = some (32, .aload_n 0, 0, 0, 0, 0) := (fe47 31).trans rfl
theorem f47_32 : gm_fetch 47 32 = some (35, .getfield 22, 40, 3, 3, 0) := (fe47 32).trans rfl
theorem f47_35 : gm_fetch 47 35 = some (36, .aload_n 0, 0, 0, 0, 0) := (fe47 35).trans rfl
theorem f47_36 : gm_fetch 47 36 = some (39, .getfield 25, 41, 3, 4, 0) := (fe47 36).trans rfl
theorem f47_39 : gm_fetch 47 39 = some (42, .invokevirtual 67, 49, 34, 0, 0) := (fe47 39).trans rfl
theorem f47_42 : gm_fetch 47 42 = some (45, .ifCond .eq 5, 0, 47, 0, 0) := (fe47 42).trans rfl
theorem f47_45 : gm_fetch 47 45 = some (46, .iload_n 1, 0, 0, 0, 0) := (fe47 45).trans rfl
theorem f47_46 : gm_fetch 47 46 = some (47, .ireturn, 0, 0, 0, 0) := (fe47 46).trans rfl
theorem f47_47 : gm_fetch 47 47 = some (50, .iinc 1 1, 0, 0, 0, 0) := (fe47 47).trans rfl
theorem f47_50 : gm_fetch 47 50 = some (53, .goto (-48), 0, 2, 0, 0) := (fe47 50).trans rfl
theorem f47_53 : gm_fetch 47 53 = some (54, .iconst (-1), 0, 0, 0, 0) := (fe47 53).trans rfl
theorem f47_54 : gm_fetch 47 54 = some (55, .ireturn, 0, 0, 0, 0) := (fe47 54).trans rfl
set_option maxRecDepth 10000 in
theorem rg47_0 {mi : Mi} {ml : Ml} {F : Int32 → Mi → Ml → Prop}   (h : Sg 47 2 [some (.ref 3), some (.int 0)] [] mi ml (qi F)) : Sg 47 0 [some (.ref 3), none] [] mi ml (qi F) := by
  refine sg_psh f47_0 (v := .int 0) (by decide) ?_
  refine sg_st1 f47_1 (ls' := [some (.ref 3), some (.int 0)]) rfl rfl rfl rfl ?_
  exact h

set_option maxRecDepth 10000 in
theorem rg47_2 {mi : Mi} {ml : Ml} {F : Int32 → Mi → Ml → Prop} {x1 : Int32}  (h : ((6 < x1) → F (-1) mi ml) ∧ (¬ (6 < x1) → Sg 56 0 [some (.ref 9), some (.int (mi 1 1)), some (.int (mi 1 2)), some (.int x1), none] [] mi ml (qv fun mi2 ml3 => Sg 34 0 [some (.ref 3), some (.ref 9), some (.ref 13), none] [] mi2 ml3 (qi fun y4 mi5 ml6 => ((y4 = 0) → Sg 47 2 [some (.ref 3), some (.int (x1 + 1))] [] mi5 ml6 (qi F)) ∧ (¬ (y4 = 0) → F x1 mi5 ml6))))) : Sg 47 2 [some (.ref 3), some (.int x1)] [] mi ml (qi F) := by
  refine sg_ld f47_2 (v := .int x1) rfl rfl ?_
  refine sg_psh f47_3 (v := .int 6) (by decide) ?_
  refine sg_icmp f47_5 (fun c => ?_) (fun c => ?_)
  · have h := h.1 c
    refine sg_psh f47_53 (v := .int (-1)) (by decide) ?_
    exact sg_iret f47_54 pq47 rfl rfl ⟨_, rfl, h⟩
  · have h := h.2 c
    refine sg_ld f47_8 (v := .ref 3) rfl rfl ?_
    refine sg_getr f47_9 rfl rfl (w := 9) rfl ?_
    refine sg_ld f47_12 (v := .ref 3) rfl rfl ?_
    refine sg_getr f47_13 rfl rfl (w := 1) rfl ?_
    refine sg_geti f47_16 rfl rfl (x := (mi 1 1)) rfl ?_
    refine sg_ld f47_19 (v := .ref 3) rfl rfl ?_
    refine sg_getr f47_20 rfl rfl (w := 1) rfl ?_
    refine sg_geti f47_23 rfl rfl (x := (mi 1 2)) rfl ?_
    refine sg_ld f47_26 (v := .int x1) rfl rfl ?_
    refine sg_cV f47_27 (vs := [.int (mi 1 1), .int (mi 1 2), .int x1]) (r := 9) (rest := []) (en := [some (.ref 9), some (.int (mi 1 1)), some (.int (mi 1 2)), some (.int x1), none]) pq56 ⟨rfl, rfl⟩ rfl rfl rfl rfl rfl rfl h ?_
    intro _ mi2 ml3 h
    have h := gm_qv h
    refine sg_ld f47_30 (v := .ref 3) rfl rfl ?_
    refine sg_ld f47_31 (v := .ref 3) rfl rfl ?_
    refine sg_getr f47_32 rfl rfl (w := 9) rfl ?_
    refine sg_ld f47_35 (v := .ref 3) rfl rfl ?_
    refine sg_getr f47_36 rfl rfl (w := 13) rfl ?_
    refine sg_cV f47_39 (vs := [.ref 9, .ref 13]) (r := 3) (rest := []) (en := [some (.ref 3), some (.ref 9), some (.ref 13), none]) pq34 ⟨rfl, rfl⟩ rfl rfl rfl rfl rfl rfl h ?_
    rintro _ mi5 ml6 ⟨y4, rfl, h⟩
    refine sg_if f47_42 (fun c => ?_) (fun c => ?_)
    · have h := h.1 c
      refine sg_inc f47_47 (d := 1) (ls' := [some (.ref 3), some (.int (x1 + 1))]) rfl (by decide) rfl ?_
      refine sg_goto f47_50 ?_
      exact h
    · have h := h.2 c
      refine sg_ld f47_45 (v := .int x1) rfl rfl ?_
      exact sg_iret f47_46 pq47 rfl rfl ⟨_, rfl, h⟩

/-! X3_greatestWish ()I -/
theorem fe48 (pc : Nat) : gm_fetch 48 pc = gm_find pc cd_48 := rfl
theorem f48_0 : gm_fetch 48 0 = some (1, .aload_n 0, 0, 0, 0, 0) := (fe48 0).trans rfl
theorem f48_1 : gm_fetch 48 1 = some (4, .getfield 41, 37, 3, 0, 0) := (fe48 1).trans rfl
theorem f48_4 : gm_fetch 48 4 = some (7, .getfield 54, 6, 0, 1, 0) := (fe48 4).trans rfl
theorem f48_7 : gm_fetch 48 7 = some (8, .istore_n 1, 0, 0, 0, 0) := (fe48 7).trans rfl
theorem f48_8 : gm_fetch 48 8 = some (9, .iload_n 1, 0, 0, 0, 0) := (fe48 8).trans rfl
theorem f48_9 : gm_fetch 48 9 = some (10, .iconst 1, 0, 0, 0, 0) := (fe48 9).trans rfl
theorem f48_10 : gm_fetch 48 10 = some (13, .if_icmp .lt 48, 0, 58, 0, 0) := (fe48 10).trans rfl
theorem f48_13 : gm_fetch 48 13 = some (14, .aload_n 0, 0, 0, 0, 0) := (fe48 13).trans rfl
theorem f48_14 : gm_fetch 48 14 = some (17, .getfield 22, 40, 3, 3, 0) := (fe48 14).trans rfl
theorem f48_17 : gm_fetch 48 17 = some (18, .aload_n 0, 0, 0, 0, 0) := (fe48 17).trans rfl
theorem f48_18 : gm_fetch 48 18 = some (21, .getfield 41, 37, 3, 0, 0) := (fe48 18).trans rfl
theorem f48_21 : gm_fetch 48 21 = some (24, .getfield 54, 6, 0, 1, 0) := (fe48 21).trans rfl
theorem f48_24 : gm_fetch 48 24 = some (25, .iload_n 1, 0, 0, 0, 0) := (fe48 24).trans rfl
theorem f48_25 : gm_fetch 48 25 = some (26, .aload_n 0, 0, 0, 0, 0) := (fe48 25).trans rfl
theorem f48_26 : gm_fetch 48 26 = some (29, .getfield 41, 37, 3, 0, 0) := (fe48 26).trans rfl
theorem f48_29 : gm_fetch 48 29 = some (32, .getfield 60, 15, 0, 3, 0) := (fe48 29).trans rfl
theorem f48_32 : gm_fetch 48 32 = some (35, .invokevirtual 63, 43, 56, 0, 0) := (fe48 32).trans rfl
theorem f48_35 : gm_fetch 48 35 = some (36, .aload_n 0, 0, 0, 0, 0) := (fe48 35).trans rfl
theorem f48_36 : gm_fetch 48 36 = some (37, .aload_n 0, 0, 0, 0, 0) := (fe48 36).trans rfl
theorem f48_37 : gm_fetch 48 37 = some (40, .getfield 22, 40, 3, 3, 0) := (fe48 37).trans rfl
theorem f48_40 : gm_fetch 48 40 = some (41, .aload_n 0, 0, 0, 0, 0) := (fe48 40).trans rfl
theorem f48_41 : gm_fetch 48 41 = some (44, .getfield 25, 41, 3, 4, 0) := (fe48 41).trans rfl
theorem f48_44 : gm_fetch 48 44 = some (47, .invokevirtual 67, 49, 34, 0, 0) := (fe48 44).trans rfl
theorem f48_47 : gm_fetch 48 47 = some (50, .ifCond .eq 5, 0, 52, 0, 0) := (fe48 47).trans rfl
theorem f48_50 : gm_fetch 48 50 = some (51, .iload_n 1, 0, 0, 0, 0) := (fe48 50).trans rfl
theorem f48_51 : gm_fetch 48 51 = some (52, .ireturn, 0, 0, 0, 0) := (fe48 51).trans rfl
theorem f48_52 : gm_fetch 48 52 = some (55, .iinc 1 (-1), 0, 0, 0, 0) := (fe48 52).trans rfl
theorem f48_55 : gm_fetch 48 55 = some (58, .goto (-47), 0, 8, 0, 0) := (fe48 55).trans rfl
theorem f48_58 : gm_fetch 48 58 = some (59, .iconst (-1), 0, 0, 0, 0) := (fe48 58).trans rfl
theorem f48_59 : gm_fetch 48 59 = some (60, .ireturn, 0, 0, 0, 0) := (fe48 59).trans rfl
set_option maxRecDepth 10000 in
theorem rg48_0 {mi : Mi} {ml : Ml} {F : Int32 → Mi → Ml → Prop}   (h : Sg 48 8 [some (.ref 3), some (.int (mi 1 1))] [] mi ml (qi F)) : Sg 48 0 [some (.ref 3), none] [] mi ml (qi F) := by
  refine sg_ld f48_0 (v := .ref 3) rfl rfl ?_
  refine sg_getr f48_1 rfl rfl (w := 1) rfl ?_
  refine sg_geti f48_4 rfl rfl (x := (mi 1 1)) rfl ?_
  refine sg_st1 f48_7 (ls' := [some (.ref 3), some (.int (mi 1 1))]) rfl rfl rfl rfl ?_
  exact h

set_option maxRecDepth 10000 in
theorem rg48_8 {mi : Mi} {ml : Ml} {F : Int32 → Mi → Ml → Prop} {x1 : Int32}  (h : ((x1 < 1) → F (-1) mi ml) ∧ (¬ (x1 < 1) → Sg 56 0 [some (.ref 9), some (.int (mi 1 1)), some (.int x1), some (.int (mi 1 3)), none] [] mi ml (qv fun mi2 ml3 => Sg 34 0 [some (.ref 3), some (.ref 9), some (.ref 13), none] [] mi2 ml3 (qi fun y4 mi5 ml6 => ((y4 = 0) → Sg 48 8 [some (.ref 3), some (.int (x1 + (-1)))] [] mi5 ml6 (qi F)) ∧ (¬ (y4 = 0) → F x1 mi5 ml6))))) : Sg 48 8 [some (.ref 3), some (.int x1)] [] mi ml (qi F) := by
  refine sg_ld f48_8 (v := .int x1) rfl rfl ?_
  refine sg_psh f48_9 (v := .int 1) (by decide) ?_
  refine sg_icmp f48_10 (fun c => ?_) (fun c => ?_)
  · have h := h.1 c
    refine sg_psh f48_58 (v := .int (-1)) (by decide) ?_
    exact sg_iret f48_59 pq48 rfl rfl ⟨_, rfl, h⟩
  · have h := h.2 c
    refine sg_ld f48_13 (v := .ref 3) rfl rfl ?_
    refine sg_getr f48_14 rfl rfl (w := 9) rfl ?_
    refine sg_ld f48_17 (v := .ref 3) rfl rfl ?_
    refine sg_getr f48_18 rfl rfl (w := 1) rfl ?_
    refine sg_geti f48_21 rfl rfl (x := (mi 1 1)) rfl ?_
    refine sg_ld f48_24 (v := .int x1) rfl rfl ?_
    refine sg_ld f48_25 (v := .ref 3) rfl rfl ?_
    refine sg_getr f48_26 rfl rfl (w := 1) rfl ?_
    refine sg_geti f48_29 rfl rfl (x := (mi 1 3)) rfl ?_
    refine sg_cV f48_32 (vs := [.int (mi 1 1), .int x1, .int (mi 1 3)]) (r := 9) (rest := []) (en := [some (.ref 9), some (.int (mi 1 1)), some (.int x1), some (.int (mi 1 3)), none]) pq56 ⟨rfl, rfl⟩ rfl rfl rfl rfl rfl rfl h ?_
    intro _ mi2 ml3 h
    have h := gm_qv h
    refine sg_ld f48_35 (v := .ref 3) rfl rfl ?_
    refine sg_ld f48_36 (v := .ref 3) rfl rfl ?_
    refine sg_getr f48_37 rfl rfl (w := 9) rfl ?_
    refine sg_ld f48_40 (v := .ref 3) rfl rfl ?_
    refine sg_getr f48_41 rfl rfl (w := 13) rfl ?_
    refine sg_cV f48_44 (vs := [.ref 9, .ref 13]) (r := 3) (rest := []) (en := [some (.ref 3), some (.ref 9), some (.ref 13), none]) pq34 ⟨rfl, rfl⟩ rfl rfl rfl rfl rfl rfl h ?_
    rintro _ mi5 ml6 ⟨y4, rfl, h⟩
    refine sg_if f48_47 (fun c => ?_) (fun c => ?_)
    · have h := h.1 c
      refine sg_inc f48_52 (d := (-1)) (ls' := [some (.ref 3), some (.int (x1 + (-1)))]) rfl (by decide) rfl ?_
      refine sg_goto f48_55 ?_
      exact h
    · have h := h.2 c
      refine sg_ld f48_50 (v := .int x1) rfl rfl ?_
      exact sg_iret f48_51 pq48 rfl rfl ⟨_, rfl, h⟩

/-! X3_fewestMoves (LGridMender$Laying;)I -/
theorem fe49 (pc : Nat) : gm_fetch 49 pc = gm_find pc cd_49 := rfl
theorem f49_0 : gm_fetch 49 0 = some (1, .aload_n 0, 0, 0, 0, 0) := (fe49 0).trans rfl
theorem f49_1 : gm_fetch 49 1 = some (4, .invokevirtual 93, 42, 33, 0, 0) := (fe49 1).trans rfl
theorem f49_4 : gm_fetch 49 4 = some (5, .aload_n 0, 0, 0, 0, 0) := (fe49 4).trans rfl
theorem f49_5 : gm_fetch 49 5 = some (8, .getfield 71, 46, 3, 9, 0) := (fe49 5).trans rfl
theorem f49_8 : gm_fetch 49 8 = some (11, .ifCond .ne 5, 0, 13, 0, 0) := (fe49 8).trans rfl
theorem f49_11 : gm_fetch 49 11 = some (12, .iconst (-1), 0, 0, 0, 0) := (fe49 11).trans rfl
theorem f49_12 : gm_fetch 49 12 = some (13, .ireturn, 0, 0, 0, 0) := (fe49 12).trans rfl
theorem f49_13 : gm_fetch 49 13 = some (14, .aload_n 0, 0, 0, 0, 0) := (fe49 13).trans rfl
theorem f49_14 : gm_fetch 49 14 = some (17, .getfield 41, 37, 3, 0, 0) := (fe49 14).trans rfl
theorem f49_17 : gm_fetch 49 17 = some (20, .getfield 75, 1, 0, 0, 0) := (fe49 17).trans rfl
theorem f49_20 : gm_fetch 49 20 = some (21, .iconst 1, 0, 0, 0, 0) := (fe49 20).trans rfl
theorem f49_21 : gm_fetch 49 21 = some (22, .isub, 0, 0, 0, 0) := (fe49 21).trans rfl
theorem f49_22 : gm_fetch 49 22 = some (23, .istore_n 2, 0, 0, 0, 0) := (fe49 22).trans rfl
theorem f49_23 : gm_fetch 49 23 = some (24, .iload_n 2, 0, 0, 0, 0) := (fe49 23).trans rfl
theorem f49_24 : gm_fetch 49 24 = some (27, .ifCond .lt 26, 0, 50, 0, 0) := (fe49 24).trans rfl
theorem f49_27 : gm_fetch 49 27 = some (28, .aload_n 0, 0, 0, 0, 0) := (fe49 27).trans rfl
theorem f49_28 : gm_fetch 49 28 = some (29, .iload_n 2, 0, 0, 0, 0) := (fe49 28).trans rfl
theorem f49_29 : gm_fetch 49 29 = some (30, .aload_n 1, 0, 0, 0, 0) := (fe49 29).trans rfl
theorem f49_30 : gm_fetch 49 30 = some (31, .iload_n 2, 0, 0, 0, 0) := (fe49 30).trans rfl
theorem f49_31 : gm_fetch 49 31 = some (32, .aload_n 0, 0, 0, 0, 0) := (fe49 31).trans rfl
theorem f49_32 : gm_fetch 49 32 = some (35, .getfield 41, 37, 3, 0, 0) := (fe49 32).trans rfl
theorem f49_35 : gm_fetch 49 35 = some (38, .getfield 57, 11, 0, 2, 0) := (fe49 35).trans rfl
theorem f49_38 : gm_fetch 49 38 = some (41, .invokevirtual 138, 80, 28, 0, 0) := (fe49 38).trans rfl
theorem f49_41 : gm_fetch 49 41 = some (44, .invokevirtual 144, 81, 50, 0, 0) := (fe49 41).trans rfl
theorem f49_44 : gm_fetch 49 44 = some (47, .iinc 2 (-1), 0, 0, 0, 0) := (fe49 44).trans rfl
theorem f49_47 : gm_fetch 49 47 = some (50, .goto (-24), 0, 23, 0, 0) := (fe49 47).trans rfl
theorem f49_50 : gm_fetch 49 50 = some (51, .aload_n 0, 0, 0, 0, 0) := (fe49 50).trans rfl
theorem f49_51 : gm_fetch 49 51 = some (52, .iconst 0, 0, 0, 0, 0) := (fe49 51).trans rfl
theorem f49_52 : gm_fetch 49 52 = some (53, .aload_n 0, 0, 0, 0, 0) := (fe49 52).trans rfl
theorem f49_53 : gm_fetch 49 53 = some (56, .getfield 18, 39, 3, 2, 0) := (fe49 53).trans rfl
theorem f49_56 : gm_fetch 49 56 = some (57, .iconst 0, 0, 0, 0, 0) := (fe49 56).trans rfl
theorem f49_57 : gm_fetch 49 57 = some (58, .laload, 0, 0, 0, 0) := (fe49 57).trans rfl
theorem f49_58 : gm_fetch 49 58 = some (61, .invokevirtual 148, 87, 53, 0, 0) := (fe49 58).trans rfl
theorem f49_61 : gm_fetch 49 61 = some (62, .istore_n 2, 0, 0, 0, 0) := (fe49 61).trans rfl
theorem f49_62 : gm_fetch 49 62 = some (63, .iload_n 2, 0, 0, 0, 0) := (fe49 62).trans rfl
theorem f49_63 : gm_fetch 49 63 = some (64, .iconst (-1), 0, 0, 0, 0) := (fe49 63).trans rfl
theorem f49_64 : gm_fetch 49 64 = some (67, .if_icmp .ne 7, 0, 71, 0, 0) := (fe49 64).trans rfl
theorem f49_67 : gm_fetch 49 67 = some (68, .iconst (-1), 0, 0, 0, 0) := (fe49 67).trans rfl
theorem f49_68 : gm_fetch 49 68 = some (71, .goto 9, 0, 77, 0, 0) := (fe49 68).trans rfl
theorem f49_71 : gm_fetch 49 71 = some (72, .aload_n 0, 0, 0, 0, 0) := (fe49 71).trans rfl
theorem f49_72 : gm_fetch 49 72 = some (75, .getfield 35, 44, 3, 7, 0) := (fe49 72).trans rfl
theorem f49_75 : gm_fetch 49 75 = some (76, .iload_n 2, 0, 0, 0, 0) := (fe49 75).trans rfl
theorem f49_76 : gm_fetch 49 76 = some (77, .iaload, 0, 0, 0, 0) := (fe49 76).trans rfl
theorem f49_77 : gm_fetch 49 77 = some (78, .ireturn, 0, 0, 0, 0) := (fe49 77).trans rfl
set_option maxRecDepth 10000 in
theorem rg49_0 {mi : Mi} {ml : Ml} {F : Int32 → Mi → Ml → Prop}   (h : Sg 33 0 [some (.ref 3)] [] mi ml (qv fun mi2 ml3 => ((¬ (mi2 3 9) = 0) → Sg 49 23 [some (.ref 3), some (.ref 23), some (.int ((mi2 1 0) - 1))] [] mi2 ml3 (qi F)) ∧ (¬ (¬ (mi2 3 9) = 0) → F (-1) mi2 ml3))) : Sg 49 0 [some (.ref 3), some (.ref 23), none] [] mi ml (qi F) := by
  refine sg_ld f49_0 (v := .ref 3) rfl rfl ?_
  refine sg_cV f49_1 (vs := []) (r := 3) (rest := []) (en := [some (.ref 3)]) pq33 ⟨rfl, rfl⟩ rfl rfl rfl rfl rfl rfl h ?_
  intro _ mi2 ml3 h
  have h := gm_qv h
  refine sg_ld f49_4 (v := .ref 3) rfl rfl ?_
  refine sg_geti f49_5 rfl rfl (x := (mi2 3 9)) rfl ?_
  refine sg_if f49_8 (fun c => ?_) (fun c => ?_)
  · have h := h.1 c
    refine sg_ld f49_13 (v := .ref 3) rfl rfl ?_
    refine sg_getr f49_14 rfl rfl (w := 1) rfl ?_
    refine sg_geti f49_17 rfl rfl (x := (mi2 1 0)) rfl ?_
    refine sg_psh f49_20 (v := .int 1) (by decide) ?_
    refine sg_bin f49_21 rfl ?_
    refine sg_st1 f49_22 (ls' := [some (.ref 3), some (.ref 23), some (.int ((mi2 1 0) - 1))]) rfl rfl rfl rfl ?_
    exact h
  · have h := h.2 c
    refine sg_psh f49_11 (v := .int (-1)) (by decide) ?_
    exact sg_iret f49_12 pq49 rfl rfl ⟨_, rfl, h⟩

set_option maxRecDepth 10000 in
theorem rg49_23 {mi : Mi} {ml : Ml} {F : Int32 → Mi → Ml → Prop} {x2 : Int32}  (h : ((x2 < 0) → Sg 53 0 [some (.ref 3), some (.int 0), some (.long (ml 8 (Int32.toNatClampNeg 0))), none, none, none, none] [] mi ml (qi fun y1 mi2 ml3 => ((¬ y1 = (-1)) → (vp_in y1 245) ∧ (F (mi2 16 (Int32.toNatClampNeg y1)) mi2 ml3)) ∧ (¬ (¬ y1 = (-1)) → F (-1) mi2 ml3))) ∧ (¬ (x2 < 0) → Sg 28 0 [some (.ref 23), some (.int x2), some (.int (mi 1 2))] [] mi ml (qi fun y5 mi6 ml7 => Sg 50 0 [some (.ref 3), some (.int x2), some (.int y5), none] [] mi6 ml7 (qv fun mi9 ml10 => Sg 49 23 [some (.ref 3), some (.ref 23), some (.int (x2 + (-1)))] [] mi9 ml10 (qi F))))) : Sg 49 23 [some (.ref 3), some (.ref 23), some (.int x2)] [] mi ml (qi F) := by
  refine sg_ld f49_23 (v := .int x2) rfl rfl ?_
  refine sg_if f49_24 (fun c => ?_) (fun c => ?_)
  · have h := h.1 c
    refine sg_ld f49_50 (v := .ref 3) rfl rfl ?_
    refine sg_psh f49_51 (v := .int 0) (by decide) ?_
    refine sg_ld f49_52 (v := .ref 3) rfl rfl ?_
    refine sg_getr f49_53 rfl rfl (w := 8) rfl ?_
    refine sg_psh f49_56 (v := .int 0) (by decide) ?_
    refine sg_lald f49_57 rfl (by unfold vp_in; decide) (x := (ml 8 (Int32.toNatClampNeg 0))) rfl ?_
    refine sg_cV f49_58 (vs := [.int 0, .long (ml 8 (Int32.toNatClampNeg 0))]) (r := 3) (rest := []) (en := [some (.ref 3), some (.int 0), some (.long (ml 8 (Int32.toNatClampNeg 0))), none, none, none, none]) pq53 ⟨rfl, rfl⟩ rfl rfl rfl rfl rfl rfl h ?_
    rintro _ mi2 ml3 ⟨y1, rfl, h⟩
    refine sg_st1 f49_61 (ls' := [some (.ref 3), some (.ref 23), some (.int y1)]) rfl rfl rfl rfl ?_
    refine sg_ld f49_62 (v := .int y1) rfl rfl ?_
    refine sg_psh f49_63 (v := .int (-1)) (by decide) ?_
    refine sg_icmp f49_64 (fun c => ?_) (fun c => ?_)
    · have h := h.1 c
      refine sg_ld f49_71 (v := .ref 3) rfl rfl ?_
      refine sg_getr f49_72 rfl rfl (w := 16) rfl ?_
      refine sg_ld f49_75 (v := .int y1) rfl rfl ?_
      obtain ⟨e4, h⟩ := h
      refine sg_iald f49_76 rfl e4 (x := (mi2 16 (Int32.toNatClampNeg y1))) rfl ?_
      exact sg_iret f49_77 pq49 rfl rfl ⟨_, rfl, h⟩
    · have h := h.2 c
      refine sg_psh f49_67 (v := .int (-1)) (by decide) ?_
      refine sg_goto f49_68 ?_
      exact sg_iret f49_77 pq49 rfl rfl ⟨_, rfl, h⟩
  · have h := h.2 c
    refine sg_ld f49_27 (v := .ref 3) rfl rfl ?_
    refine sg_ld f49_28 (v := .int x2) rfl rfl ?_
    refine sg_ld f49_29 (v := .ref 23) rfl rfl ?_
    refine sg_ld f49_30 (v := .int x2) rfl rfl ?_
    refine sg_ld f49_31 (v := .ref 3) rfl rfl ?_
    refine sg_getr f49_32 rfl rfl (w := 1) rfl ?_
    refine sg_geti f49_35 rfl rfl (x := (mi 1 2)) rfl ?_
    refine sg_cV f49_38 (vs := [.int x2, .int (mi 1 2)]) (r := 23) (rest := [.int x2, .ref 3]) (en := [some (.ref 23), some (.int x2), some (.int (mi 1 2))]) pq28 ⟨rfl, rfl⟩ rfl rfl rfl rfl rfl rfl h ?_
    rintro _ mi6 ml7 ⟨y5, rfl, h⟩
    refine sg_cV f49_41 (vs := [.int x2, .int y5]) (r := 3) (rest := []) (en := [some (.ref 3), some (.int x2), some (.int y5), none]) pq50 ⟨rfl, rfl⟩ rfl rfl rfl rfl rfl rfl h ?_
    intro _ mi9 ml10 h
    have h := gm_qv h
    refine sg_inc f49_44 (d := (-1)) (ls' := [some (.ref 3), some (.ref 23), some (.int (x2 + (-1)))]) rfl (by decide) rfl ?_
    refine sg_goto f49_47 ?_
    exact h

/-! X3_addMovesOfRow (II)V -/
theorem fe50 (pc : Nat) : gm_fetch 50 pc = gm_find pc cd_50 := rfl
theorem f50_0 : gm_fetch 50 0 = some (1, .iconst 0, 0, 0, 0, 0) := (fe50 0).trans rfl
theorem f50_1 : gm_fetch 50 1 = some (2, .istore_n 3, 0, 0, 0, 0) := (fe50 1).trans rfl
theorem f50_2 : gm_fetch 50 2 = some (3, .iload_n 3, 0, 0, 0, 0) := (fe50 2).trans rfl
theorem f50_3 : gm_fetch 50 3 = some (4, .aload_n 0, 0, 0, 0, 0) := (fe50 3).trans rfl
theorem f50_4 : gm_fetch 50 4 = some (7, .getfield 41, 37, 3, 0, 0) := (fe50 4).trans rfl
theorem f50_7 : gm_fetch 50 7 = some (10, .getfield 57, 11, 0, 2, 0) := (fe50 7).trans rfl
theorem f50_10 : gm_fetch 50 10 = some (13, .if_icmp .ge 20, 0, 30, 0, 0) := (fe50 10).trans rfl
theorem f50_13 : gm_fetch 50 13 = some (14, .aload_n 0, 0, 0, 0, 0) := (fe50 13).trans rfl
theorem f50_14 : gm_fetch 50 14 = some (17, .getfield 38, 45, 3, 8, 0) := (fe50 14).trans rfl
theorem f50_17 : gm_fetch 50 17 = some (18, .iload_n 3, 0, 0, 0, 0) := (fe50 17).trans rfl
theorem f50_18 : gm_fetch 50 18 = some (19, .iload_n 2, 0, 0, 0, 0) := (fe50 18).trans rfl
theorem f50_19 : gm_fetch 50 19 = some (20, .iload_n 3, 0, 0, 0, 0) := (fe50 19).trans rfl
theorem f50_20 : gm_fetch 50 20 = some (23, .invokestatic 152, 82, 110, 1, 0) := (fe50 20).trans rfl
theorem f50_23 : gm_fetch 50 23 = some (24, .iastore, 0, 0, 0, 0) := (fe50 23).trans rfl
theorem f50_24 : gm_fetch 50 24 = some (27, .iinc 3 1, 0, 0, 0, 0) := (fe50 24).trans rfl
theorem f50_27 : gm_fetch 50 27 = some (30, .goto (-25), 0, 2, 0, 0) := (fe50 27).trans rfl
theorem f50_30 : gm_fetch 50 30 = some (31, .iconst 0, 0, 0, 0, 0) := (fe50 30).trans rfl
theorem f50_31 : gm_fetch 50 31 = some (32, .istore_n 3, 0, 0, 0, 0) := (fe50 31).trans rfl
theorem f50_32 : gm_fetch 50 32 = some (33, .iload_n 3, 0, 0, 0, 0) := (fe50 32).trans rfl
theorem f50_33 : gm_fetch 50 33 = some (34, .aload_n 0, 0, 0, 0, 0) := (fe50 33).trans rfl
theorem f50_34 : gm_fetch 50 34 = some (37, .getfield 12, 38, 3, 1, 0) := (fe50 34).trans rfl
theorem f50_37 : gm_fetch 50 37 = some (40, .getfield 155, 29, 4, 0, 0) := (fe50 37).trans rfl
theorem f50_40 : gm_fetch 50 40 = some (43, .if_icmp .ge 47, 0, 87, 0, 0) := (fe50 40).trans rfl
theorem f50_43 : gm_fetch 50 43 = some (44, .aload_n 0, 0, 0, 0, 0) := (fe50 43).trans rfl
theorem f50_44 : gm_fetch 50 44 = some (47, .getfield 18, 39, 3, 2, 0) := (fe50 44).trans rfl
theorem f50_47 : gm_fetch 50 47 = some (48, .iload_n 1, 0, 0, 0, 0) := (fe50 47).trans rfl
theorem f50_48 : gm_fetch 50 48 = some (49, .laload, 0, 0, 0, 0) := (fe50 48).trans rfl
theorem f50_49 : gm_fetch 50 49 = some (50, .iload_n 3, 0, 0, 0, 0) := (fe50 49).trans rfl
theorem f50_50 : gm_fetch 50 50 = some (51, .lushr, 0, 0, 0, 0) := (fe50 50).trans rfl
theorem f50_51 : gm_fetch 50 51 = some (52, .lconst 1, 0, 0, 0, 0) := (fe50 51).trans rfl
theorem f50_52 : gm_fetch 50 52 = some (53, .land, 0, 0, 0, 0) := (fe50 52).trans rfl
theorem f50_53 : gm_fetch 50 53 = some (54, .lconst 1, 0, 0, 0, 0) := (fe50 53).trans rfl
theorem f50_54 : gm_fetch 50 54 = some (55, .lcmp, 0, 0, 0, 0) := (fe50 54).trans rfl
theorem f50_55 : gm_fetch 50 55 = some (58, .ifCond .ne 26, 0, 81, 0, 0) := (fe50 55).trans rfl
theorem f50_58 : gm_fetch 50 58 = some (59, .aload_n 0, 0, 0, 0, 0) := (fe50 58).trans rfl
theorem f50_59 : gm_fetch 50 59 = some (62, .getfield 35, 44, 3, 7, 0) := (fe50 59).trans rfl
theorem f50_62 : gm_fetch 50 62 = some (63, .iload_n 1, 0, 0, 0, 0) := (fe50 62).trans rfl
theorem f50_63 : gm_fetch 50 63 = some (65, .bipush 35, 0, 0, 0, 0) := (fe50 63).trans rfl
theorem f50_65 : gm_fetch 50 65 = some (66, .imul, 0, 0, 0, 0) := (fe50 65).trans rfl
theorem f50_66 : gm_fetch 50 66 = some (67, .iload_n 3, 0, 0, 0, 0) := (fe50 66).trans rfl
theorem f50_67 : gm_fetch 50 67 = some (68, .iadd, 0, 0, 0, 0) := (fe50 67).trans rfl
theorem f50_68 : gm_fetch 50 68 = some (69, .aload_n 0, 0, 0, 0, 0) := (fe50 68).trans rfl
theorem f50_69 : gm_fetch 50 69 = some (70, .iload_n 3, 0, 0, 0, 0) := (fe50 69).trans rfl
theorem f50_70 : gm_fetch 50 70 = some (73, .invokevirtual 158, 83, 51, 0, 0) := (fe50 70).trans rfl
theorem f50_73 : gm_fetch 50 73 = some (74, .aload_n 0, 0, 0, 0, 0) := (fe50 73).trans rfl
theorem f50_74 : gm_fetch 50 74 = some (75, .iload_n 1, 0, 0, 0, 0) := (fe50 74).trans rfl
theorem f50_75 : gm_fetch 50 75 = some (76, .iload_n 3, 0, 0, 0, 0) := (fe50 75).trans rfl
theorem f50_76 : gm_fetch 50 76 = some (79, .invokevirtual 162, 85, 52, 0, 0) := (fe50 76).trans rfl
theorem f50_79 : gm_fetch 50 79 = some (80, .iadd, 0, 0, 0, 0) := (fe50 79).trans rfl
theorem f50_80 : gm_fetch 50 80 = some (81, .iastore, 0, 0, 0, 0) := (fe50 80).trans rfl
theorem f50_81 : gm_fetch 50 81 = some (84, .iinc 3 1, 0, 0, 0, 0) := (fe50 81).trans rfl
theorem f50_84 : gm_fetch 50 84 = some (87, .goto (-52), 0, 32, 0, 0) := (fe50 84).trans rfl
theorem f50_87 : gm_fetch 50 87 = some (88, .return_, 0, 0, 0, 0) := (fe50 87).trans rfl
set_option maxRecDepth 10000 in
theorem rg50_0 {mi : Mi} {ml : Ml} {F : Mi → Ml → Prop} {x1 : Int32} {x2 : Int32}  (h : Sg 50 2 [some (.ref 3), some (.int x1), some (.int x2), some (.int 0)] [] mi ml (qv F)) : Sg 50 0 [some (.ref 3), some (.int x1), some (.int x2), none] [] mi ml (qv F) := by
  refine sg_psh f50_0 (v := .int 0) (by decide) ?_
  refine sg_st1 f50_1 (ls' := [some (.ref 3), some (.int x1), some (.int x2), some (.int 0)]) rfl rfl rfl rfl ?_
  exact h

set_option maxRecDepth 10000 in
theorem rg50_2 {mi : Mi} {ml : Ml} {F : Mi → Ml → Prop} {x1 : Int32} {x2 : Int32} {x3 : Int32}  (h : (((mi 1 2) ≤ x3) → Sg 50 32 [some (.ref 3), some (.int x1), some (.int x2), some (.int 0)] [] mi ml (qv F)) ∧ (¬ ((mi 1 2) ≤ x3) → Sg 110 0 [some (.int x2), some (.int x3), none, none] [] mi ml (qi fun y1 mi2 ml3 => (vp_in x3 7) ∧ (Sg 50 2 [some (.ref 3), some (.int x1), some (.int x2), some (.int (x3 + 1))] [] (va_up mi2 17 (va_up (mi2 17) (Int32.toNatClampNeg x3) y1)) ml3 (qv F))))) : Sg 50 2 [some (.ref 3), some (.int x1), some (.int x2), some (.int x3)] [] mi ml (qv F) := by
  refine sg_ld f50_2 (v := .int x3) rfl rfl ?_
  refine sg_ld f50_3 (v := .ref 3) rfl rfl ?_
  refine sg_getr f50_4 rfl rfl (w := 1) rfl ?_
  refine sg_geti f50_7 rfl rfl (x := (mi 1 2)) rfl ?_
  refine sg_icmp f50_10 (fun c => ?_) (fun c => ?_)
  · have h := h.1 c
    refine sg_psh f50_30 (v := .int 0) (by decide) ?_
    refine sg_st1 f50_31 (ls' := [some (.ref 3), some (.int x1), some (.int x2), some (.int 0)]) rfl rfl rfl rfl ?_
    exact h
  · have h := h.2 c
    refine sg_ld f50_13 (v := .ref 3) rfl rfl ?_
    refine sg_getr f50_14 rfl rfl (w := 17) rfl ?_
    refine sg_ld f50_17 (v := .int x3) rfl rfl ?_
    refine sg_ld f50_18 (v := .int x2) rfl rfl ?_
    refine sg_ld f50_19 (v := .int x3) rfl rfl ?_
    refine sg_cS f50_20 (vs := [.int x2, .int x3]) (rest := [.int x3, .ref 17]) (en := [some (.int x2), some (.int x3), none, none]) (by decide) pq110 ⟨rfl, rfl⟩ rfl rfl rfl rfl rfl h ?_
    rintro _ mi2 ml3 ⟨y1, rfl, h⟩
    obtain ⟨e4, h⟩ := h
    refine sg_iast f50_23 rfl e4 ?_
    refine sg_inc f50_24 (d := 1) (ls' := [some (.ref 3), some (.int x1), some (.int x2), some (.int (x3 + 1))]) rfl (by decide) rfl ?_
    refine sg_goto f50_27 ?_
    exact h

set_option maxRecDepth 10000 in
theorem rg50_32 {mi : Mi} {ml : Ml} {F : Mi → Ml → Prop} {x1 : Int32} {x2 : Int32} {x3 : Int32}  (h : (((mi 4 0) ≤ x3) → F mi ml) ∧ (¬ ((mi 4 0) ≤ x3) → (vp_in x1 7) ∧ (((¬ (lg_cmp ((lushr (ml 8 (Int32.toNatClampNeg x1)) x3) &&& 1) 1) = 0) → Sg 50 32 [some (.ref 3), some (.int x1), some (.int x2), some (.int (x3 + 1))] [] mi ml (qv F)) ∧ (¬ (¬ (lg_cmp ((lushr (ml 8 (Int32.toNatClampNeg x1)) x3) &&& 1) 1) = 0) → Sg 51 0 [some (.ref 3), some (.int x3), none, none] [] mi ml (qi fun y2 mi3 ml4 => Sg 52 0 [some (.ref 3), some (.int x1), some (.int x3), none] [] mi3 ml4 (qi fun y5 mi6 ml7 => (vp_in ((x1 * 35) + x3) 245) ∧ (Sg 50 32 [some (.ref 3), some (.int x1), some (.int x2), some (.int (x3 + 1))] [] (va_up mi6 16 (va_up (mi6 16) (Int32.toNatClampNeg ((x1 * 35) + x3)) (y2 + y5))) ml7 (qv F)))))))) : Sg 50 32 [some (.ref 3), some (.int x1), some (.int x2), some (.int x3)] [] mi ml (qv F) := by
  refine sg_ld f50_32 (v := .int x3) rfl rfl ?_
  refine sg_ld f50_33 (v := .ref 3) rfl rfl ?_
  refine sg_getr f50_34 rfl rfl (w := 4) rfl ?_
  refine sg_geti f50_37 rfl rfl (x := (mi 4 0)) rfl ?_
  refine sg_icmp f50_40 (fun c => ?_) (fun c => ?_)
  · have h := h.1 c
    exact sg_ret f50_87 pq50 rfl h
  · have h := h.2 c
    refine sg_ld f50_43 (v := .ref 3) rfl rfl ?_
    refine sg_getr f50_44 rfl rfl (w := 8) rfl ?_
    refine sg_ld f50_47 (v := .int x1) rfl rfl ?_
    obtain ⟨e1, h⟩ := h
    refine sg_lald f50_48 rfl e1 (x := (ml 8 (Int32.toNatClampNeg x1))) rfl ?_
    refine sg_ld f50_49 (v := .int x3) rfl rfl ?_
    refine sg_shl f50_50 rfl ?_
    refine sg_psh f50_51 (v := .long 1) (by decide) ?_
    refine sg_binl f50_52 rfl ?_
    refine sg_psh f50_53 (v := .long 1) (by decide) ?_
    refine sg_lcmp f50_54 ?_
    refine sg_if f50_55 (fun c => ?_) (fun c => ?_)
    · have h := h.1 c
      refine sg_inc f50_81 (d := 1) (ls' := [some (.ref 3), some (.int x1), some (.int x2), some (.int (x3 + 1))]) rfl (by decide) rfl ?_
      refine sg_goto f50_84 ?_
      exact h
    · have h := h.2 c
      refine sg_ld f50_58 (v := .ref 3) rfl rfl ?_
      refine sg_getr f50_59 rfl rfl (w := 16) rfl ?_
      refine sg_ld f50_62 (v := .int x1) rfl rfl ?_
      refine sg_psh f50_63 (v := .int 35) (by decide) ?_
      refine sg_bin f50_65 rfl ?_
      refine sg_ld f50_66 (v := .int x3) rfl rfl ?_
      refine sg_bin f50_67 rfl ?_
      refine sg_ld f50_68 (v := .ref 3) rfl rfl ?_
      refine sg_ld f50_69 (v := .int x3) rfl rfl ?_
      refine sg_cV f50_70 (vs := [.int x3]) (r := 3) (rest := [.int ((x1 * 35) + x3), .ref 16]) (en := [some (.ref 3), some (.int x3), none, none]) pq51 ⟨rfl, rfl⟩ rfl rfl rfl rfl rfl rfl h ?_
      rintro _ mi3 ml4 ⟨y2, rfl, h⟩
      refine sg_ld f50_73 (v := .ref 3) rfl rfl ?_
      refine sg_ld f50_74 (v := .int x1) rfl rfl ?_
      refine sg_ld f50_75 (v := .int x3) rfl rfl ?_
      refine sg_cV f50_76 (vs := [.int x1, .int x3]) (r := 3) (rest := [.int y2, .int ((x1 * 35) + x3), .ref 16]) (en := [some (.ref 3), some (.int x1), some (.int x3), none]) pq52 ⟨rfl, rfl⟩ rfl rfl rfl rfl rfl rfl h ?_
      rintro _ mi6 ml7 ⟨y5, rfl, h⟩
      refine sg_bin f50_79 rfl ?_
      obtain ⟨e8, h⟩ := h
      refine sg_iast f50_80 rfl e8 ?_
      refine sg_inc f50_81 (d := 1) (ls' := [some (.ref 3), some (.int x1), some (.int x2), some (.int (x3 + 1))]) rfl (by decide) rfl ?_
      refine sg_goto f50_84 ?_
      exact h

/-! X3_movesTo (I)I -/
theorem fe51 (pc : Nat) : gm_fetch 51 pc = gm_find pc cd_51 := rfl
theorem f51_0 : gm_fetch 51 0 = some (1, .iconst 0, 0, 0, 0, 0) := (fe51 0).trans rfl
theorem f51_1 : gm_fetch 51 1 = some (2, .istore_n 2, 0, 0, 0, 0) := (fe51 1).trans rfl
theorem f51_2 : gm_fetch 51 2 = some (3, .iconst 0, 0, 0, 0, 0) := (fe51 2).trans rfl
theorem f51_3 : gm_fetch 51 3 = some (4, .istore_n 3, 0, 0, 0, 0) := (fe51 3).trans rfl
theorem f51_4 : gm_fetch 51 4 = some (5, .iload_n 3, 0, 0, 0, 0) := (fe51 4).trans rfl
theorem f51_5 : gm_fetch 51 5 = some (6, .aload_n 0, 0, 0, 0, 0) := (fe51 5).trans rfl
theorem f51_6 : gm_fetch 51 6 = some (9, .getfield 41, 37, 3, 0, 0) := (fe51 6).trans rfl
theorem f51_9 : gm_fetch 51 9 = some (12, .getfield 57, 11, 0, 2, 0) := (fe51 9).trans rfl
theorem f51_12 : gm_fetch 51 12 = some (15, .if_icmp .ge 30, 0, 42, 0, 0) := (fe51 12).trans rfl
theorem f51_15 : gm_fetch 51 15 = some (16, .aload_n 0, 0, 0, 0, 0) := (fe51 15).trans rfl
theorem f51_16 : gm_fetch 51 16 = some (19, .getfield 12, 38, 3, 1, 0) := (fe51 16).trans rfl
theorem f51_19 : gm_fetch 51 19 = some (20, .iload_n 1, 0, 0, 0, 0) := (fe51 19).trans rfl
theorem f51_20 : gm_fetch 51 20 = some (21, .iload_n 3, 0, 0, 0, 0) := (fe51 20).trans rfl
theorem f51_21 : gm_fetch 51 21 = some (24, .invokevirtual 165, 84, 60, 0, 0) := (fe51 21).trans rfl
theorem f51_24 : gm_fetch 51 24 = some (25, .aload_n 0, 0, 0, 0, 0) := (fe51 24).trans rfl
theorem f51_25 : gm_fetch 51 25 = some (28, .getfield 38, 45, 3, 8, 0) := (fe51 25).trans rfl
theorem f51_28 : gm_fetch 51 28 = some (29, .iload_n 3, 0, 0, 0, 0) := (fe51 28).trans rfl
theorem f51_29 : gm_fetch 51 29 = some (30, .iaload, 0, 0, 0, 0) := (fe51 29).trans rfl
theorem f51_30 : gm_fetch 51 30 = some (33, .if_icmp .eq 6, 0, 36, 0, 0) := (fe51 30).trans rfl
theorem f51_33 : gm_fetch 51 33 = some (36, .iinc 2 1, 0, 0, 0, 0) := (fe51 33).trans rfl
theorem f51_36 : gm_fetch 51 36 = some (39, .iinc 3 1, 0, 0, 0, 0) := (fe51 36).trans rfl
theorem f51_39 : gm_fetch 51 39 = some (42, .goto (-35), 0, 4, 0, 0) := (fe51 39).trans rfl
theorem f51_42 : gm_fetch 51 42 = some (43, .iload_n 2, 0, 0, 0, 0) := (fe51 42).trans rfl
theorem f51_43 : gm_fetch 51 43 = some (44, .ireturn, 0, 0, 0, 0) := (fe51 43).trans rfl
set_option maxRecDepth 10000 in
theorem rg51_0 {mi : Mi} {ml : Ml} {F : Int32 → Mi → Ml → Prop} {x1 : Int32}  (h : Sg 51 4 [some (.ref 3), some (.int x1), some (.int 0), some (.int 0)] [] mi ml (qi F)) : Sg 51 0 [some (.ref 3), some (.int x1), none, none] [] mi ml (qi F) := by
  refine sg_psh f51_0 (v := .int 0) (by decide) ?_
  refine sg_st1 f51_1 (ls' := [some (.ref 3), some (.int x1), some (.int 0), none]) rfl rfl rfl rfl ?_
  refine sg_psh f51_2 (v := .int 0) (by decide) ?_
  refine sg_st1 f51_3 (ls' := [some (.ref 3), some (.int x1), some (.int 0), some (.int 0)]) rfl rfl rfl rfl ?_
  exact h

set_option maxRecDepth 10000 in
theorem rg51_4 {mi : Mi} {ml : Ml} {F : Int32 → Mi → Ml → Prop} {x1 : Int32} {x2 : Int32} {x3 : Int32}  (h : (((mi 1 2) ≤ x3) → F x2 mi ml) ∧ (¬ ((mi 1 2) ≤ x3) → Sg 60 0 [some (.ref 4), some (.int x1), some (.int x3)] [] mi ml (qi fun y1 mi2 ml3 => (vp_in x3 7) ∧ (((y1 = (mi2 17 (Int32.toNatClampNeg x3))) → Sg 51 4 [some (.ref 3), some (.int x1), some (.int x2), some (.int (x3 + 1))] [] mi2 ml3 (qi F)) ∧ (¬ (y1 = (mi2 17 (Int32.toNatClampNeg x3))) → Sg 51 4 [some (.ref 3), some (.int x1), some (.int (x2 + 1)), some (.int (x3 + 1))] [] mi2 ml3 (qi F)))))) : Sg 51 4 [some (.ref 3), some (.int x1), some (.int x2), some (.int x3)] [] mi ml (qi F) := by
  refine sg_ld f51_4 (v := .int x3) rfl rfl ?_
  refine sg_ld f51_5 (v := .ref 3) rfl rfl ?_
  refine sg_getr f51_6 rfl rfl (w := 1) rfl ?_
  refine sg_geti f51_9 rfl rfl (x := (mi 1 2)) rfl ?_
  refine sg_icmp f51_12 (fun c => ?_) (fun c => ?_)
  · have h := h.1 c
    refine sg_ld f51_42 (v := .int x2) rfl rfl ?_
    exact sg_iret f51_43 pq51 rfl rfl ⟨_, rfl, h⟩
  · have h := h.2 c
    refine sg_ld f51_15 (v := .ref 3) rfl rfl ?_
    refine sg_getr f51_16 rfl rfl (w := 4) rfl ?_
    refine sg_ld f51_19 (v := .int x1) rfl rfl ?_
    refine sg_ld f51_20 (v := .int x3) rfl rfl ?_
    refine sg_cV f51_21 (vs := [.int x1, .int x3]) (r := 4) (rest := []) (en := [some (.ref 4), some (.int x1), some (.int x3)]) pq60 ⟨rfl, rfl⟩ rfl rfl rfl rfl rfl rfl h ?_
    rintro _ mi2 ml3 ⟨y1, rfl, h⟩
    refine sg_ld f51_24 (v := .ref 3) rfl rfl ?_
    refine sg_getr f51_25 rfl rfl (w := 17) rfl ?_
    refine sg_ld f51_28 (v := .int x3) rfl rfl ?_
    obtain ⟨e4, h⟩ := h
    refine sg_iald f51_29 rfl e4 (x := (mi2 17 (Int32.toNatClampNeg x3))) rfl ?_
    refine sg_icmp f51_30 (fun c => ?_) (fun c => ?_)
    · have h := h.1 c
      refine sg_inc f51_36 (d := 1) (ls' := [some (.ref 3), some (.int x1), some (.int x2), some (.int (x3 + 1))]) rfl (by decide) rfl ?_
      refine sg_goto f51_39 ?_
      exact h
    · have h := h.2 c
      refine sg_inc f51_33 (d := 1) (ls' := [some (.ref 3), some (.int x1), some (.int (x2 + 1)), some (.int x3)]) rfl (by decide) rfl ?_
      refine sg_inc f51_36 (d := 1) (ls' := [some (.ref 3), some (.int x1), some (.int (x2 + 1)), some (.int (x3 + 1))]) rfl (by decide) rfl ?_
      refine sg_goto f51_39 ?_
      exact h

/-! X3_fewestBelow (II)I -/
theorem fe52 (pc : Nat) : gm_fetch 52 pc = gm_find pc cd_52 := rfl
theorem f52_0 : gm_fetch 52 0 = some (1, .iload_n 1, 0, 0, 0, 0) := (fe52 0).trans rfl
theorem f52_1 : gm_fetch 52 1 = some (2, .aload_n 0, 0, 0, 0, 0) := (fe52 1).trans rfl
theorem f52_2 : gm_fetch 52 2 = some (5, .getfield 41, 37, 3, 0, 0) := (fe52 2).trans rfl
theorem f52_5 : gm_fetch 52 5 = some (8, .getfield 75, 1, 0, 0, 0) := (fe52 5).trans rfl
theorem f52_8 : gm_fetch 52 8 = some (9, .iconst 1, 0, 0, 0, 0) := (fe52 8).trans rfl
theorem f52_9 : gm_fetch 52 9 = some (10, .isub, 0, 0, 0, 0) := (fe52 9).trans rfl
theorem f52_10 : gm_fetch 52 10 = some (13, .if_icmp .ne 5, 0, 15, 0, 0) := (fe52 10).trans rfl
theorem f52_13 : gm_fetch 52 13 = some (14, .iconst 0, 0, 0, 0, 0) := (fe52 13).trans rfl
theorem f52_14 : gm_fetch 52 14 = some (15, .ireturn, 0, 0, 0, 0) := (fe52 14).trans rfl
theorem f52_15 : gm_fetch 52 15 = some (16, .aload_n 0, 0, 0, 0, 0) := (fe52 15).trans rfl
theorem f52_16 : gm_fetch 52 16 = some (17, .iload_n 1, 0, 0, 0, 0) := (fe52 16).trans rfl
theorem f52_17 : gm_fetch 52 17 = some (18, .iconst 1, 0, 0, 0, 0) := (fe52 17).trans rfl
theorem f52_18 : gm_fetch 52 18 = some (19, .iadd, 0, 0, 0, 0) := (fe52 18).trans rfl
theorem f52_19 : gm_fetch 52 19 = some (20, .aload_n 0, 0, 0, 0, 0) := (fe52 19).trans rfl
theorem f52_20 : gm_fetch 52 20 = some (23, .getfield 18, 39, 3, 2, 0) := (fe52 20).trans rfl
theorem f52_23 : gm_fetch 52 23 = some (24, .iload_n 1, 0, 0, 0, 0) := (fe52 23).trans rfl
theorem f52_24 : gm_fetch 52 24 = some (25, .iconst 1, 0, 0, 0, 0) := (fe52 24).trans rfl
theorem f52_25 : gm_fetch 52 25 = some (26, .iadd, 0, 0, 0, 0) := (fe52 25).trans rfl
theorem f52_26 : gm_fetch 52 26 = some (27, .laload, 0, 0, 0, 0) := (fe52 26).trans rfl
theorem f52_27 : gm_fetch 52 27 = some (28, .aload_n 0, 0, 0, 0, 0) := (fe52 27).trans rfl
theorem f52_28 : gm_fetch 52 28 = some (31, .getfield 12, 38, 3, 1, 0) := (fe52 28).trans rfl
theorem f52_31 : gm_fetch 52 31 = some (32, .iload_n 2, 0, 0, 0, 0) := (fe52 31).trans rfl
theorem f52_32 : gm_fetch 52 32 = some (35, .invokevirtual 168, 86, 61, 0, 0) := (fe52 32).trans rfl
theorem f52_35 : gm_fetch 52 35 = some (36, .land, 0, 0, 0, 0) := (fe52 35).trans rfl
theorem f52_36 : gm_fetch 52 36 = some (39, .invokevirtual 148, 87, 53, 0, 0) := (fe52 36).trans rfl
theorem f52_39 : gm_fetch 52 39 = some (40, .istore_n 3, 0, 0, 0, 0) := (fe52 39).trans rfl
theorem f52_40 : gm_fetch 52 40 = some (41, .iload_n 3, 0, 0, 0, 0) := (fe52 40).trans rfl
theorem f52_41 : gm_fetch 52 41 = some (42, .iconst (-1), 0, 0, 0, 0) := (fe52 41).trans rfl
theorem f52_42 : gm_fetch 52 42 = some (45, .if_icmp .ne 9, 0, 51, 0, 0) := (fe52 42).trans rfl
theorem f52_45 : gm_fetch 52 45 = some (48, .sipush 1000, 0, 0, 0, 0) := (fe52 45).trans rfl
theorem f52_48 : gm_fetch 52 48 = some (51, .goto 9, 0, 57, 0, 0) := (fe52 48).trans rfl
theorem f52_51 : gm_fetch 52 51 = some (52, .aload_n 0, 0, 0, 0, 0) := (fe52 51).trans rfl
theorem f52_52 : gm_fetch 52 52 = some (55, .getfield 35, 44, 3, 7, 0) := (fe52 52).trans rfl
theorem f52_55 : gm_fetch 52 55 = some (56, .iload_n 3, 0, 0, 0, 0) := (fe52 55).trans rfl
theorem f52_56 : gm_fetch 52 56 = some (57, .iaload, 0, 0, 0, 0) := (fe52 56).trans rfl
theorem f52_57 : gm_fetch 52 57 = some (58, .ireturn, 0, 0, 0, 0) := (fe52 57).trans rfl
set_option maxRecDepth 10000 in
theorem rg52_0 {mi : Mi} {ml : Ml} {F : Int32 → Mi → Ml → Prop} {x1 : Int32} {x2 : Int32}  (h : ((¬ x1 = ((mi 1 0) - 1)) → (vp_in (x1 + 1) 7) ∧ (Sg 61 0 [some (.ref 4), some (.int x2)] [] mi ml (ql fun y2 mi3 ml4 => Sg 53 0 [some (.ref 3), some (.int (x1 + 1)), some (.long ((ml 8 (Int32.toNatClampNeg (x1 + 1))) &&& y2)), none, none, none, none] [] mi3 ml4 (qi fun y5 mi6 ml7 => ((¬ y5 = (-1)) → (vp_in y5 245) ∧ (F (mi6 16 (Int32.toNatClampNeg y5)) mi6 ml7)) ∧ (¬ (¬ y5 = (-1)) → F 1000 mi6 ml7))))) ∧ (¬ (¬ x1 = ((mi 1 0) - 1)) → F 0 mi ml)) : Sg 52 0 [some (.ref 3), some (.int x1), some (.int x2), none] [] mi ml (qi F) := by
  refine sg_ld f52_0 (v := .int x1) rfl rfl ?_
  refine sg_ld f52_1 (v := .ref 3) rfl rfl ?_
  refine sg_getr f52_2 rfl rfl (w := 1) rfl ?_
  refine sg_geti f52_5 rfl rfl (x := (mi 1 0)) rfl ?_
  refine sg_psh f52_8 (v := .int 1) (by decide) ?_
  refine sg_bin f52_9 rfl ?_
  refine sg_icmp f52_10 (fun c => ?_) (fun c => ?_)
  · have h := h.1 c
    refine sg_ld f52_15 (v := .ref 3) rfl rfl ?_
    refine sg_ld f52_16 (v := .int x1) rfl rfl ?_
    refine sg_psh f52_17 (v := .int 1) (by decide) ?_
    refine sg_bin f52_18 rfl ?_
    refine sg_ld f52_19 (v := .ref 3) rfl rfl ?_
    refine sg_getr f52_20 rfl rfl (w := 8) rfl ?_
    refine sg_ld f52_23 (v := .int x1) rfl rfl ?_
    refine sg_psh f52_24 (v := .int 1) (by decide) ?_
    refine sg_bin f52_25 rfl ?_
    obtain ⟨e1, h⟩ := h
    refine sg_lald f52_26 rfl e1 (x := (ml 8 (Int32.toNatClampNeg (x1 + 1)))) rfl ?_
    refine sg_ld f52_27 (v := .ref 3) rfl rfl ?_
    refine sg_getr f52_28 rfl rfl (w := 4) rfl ?_
    refine sg_ld f52_31 (v := .int x2) rfl rfl ?_
    refine sg_cV f52_32 (vs := [.int x2]) (r := 4) (rest := [.long (ml 8 (Int32.toNatClampNeg (x1 + 1))), .int (x1 + 1), .ref 3]) (en := [some (.ref 4), some (.int x2)]) pq61 ⟨rfl, rfl⟩ rfl rfl rfl rfl rfl rfl h ?_
    rintro _ mi3 ml4 ⟨y2, rfl, h⟩
    refine sg_binl f52_35 rfl ?_
    refine sg_cV f52_36 (vs := [.int (x1 + 1), .long ((ml 8 (Int32.toNatClampNeg (x1 + 1))) &&& y2)]) (r := 3) (rest := []) (en := [some (.ref 3), some (.int (x1 + 1)), some (.long ((ml 8 (Int32.toNatClampNeg (x1 + 1))) &&& y2)), none, none, none, none]) pq53 ⟨rfl, rfl⟩ rfl rfl rfl rfl rfl rfl h ?_
    rintro _ mi6 ml7 ⟨y5, rfl, h⟩
    refine sg_st1 f52_39 (ls' := [some (.ref 3), some (.int x1), some (.int x2), some (.int y5)]) rfl rfl rfl rfl ?_
    refine sg_ld f52_40 (v := .int y5) rfl rfl ?_
    refine sg_psh f52_41 (v := .int (-1)) (by decide) ?_
    refine sg_icmp f52_42 (fun c => ?_) (fun c => ?_)
    · have h := h.1 c
      refine sg_ld f52_51 (v := .ref 3) rfl rfl ?_
      refine sg_getr f52_52 rfl rfl (w := 16) rfl ?_
      refine sg_ld f52_55 (v := .int y5) rfl rfl ?_
      obtain ⟨e8, h⟩ := h
      refine sg_iald f52_56 rfl e8 (x := (mi6 16 (Int32.toNatClampNeg y5))) rfl ?_
      exact sg_iret f52_57 pq52 rfl rfl ⟨_, rfl, h⟩
    · have h := h.2 c
      refine sg_psh f52_45 (v := .int 1000) (by decide) ?_
      refine sg_goto f52_48 ?_
      exact sg_iret f52_57 pq52 rfl rfl ⟨_, rfl, h⟩
  · have h := h.2 c
    refine sg_psh f52_13 (v := .int 0) (by decide) ?_
    exact sg_iret f52_14 pq52 rfl rfl ⟨_, rfl, h⟩

/-! X3_cheapest (IJ)I -/
theorem fe53 (pc : Nat) : gm_fetch 53 pc = gm_find pc cd_53 := rfl
theorem f53_0 : gm_fetch 53 0 = some (1, .iconst (-1), 0, 0, 0, 0) := (fe53 0).trans rfl
theorem f53_1 : gm_fetch 53 1 = some (3, .istore 4, 0, 0, 0, 0) := (fe53 1).trans rfl
theorem f53_3 : gm_fetch 53 3 = some (4, .iconst 0, 0, 0, 0, 0) := (fe53 3).trans rfl
theorem f53_4 : gm_fetch 53 4 = some (6, .istore 5, 0, 0, 0, 0) := (fe53 4).trans rfl
theorem f53_6 : gm_fetch 53 6 = some (8, .iload 5, 0, 0, 0, 0) := (fe53 6).trans rfl
theorem f53_8 : gm_fetch 53 8 = some (9, .aload_n 0, 0, 0, 0, 0) := (fe53 8).trans rfl
theorem f53_9 : gm_fetch 53 9 = some (12, .getfield 12, 38, 3, 1, 0) := (fe53 9).trans rfl
theorem f53_12 : gm_fetch 53 12 = some (15, .getfield 155, 29, 4, 0, 0) := (fe53 12).trans rfl
theorem f53_15 : gm_fetch 53 15 = some (18, .if_icmp .ge 56, 0, 71, 0, 0) := (fe53 15).trans rfl
theorem f53_18 : gm_fetch 53 18 = some (19, .iload_n 1, 0, 0, 0, 0) := (fe53 18).trans rfl
theorem f53_19 : gm_fetch 53 19 = some (21, .bipush 35, 0, 0, 0, 0) := (fe53 19).trans rfl
theorem f53_21 : gm_fetch 53 21 = some (22, .imul, 0, 0, 0, 0) := (fe53 21).trans rfl
theorem f53_22 : gm_fetch 53 22 = some (24, .iload 5, 0, 0, 0, 0) := (fe53 22).trans rfl
theorem f53_24 : gm_fetch 53 24 = some (25, .iadd, 0, 0, 0, 0) := (fe53 24).trans rfl
theorem f53_25 : gm_fetch 53 25 = some (27, .istore 6, 0, 0, 0, 0) := (fe53 25).trans rfl
theorem f53_27 : gm_fetch 53 27 = some (28, .lload_n 2, 0, 0, 0, 0) := (fe53 27).trans rfl
theorem f53_28 : gm_fetch 53 28 = some (30, .iload 5, 0, 0, 0, 0) := (fe53 28).trans rfl
theorem f53_30 : gm_fetch 53 30 = some (31, .lushr, 0, 0, 0, 0) := (fe53 30).trans rfl
theorem f53_31 : gm_fetch 53 31 = some (32, .lconst 1, 0, 0, 0, 0) := (fe53 31).trans rfl
theorem f53_32 : gm_fetch 53 32 = some (33, .land, 0, 0, 0, 0) := (fe53 32).trans rfl
theorem f53_33 : gm_fetch 53 33 = some (34, .lconst 1, 0, 0, 0, 0) := (fe53 33).trans rfl
theorem f53_34 : gm_fetch 53 34 = some (35, .lcmp, 0, 0, 0, 0) := (fe53 34).trans rfl
theorem f53_35 : gm_fetch 53 35 = some (38, .ifCond .ne 30, 0, 65, 0, 0) := (fe53 35).trans rfl
theorem f53_38 : gm_fetch 53 38 = some (40, .iload 4, 0, 0, 0, 0) := (fe53 38).trans rfl
theorem f53_40 : gm_fetch 53 40 = some (41, .iconst (-1), 0, 0, 0, 0) := (fe53 40).trans rfl
theorem f53_41 : gm_fetch 53 41 = some (44, .if_icmp .eq 20, 0, 61, 0, 0) := (fe53 41).trans rfl
theorem f53_44 : gm_fetch 53 44 = some (45, .aload_n 0, 0, 0, 0, 0) := (fe53 44).trans rfl
theorem f53_45 : gm_fetch 53 45 = some (48, .getfield 35, 44, 3, 7, 0) := (fe53 45).trans rfl
theorem f53_48 : gm_fetch 53 48 = some (50, .iload 6, 0, 0, 0, 0) := (fe53 48).trans rfl
theorem f53_50 : gm_fetch 53 50 = some (51, .iaload, 0, 0, 0, 0) := (fe53 50).trans rfl
theorem f53_51 : gm_fetch 53 51 = some (52, .aload_n 0, 0, 0, 0, 0) := (fe53 51).trans rfl
theorem f53_52 : gm_fetch 53 52 = some (55, .getfield 35, 44, 3, 7, 0) := (fe53 52).trans rfl
theorem f53_55 : gm_fetch 53 55 = some (57, .iload 4, 0, 0, 0, 0) := (fe53 55).trans rfl
theorem f53_57 : gm_fetch 53 57 = some (58, .iaload, 0, 0, 0, 0) := (fe53 57).trans rfl
theorem f53_58 : gm_fetch 53 58 = some (61, .if_icmp .ge 7, 0, 65, 0, 0) := (fe53 58).trans rfl
theorem f53_61 : gm_fetch 53 61 = some (63, .iload 6, 0, 0, 0, 0) := (fe53 61).trans rfl
theorem f53_63 : gm_fetch 53 63 = some (65, .istore 4, 0, 0, 0, 0) := (fe53 63).trans rfl
theorem f53_65 : gm_fetch 53 65 = some (68, .iinc 5 1, 0, 0, 0, 0) := (fe53 65).trans rfl
theorem f53_68 : gm_fetch 53 68 = some (71, .goto (-62), 0, 6, 0, 0) := (fe53 68).trans rfl
theorem f53_71 : gm_fetch 53 71 = some (73, .iload 4, 0, 0, 0, 0) := (fe53 71).trans rfl
theorem f53_73 : gm_fetch 53 73 = some (74, .ireturn, 0, 0, 0, 0) := (fe53 73).trans rfl
set_option maxRecDepth 10000 in
theorem rg53_0 {mi : Mi} {ml : Ml} {F : Int32 → Mi → Ml → Prop} {x1 : Int32} {x2 : Int64}  (h : Sg 53 6 [some (.ref 3), some (.int x1), some (.long x2), none, some (.int (-1)), some (.int 0), none] [] mi ml (qi F)) : Sg 53 0 [some (.ref 3), some (.int x1), some (.long x2), none, none, none, none] [] mi ml (qi F) := by
  refine sg_psh f53_0 (v := .int (-1)) (by decide) ?_
  refine sg_st1 f53_1 (ls' := [some (.ref 3), some (.int x1), some (.long x2), none, some (.int (-1)), none, none]) rfl rfl rfl rfl ?_
  refine sg_psh f53_3 (v := .int 0) (by decide) ?_
  refine sg_st1 f53_4 (ls' := [some (.ref 3), some (.int x1), some (.long x2), none, some (.int (-1)), some (.int 0), none]) rfl rfl rfl rfl ?_
  exact h

set_option maxRecDepth 10000 in
theorem rg53_6 {mi : Mi} {ml : Ml} {F : Int32 → Mi → Ml → Prop} {x1 : Int32} {x2 : Int64} {x4 : Int32} {x5 : Int32}  (h : (((mi 4 0) ≤ x5) → F x4 mi ml) ∧ (¬ ((mi 4 0) ≤ x5) → ((¬ (lg_cmp ((lushr x2 x5) &&& 1) 1) = 0) → Sg 53 6 [some (.ref 3), some (.int x1), some (.long x2), none, some (.int x4), some (.int (x5 + 1)), none] [] mi ml (qi F)) ∧ (¬ (¬ (lg_cmp ((lushr x2 x5) &&& 1) 1) = 0) → ((x4 = (-1)) → Sg 53 6 [some (.ref 3), some (.int x1), some (.long x2), none, some (.int ((x1 * 35) + x5)), some (.int (x5 + 1)), none] [] mi ml (qi F)) ∧ (¬ (x4 = (-1)) → (vp_in ((x1 * 35) + x5) 245) ∧ ((vp_in x4 245) ∧ ((((mi 16 (Int32.toNatClampNeg x4)) ≤ (mi 16 (Int32.toNatClampNeg ((x1 * 35) + x5)))) → Sg 53 6 [some (.ref 3), some (.int x1), some (.long x2), none, some (.int x4), some (.int (x5 + 1)), none] [] mi ml (qi F)) ∧ (¬ ((mi 16 (Int32.toNatClampNeg x4)) ≤ (mi 16 (Int32.toNatClampNeg ((x1 * 35) + x5)))) → Sg 53 6 [some (.ref 3), some (.int x1), some (.long x2), none, some (.int ((x1 * 35) + x5)), some (.int (x5 + 1)), none] [] mi ml (qi F)))))))) : Sg 53 6 [some (.ref 3), some (.int x1), some (.long x2), none, some (.int x4), some (.int x5), none] [] mi ml (qi F) := by
  refine sg_ld f53_6 (v := .int x5) rfl rfl ?_
  refine sg_ld f53_8 (v := .ref 3) rfl rfl ?_
  refine sg_getr f53_9 rfl rfl (w := 4) rfl ?_
  refine sg_geti f53_12 rfl rfl (x := (mi 4 0)) rfl ?_
  refine sg_icmp f53_15 (fun c => ?_) (fun c => ?_)
  · have h := h.1 c
    refine sg_ld f53_71 (v := .int x4) rfl rfl ?_
    exact sg_iret f53_73 pq53 rfl rfl ⟨_, rfl, h⟩
  · have h := h.2 c
    refine sg_ld f53_18 (v := .int x1) rfl rfl ?_
    refine sg_psh f53_19 (v := .int 35) (by decide) ?_
    refine sg_bin f53_21 rfl ?_
    refine sg_ld f53_22 (v := .int x5) rfl rfl ?_
    refine sg_bin f53_24 rfl ?_
    refine sg_st1 f53_25 (ls' := [some (.ref 3), some (.int x1), some (.long x2), none, some (.int x4), some (.int x5), some (.int ((x1 * 35) + x5))]) rfl rfl rfl rfl ?_
    refine sg_ld f53_27 (v := .long x2) rfl rfl ?_
    refine sg_ld f53_28 (v := .int x5) rfl rfl ?_
    refine sg_shl f53_30 rfl ?_
    refine sg_psh f53_31 (v := .long 1) (by decide) ?_
    refine sg_binl f53_32 rfl ?_
    refine sg_psh f53_33 (v := .long 1) (by decide) ?_
    refine sg_lcmp f53_34 ?_
    refine sg_if f53_35 (fun c => ?_) (fun c => ?_)
    · have h := h.1 c
      refine sg_inc f53_65 (d := 1) (ls' := [some (.ref 3), some (.int x1), some (.long x2), none, some (.int x4), some (.int (x5 + 1)), some (.int ((x1 * 35) + x5))]) rfl (by decide) rfl ?_
      refine sg_goto f53_68 ?_
      exact sg_drop [6] rfl h
    · have h := h.2 c
      refine sg_ld f53_38 (v := .int x4) rfl rfl ?_
      refine sg_psh f53_40 (v := .int (-1)) (by decide) ?_
      refine sg_icmp f53_41 (fun c => ?_) (fun c => ?_)
      · have h := h.1 c
        refine sg_ld f53_61 (v := .int ((x1 * 35) + x5)) rfl rfl ?_
        refine sg_st1 f53_63 (ls' := [some (.ref 3), some (.int x1), some (.long x2), none, some (.int ((x1 * 35) + x5)), some (.int x5), some (.int ((x1 * 35) + x5))]) rfl rfl rfl rfl ?_
        refine sg_inc f53_65 (d := 1) (ls' := [some (.ref 3), some (.int x1), some (.long x2), none, some (.int ((x1 * 35) + x5)), some (.int (x5 + 1)), some (.int ((x1 * 35) + x5))]) rfl (by decide) rfl ?_
        refine sg_goto f53_68 ?_
        exact sg_drop [6] rfl h
      · have h := h.2 c
        refine sg_ld f53_44 (v := .ref 3) rfl rfl ?_
        refine sg_getr f53_45 rfl rfl (w := 16) rfl ?_
        refine sg_ld f53_48 (v := .int ((x1 * 35) + x5)) rfl rfl ?_
        obtain ⟨e1, h⟩ := h
        refine sg_iald f53_50 rfl e1 (x := (mi 16 (Int32.toNatClampNeg ((x1 * 35) + x5)))) rfl ?_
        refine sg_ld f53_51 (v := .ref 3) rfl rfl ?_
        refine sg_getr f53_52 rfl rfl (w := 16) rfl ?_
        refine sg_ld f53_55 (v := .int x4) rfl rfl ?_
        obtain ⟨e2, h⟩ := h
        refine sg_iald f53_57 rfl e2 (x := (mi 16 (Int32.toNatClampNeg x4))) rfl ?_
        refine sg_icmp f53_58 (fun c => ?_) (fun c => ?_)
        · have h := h.1 c
          refine sg_inc f53_65 (d := 1) (ls' := [some (.ref 3), some (.int x1), some (.long x2), none, some (.int x4), some (.int (x5 + 1)), some (.int ((x1 * 35) + x5))]) rfl (by decide) rfl ?_
          refine sg_goto f53_68 ?_
          exact sg_drop [6] rfl h
        · have h := h.2 c
          refine sg_ld f53_61 (v := .int ((x1 * 35) + x5)) rfl rfl ?_
          refine sg_st1 f53_63 (ls' := [some (.ref 3), some (.int x1), some (.long x2), none, some (.int ((x1 * 35) + x5)), some (.int x5), some (.int ((x1 * 35) + x5))]) rfl rfl rfl rfl ?_
          refine sg_inc f53_65 (d := 1) (ls' := [some (.ref 3), some (.int x1), some (.long x2), none, some (.int ((x1 * 35) + x5)), some (.int (x5 + 1)), some (.int ((x1 * 35) + x5))]) rfl (by decide) rfl ?_
          refine sg_goto f53_68 ?_
          exact sg_drop [6] rfl h

/-! X3_layFewest (LGridMender$Laying;)V -/
theorem fe54 (pc : Nat) : gm_fetch 54 pc = gm_find pc cd_54 := rfl
theorem f54_0 : gm_fetch 54 0 = some (1, .aload_n 1, 0, 0, 0, 0) := (fe54 0).trans rfl
theorem f54_1 : gm_fetch 54 1 = some (2, .aload_n 0, 0, 0, 0, 0) := (fe54 1).trans rfl
theorem f54_2 : gm_fetch 54 2 = some (5, .getfield 41, 37, 3, 0, 0) := (fe54 2).trans rfl
theorem f54_5 : gm_fetch 54 5 = some (8, .invokevirtual 171, 89, 26, 0, 0) := (fe54 5).trans rfl
theorem f54_8 : gm_fetch 54 8 = some (9, .aload_n 0, 0, 0, 0, 0) := (fe54 8).trans rfl
theorem f54_9 : gm_fetch 54 9 = some (12, .getfield 18, 39, 3, 2, 0) := (fe54 9).trans rfl
theorem f54_12 : gm_fetch 54 12 = some (13, .iconst 0, 0, 0, 0, 0) := (fe54 12).trans rfl
theorem f54_13 : gm_fetch 54 13 = some (14, .laload, 0, 0, 0, 0) := (fe54 13).trans rfl
theorem f54_14 : gm_fetch 54 14 = some (15, .lstore_n 2, 0, 0, 0, 0) := (fe54 14).trans rfl
theorem f54_15 : gm_fetch 54 15 = some (16, .iconst 0, 0, 0, 0, 0) := (fe54 15).trans rfl
theorem f54_16 : gm_fetch 54 16 = some (18, .istore 4, 0, 0, 0, 0) := (fe54 16).trans rfl
theorem f54_18 : gm_fetch 54 18 = some (20, .iload 4, 0, 0, 0, 0) := (fe54 18).trans rfl
theorem f54_20 : gm_fetch 54 20 = some (21, .aload_n 0, 0, 0, 0, 0) := (fe54 20).trans rfl
theorem f54_21 : gm_fetch 54 21 = some (24, .getfield 41, 37, 3, 0, 0) := (fe54 21).trans rfl
theorem f54_24 : gm_fetch 54 24 = some (27, .getfield 75, 1, 0, 0, 0) := (fe54 24).trans rfl
theorem f54_27 : gm_fetch 54 27 = some (30, .if_icmp .ge 70, 0, 97, 0, 0) := (fe54 27).trans rfl
theorem f54_30 : gm_fetch 54 30 = some (31, .aload_n 0, 0, 0, 0, 0) := (fe54 30).trans rfl
theorem f54_31 : gm_fetch 54 31 = some (33, .iload 4, 0, 0, 0, 0) := (fe54 31).trans rfl
theorem f54_33 : gm_fetch 54 33 = some (34, .lload_n 2, 0, 0, 0, 0) := (fe54 33).trans rfl
theorem f54_34 : gm_fetch 54 34 = some (35, .aload_n 0, 0, 0, 0, 0) := (fe54 34).trans rfl
theorem f54_35 : gm_fetch 54 35 = some (38, .getfield 18, 39, 3, 2, 0) := (fe54 35).trans rfl
theorem f54_38 : gm_fetch 54 38 = some (40, .iload 4, 0, 0, 0, 0) := (fe54 38).trans rfl
theorem f54_40 : gm_fetch 54 40 = some (41, .laload, 0, 0, 0, 0) := (fe54 40).trans rfl
theorem f54_41 : gm_fetch 54 41 = some (42, .land, 0, 0, 0, 0) := (fe54 41).trans rfl
theorem f54_42 : gm_fetch 54 42 = some (45, .invokevirtual 148, 87, 53, 0, 0) := (fe54 42).trans rfl
theorem f54_45 : gm_fetch 54 45 = some (47, .istore 5, 0, 0, 0, 0) := (fe54 45).trans rfl
theorem f54_47 : gm_fetch 54 47 = some (49, .iload 5, 0, 0, 0, 0) := (fe54 47).trans rfl
theorem f54_49 : gm_fetch 54 49 = some (50, .iconst (-1), 0, 0, 0, 0) := (fe54 49).trans rfl
theorem f54_50 : gm_fetch 54 50 = some (53, .if_icmp .ne 4, 0, 54, 0, 0) := (fe54 50).trans rfl
theorem f54_53 : gm_fetch 54 53 = some (54, .return_, 0, 0, 0, 0) := (fe54 53).trans rfl
theorem f54_54 : gm_fetch 54 54 = some (56, .iload 5, 0, 0, 0, 0) := (fe54 54).trans rfl
theorem f54_56 : gm_fetch 54 56 = some (58, .iload 4, 0, 0, 0, 0) := (fe54 56).trans rfl
theorem f54_58 : gm_fetch 54 58 = some (60, .bipush 35, 0, 0, 0, 0) := (fe54 58).trans rfl
theorem f54_60 : gm_fetch 54 60 = some (61, .imul, 0, 0, 0, 0) := (fe54 60).trans rfl
theorem f54_61 : gm_fetch 54 61 = some (62, .isub, 0, 0, 0, 0) := (fe54 61).trans rfl
theorem f54_62 : gm_fetch 54 62 = some (64, .istore 6, 0, 0, 0, 0) := (fe54 62).trans rfl
theorem f54_64 : gm_fetch 54 64 = some (65, .aload_n 1, 0, 0, 0, 0) := (fe54 64).trans rfl
theorem f54_65 : gm_fetch 54 65 = some (68, .getfield 175, 67, 2, 4, 0) := (fe54 65).trans rfl
theorem f54_68 : gm_fetch 54 68 = some (70, .iload 4, 0, 0, 0, 0) := (fe54 68).trans rfl
theorem f54_70 : gm_fetch 54 70 = some (71, .aload_n 0, 0, 0, 0, 0) := (fe54 70).trans rfl
theorem f54_71 : gm_fetch 54 71 = some (74, .getfield 12, 38, 3, 1, 0) := (fe54 71).trans rfl
theorem f54_74 : gm_fetch 54 74 = some (77, .getfield 178, 31, 4, 1, 0) := (fe54 74).trans rfl
theorem f54_77 : gm_fetch 54 77 = some (79, .iload 6, 0, 0, 0, 0) := (fe54 77).trans rfl
theorem f54_79 : gm_fetch 54 79 = some (80, .iaload, 0, 0, 0, 0) := (fe54 79).trans rfl
theorem f54_80 : gm_fetch 54 80 = some (81, .iastore, 0, 0, 0, 0) := (fe54 80).trans rfl
theorem f54_81 : gm_fetch 54 81 = some (82, .aload_n 0, 0, 0, 0, 0) := (fe54 81).trans rfl
theorem f54_82 : gm_fetch 54 82 = some (85, .getfield 12, 38, 3, 1, 0) := (fe54 82).trans rfl
theorem f54_85 : gm_fetch 54 85 = some (87, .iload 6, 0, 0, 0, 0) := (fe54 85).trans rfl
theorem f54_87 : gm_fetch 54 87 = some (90, .invokevirtual 168, 86, 61, 0, 0) := (fe54 87).trans rfl
theorem f54_90 : gm_fetch 54 90 = some (91, .lstore_n 2, 0, 0, 0, 0) := (fe54 90).trans rfl
theorem f54_91 : gm_fetch 54 91 = some (94, .iinc 4 1, 0, 0, 0, 0) := (fe54 91).trans rfl
theorem f54_94 : gm_fetch 54 94 = some (97, .goto (-76), 0, 18, 0, 0) := (fe54 94).trans rfl
theorem f54_97 : gm_fetch 54 97 = some (98, .return_, 0, 0, 0, 0) := (fe54 97).trans rfl
set_option maxRecDepth 10000 in
theorem rg54_0 {mi : Mi} {ml : Ml} {F : Mi → Ml → Prop}   (h : Sg 26 0 [some (.ref 23), some (.ref 1)] [] mi ml (qv fun mi2 ml3 => Sg 54 18 [some (.ref 3), some (.ref 23), some (.long (ml3 8 (Int32.toNatClampNeg 0))), none, some (.int 0), none, none] [] mi2 ml3 (qv F))) : Sg 54 0 [some (.ref 3), some (.ref 23), none, none, none, none, none] [] mi ml (qv F) := by
  refine sg_ld f54_0 (v := .ref 23) rfl rfl ?_
  refine sg_ld f54_1 (v := .ref 3) rfl rfl ?_
  refine sg_getr f54_2 rfl rfl (w := 1) rfl ?_
  refine sg_cV f54_5 (vs := [.ref 1]) (r := 23) (rest := []) (en := [some (.ref 23), some (.ref 1)]) pq26 ⟨rfl, rfl⟩ rfl rfl rfl rfl rfl rfl h ?_
  intro _ mi2 ml3 h
  have h := gm_qv h
  refine sg_ld f54_8 (v := .ref 3) rfl rfl ?_
  refine sg_getr f54_9 rfl rfl (w := 8) rfl ?_
  refine sg_psh f54_12 (v := .int 0) (by decide) ?_
  refine sg_lald f54_13 rfl (by unfold vp_in; decide) (x := (ml3 8 (Int32.toNatClampNeg 0))) rfl ?_
  refine sg_st2 f54_14 (ls' := [some (.ref 3), some (.ref 23), some (.long (ml3 8 (Int32.toNatClampNeg 0))), none, none, none, none]) rfl rfl rfl ?_
  refine sg_psh f54_15 (v := .int 0) (by decide) ?_
  refine sg_st1 f54_16 (ls' := [some (.ref 3), some (.ref 23), some (.long (ml3 8 (Int32.toNatClampNeg 0))), none, some (.int 0), none, none]) rfl rfl rfl rfl ?_
  exact h

set_option maxRecDepth 10000 in
theorem rg54_18 {mi : Mi} {ml : Ml} {F : Mi → Ml → Prop} {x2 : Int64} {x4 : Int32}  (h : (((mi 1 0) ≤ x4) → F mi ml) ∧ (¬ ((mi 1 0) ≤ x4) → (vp_in x4 7) ∧ (Sg 53 0 [some (.ref 3), some (.int x4), some (.long (x2 &&& (ml 8 (Int32.toNatClampNeg x4)))), none, none, none, none] [] mi ml (qi fun y2 mi3 ml4 => ((¬ y2 = (-1)) → (vp_in (y2 - (x4 * 35)) 35) ∧ (Sg 61 0 [some (.ref 4), some (.int (y2 - (x4 * 35)))] [] (va_up mi3 24 (va_up (mi3 24) (Int32.toNatClampNeg x4) (mi3 5 (Int32.toNatClampNeg (y2 - (x4 * 35)))))) ml4 (ql fun y6 mi7 ml8 => Sg 54 18 [some (.ref 3), some (.ref 23), some (.long y6), none, some (.int (x4 + 1)), none, none] [] mi7 ml8 (qv F)))) ∧ (¬ (¬ y2 = (-1)) → F mi3 ml4))))) : Sg 54 18 [some (.ref 3), some (.ref 23), some (.long x2), none, some (.int x4), none, none] [] mi ml (qv F) := by
  refine sg_ld f54_18 (v := .int x4) rfl rfl ?_
  refine sg_ld f54_20 (v := .ref 3) rfl rfl ?_
  refine sg_getr f54_21 rfl rfl (w := 1) rfl ?_
  refine sg_geti f54_24 rfl rfl (x := (mi 1 0)) rfl ?_
  refine sg_icmp f54_27 (fun c => ?_) (fun c => ?_)
  · have h := h.1 c
    exact sg_ret f54_97 pq54 rfl h
  · have h := h.2 c
    refine sg_ld f54_30 (v := .ref 3) rfl rfl ?_
    refine sg_ld f54_31 (v := .int x4) rfl rfl ?_
    refine sg_ld f54_33 (v := .long x2) rfl rfl ?_
    refine sg_ld f54_34 (v := .ref 3) rfl rfl ?_
    refine sg_getr f54_35 rfl rfl (w := 8) rfl ?_
    refine sg_ld f54_38 (v := .int x4) rfl rfl ?_
    obtain ⟨e1, h⟩ := h
    refine sg_lald f54_40 rfl e1 (x := (ml 8 (Int32.toNatClampNeg x4))) rfl ?_
    refine sg_binl f54_41 rfl ?_
    refine sg_cV f54_42 (vs := [.int x4, .long (x2 &&& (ml 8 (Int32.toNatClampNeg x4)))]) (r := 3) (rest := []) (en := [some (.ref 3), some (.int x4), some (.long (x2 &&& (ml 8 (Int32.toNatClampNeg x4)))), none, none, none, none]) pq53 ⟨rfl, rfl⟩ rfl rfl rfl rfl rfl rfl h ?_
    rintro _ mi3 ml4 ⟨y2, rfl, h⟩
    refine sg_st1 f54_45 (ls' := [some (.ref 3), some (.ref 23), some (.long x2), none, some (.int x4), some (.int y2), none]) rfl rfl rfl rfl ?_
    refine sg_ld f54_47 (v := .int y2) rfl rfl ?_
    refine sg_psh f54_49 (v := .int (-1)) (by decide) ?_
    refine sg_icmp f54_50 (fun c => ?_) (fun c => ?_)
    · have h := h.1 c
      refine sg_ld f54_54 (v := .int y2) rfl rfl ?_
      refine sg_ld f54_56 (v := .int x4) rfl rfl ?_
      refine sg_psh f54_58 (v := .int 35) (by decide) ?_
      refine sg_bin f54_60 rfl ?_
      refine sg_bin f54_61 rfl ?_
      refine sg_st1 f54_62 (ls' := [some (.ref 3), some (.ref 23), some (.long x2), none, some (.int x4), some (.int y2), some (.int (y2 - (x4 * 35)))]) rfl rfl rfl rfl ?_
      refine sg_ld f54_64 (v := .ref 23) rfl rfl ?_
      refine sg_getr f54_65 rfl rfl (w := 24) rfl ?_
      refine sg_ld f54_68 (v := .int x4) rfl rfl ?_
      refine sg_ld f54_70 (v := .ref 3) rfl rfl ?_
      refine sg_getr f54_71 rfl rfl (w := 4) rfl ?_
      refine sg_getr f54_74 rfl rfl (w := 5) rfl ?_
      refine sg_ld f54_77 (v := .int (y2 - (x4 * 35))) rfl rfl ?_
      obtain ⟨e5, h⟩ := h
      refine sg_iald f54_79 rfl e5 (x := (mi3 5 (Int32.toNatClampNeg (y2 - (x4 * 35))))) rfl ?_
      refine sg_iast f54_80 rfl e1 ?_
      refine sg_ld f54_81 (v := .ref 3) rfl rfl ?_
      refine sg_getr f54_82 rfl rfl (w := 4) rfl ?_
      refine sg_ld f54_85 (v := .int (y2 - (x4 * 35))) rfl rfl ?_
      refine sg_cV f54_87 (vs := [.int (y2 - (x4 * 35))]) (r := 4) (rest := []) (en := [some (.ref 4), some (.int (y2 - (x4 * 35)))]) pq61 ⟨rfl, rfl⟩ rfl rfl rfl rfl rfl rfl h ?_
      rintro _ mi7 ml8 ⟨y6, rfl, h⟩
      refine sg_st2 f54_90 (ls' := [some (.ref 3), some (.ref 23), some (.long y6), none, some (.int x4), some (.int y2), some (.int (y2 - (x4 * 35)))]) rfl rfl rfl ?_
      refine sg_inc f54_91 (d := 1) (ls' := [some (.ref 3), some (.ref 23), some (.long y6), none, some (.int (x4 + 1)), some (.int y2), some (.int (y2 - (x4 * 35)))]) rfl (by decide) rfl ?_
      refine sg_goto f54_94 ?_
      exact sg_drop [5, 6] rfl h
    · have h := h.2 c
      exact sg_ret f54_53 pq54 rfl h

