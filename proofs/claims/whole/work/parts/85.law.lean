/-! the law: its loop, all of it -/
theorem l_loop {L : Nat} {xs : Nat → Int32} {nc ns : Nat} (hL : L ≤ 3072) (hnc : nc ≤ 600000) (hns : ns ≤ 7302250) : ∀ d i mi ml, L < i + 6 * d → i ≤ L + 6 → Rel (8 * i + 1) mi ml → Go L xs 199 18 (lsL i) [] (SH, mi, ml, MR) nc ns (fun v _ => v = .int 1) := by
  intro d
  induction d with
  | zero =>
    intro i mi ml hd hi hR
    refine go_ld f199_18 (v := .int (nI i)) rfl rfl ?_
    refine go_ld f199_19 (v := .retAddr 0) rfl rfl ?_
    refine go_slen f199_20 ?_
    refine go_psh f199_21 (v := .int 6) (by decide) ?_
    refine go_bin f199_23 rfl ?_
    have e : (nI L - 6).toInt = (L : Int) - 6 := pk_sub_toInt (a := L) (b := 6) (by omega) (by decide)
    refine go_icmp f199_24 (fun _ => ?_) (fun c => absurd (show nI L - 6 < nI i from by rw [fa_lt, e, nI_toInt (by omega)]; omega) c)
    refine go_psh f199_1057 (v := .int 1) (by decide) ?_
    exact go_iret f199_1058 pq199 rfl (by decide) hnc hns rfl
  | succ d ihd =>
    intro i mi ml hd hi hR
    refine go_ld f199_18 (v := .int (nI i)) rfl rfl ?_
    refine go_ld f199_19 (v := .retAddr 0) rfl rfl ?_
    refine go_slen f199_20 ?_
    refine go_psh f199_21 (v := .int 6) (by decide) ?_
    refine go_bin f199_23 rfl ?_
    have e : (nI L - 6).toInt = (L : Int) - 6 := pk_sub_toInt (a := L) (b := 6) (by omega) (by decide)
    refine go_icmp f199_24 (fun _ => ?_) (fun c => ?_)
    · refine go_psh f199_1057 (v := .int 1) (by decide) ?_
      exact go_iret f199_1058 pq199 rfl (by decide) hnc hns rfl
    · have hi6 : i + 6 ≤ L := by
        have c' : ¬ (nI L - 6 < nI i) := c
        rw [fa_lt, e, nI_toInt (by omega)] at c'
        omega
      have nx : ∀ m l, Rel (8 * i + 1 + 8) m l → Go L xs 199 1051 (lsL i) [] (SH, m, l, MR) nc ns (fun v _ => v = .int 1) := fun m l h => by
        refine gw_inc f199_1051 (y := nI (i + 6)) (ls' := lsL (i + 6)) rfl (nI_add i 6) rfl ?_
        refine go_goto f199_1054 ?_
        exact ihd (i + 6) m l (by omega) (by omega) (h.mono (by omega))
      refine go_ld f199_27 (v := .retAddr 0) rfl rfl ?_
      refine go_ld f199_28 (v := .int (nI i)) rfl rfl ?_
      refine go_sld f199_29 (pk_in i L (by omega)) ?_
      refine go_psh f199_30 (v := .int 63) (by decide) ?_
      refine go_bin f199_32 rfl ?_
      by_cases hs : Int32.toInt (xs (Int32.toNatClampNeg (nI i)) &&& 63) < 0 ∨ 32 < Int32.toInt (xs (Int32.toNatClampNeg (nI i)) &&& 63)
      · exact go_tabO f199_33 hs (t := 1051) (by decide) (nx mi ml (hR.mono (by omega)))
      · obtain ⟨kk, hk, hx⟩ := gm_swk (n := 32) hs
        rcases (show kk = 0 ∨ kk = 1 ∨ kk = 2 ∨ kk = 3 ∨ kk = 4 ∨ kk = 5 ∨ kk = 6 ∨ kk = 7 ∨ kk = 8 ∨ kk = 9 ∨ kk = 10 ∨ kk = 11 ∨ kk = 12 ∨ kk = 13 ∨ kk = 14 ∨ kk = 15 ∨ kk = 16 ∨ kk = 17 ∨ kk = 18 ∨ kk = 19 ∨ kk = 20 ∨ kk = 21 ∨ kk = 22 ∨ kk = 23 ∨ kk = 24 ∨ kk = 25 ∨ kk = 26 ∨ kk = 27 ∨ kk = 28 ∨ kk = 29 ∨ kk = 30 ∨ kk = 31 ∨ kk = 32 by omega) with rfl | rfl | rfl | rfl | rfl | rfl | rfl | rfl | rfl | rfl | rfl | rfl | rfl | rfl | rfl | rfl | rfl | rfl | rfl | rfl | rfl | rfl | rfl | rfl | rfl | rfl | rfl | rfl | rfl | rfl | rfl | rfl | rfl
        · exact go_tabI f199_33 (by rw [hx]; decide) (by rw [hx]; decide) (off := 147) (t := 180) (by rw [hx]; decide) (by decide) (lc0 hL hi6 (by omega) hnc hns hR nx)
        · exact go_tabI f199_33 (by rw [hx]; decide) (by rw [hx]; decide) (off := 180) (t := 213) (by rw [hx]; decide) (by decide) (lc1 hL hi6 (by omega) hnc hns hR nx)
        · exact go_tabI f199_33 (by rw [hx]; decide) (by rw [hx]; decide) (off := 203) (t := 236) (by rw [hx]; decide) (by decide) (lc2 hL hi6 (by omega) hnc hns hR nx)
        · exact go_tabI f199_33 (by rw [hx]; decide) (by rw [hx]; decide) (off := 226) (t := 259) (by rw [hx]; decide) (by decide) (lc3 hL hi6 (by omega) hnc hns hR nx)
        · exact go_tabI f199_33 (by rw [hx]; decide) (by rw [hx]; decide) (off := 249) (t := 282) (by rw [hx]; decide) (by decide) (lc4 hL hi6 (by omega) hnc hns hR nx)
        · exact go_tabI f199_33 (by rw [hx]; decide) (by rw [hx]; decide) (off := 282) (t := 315) (by rw [hx]; decide) (by decide) (lc5 hL hi6 (by omega) hnc hns hR nx)
        · exact go_tabI f199_33 (by rw [hx]; decide) (by rw [hx]; decide) (off := 315) (t := 348) (by rw [hx]; decide) (by decide) (lc6 hL hi6 (by omega) hnc hns hR nx)
        · exact go_tabI f199_33 (by rw [hx]; decide) (by rw [hx]; decide) (off := 348) (t := 381) (by rw [hx]; decide) (by decide) (lc7 hL hi6 (by omega) hnc hns hR nx)
        · exact go_tabI f199_33 (by rw [hx]; decide) (by rw [hx]; decide) (off := 391) (t := 424) (by rw [hx]; decide) (by decide) (lc8 hL hi6 (by omega) hnc hns hR nx)
        · exact go_tabI f199_33 (by rw [hx]; decide) (by rw [hx]; decide) (off := 404) (t := 437) (by rw [hx]; decide) (by decide) (lc9 hL hi6 (by omega) hnc hns hR nx)
        · exact go_tabI f199_33 (by rw [hx]; decide) (by rw [hx]; decide) (off := 417) (t := 450) (by rw [hx]; decide) (by decide) (lc10 hL hi6 (by omega) hnc hns hR nx)
        · exact go_tabI f199_33 (by rw [hx]; decide) (by rw [hx]; decide) (off := 430) (t := 463) (by rw [hx]; decide) (by decide) (lc11 hL hi6 (by omega) hnc hns hR nx)
        · exact go_tabI f199_33 (by rw [hx]; decide) (by rw [hx]; decide) (off := 463) (t := 496) (by rw [hx]; decide) (by decide) (lc12 hL hi6 (by omega) hnc hns hR nx)
        · exact go_tabI f199_33 (by rw [hx]; decide) (by rw [hx]; decide) (off := 496) (t := 529) (by rw [hx]; decide) (by decide) (lc13 hL hi6 (by omega) hnc hns hR nx)
        · exact go_tabI f199_33 (by rw [hx]; decide) (by rw [hx]; decide) (off := 519) (t := 552) (by rw [hx]; decide) (by decide) (lc14 hL hi6 (by omega) hnc hns hR nx)
        · exact go_tabI f199_33 (by rw [hx]; decide) (by rw [hx]; decide) (off := 532) (t := 565) (by rw [hx]; decide) (by decide) (lc15 hL hi6 (by omega) hnc hns hR nx)
        · exact go_tabI f199_33 (by rw [hx]; decide) (by rw [hx]; decide) (off := 555) (t := 588) (by rw [hx]; decide) (by decide) (lc16 hL hi6 (by omega) hnc hns hR nx)
        · exact go_tabI f199_33 (by rw [hx]; decide) (by rw [hx]; decide) (off := 568) (t := 601) (by rw [hx]; decide) (by decide) (lc17 hL hi6 (by omega) hnc hns hR nx)
        · exact go_tabI f199_33 (by rw [hx]; decide) (by rw [hx]; decide) (off := 581) (t := 614) (by rw [hx]; decide) (by decide) (lc18 hL hi6 (by omega) hnc hns hR nx)
        · exact go_tabI f199_33 (by rw [hx]; decide) (by rw [hx]; decide) (off := 604) (t := 637) (by rw [hx]; decide) (by decide) (lc19 hL hi6 (by omega) hnc hns hR nx)
        · exact go_tabI f199_33 (by rw [hx]; decide) (by rw [hx]; decide) (off := 617) (t := 650) (by rw [hx]; decide) (by decide) (lc20 hL hi6 (by omega) hnc hns hR nx)
        · exact go_tabI f199_33 (by rw [hx]; decide) (by rw [hx]; decide) (off := 631) (t := 664) (by rw [hx]; decide) (by decide) (lc21 hL hi6 (by omega) hnc hns hR nx)
        · exact go_tabI f199_33 (by rw [hx]; decide) (by rw [hx]; decide) (off := 654) (t := 687) (by rw [hx]; decide) (by decide) (lc22 hL hi6 (by omega) hnc hns hR nx)
        · exact go_tabI f199_33 (by rw [hx]; decide) (by rw [hx]; decide) (off := 677) (t := 710) (by rw [hx]; decide) (by decide) (lc23 hL hi6 (by omega) hnc hns hR nx)
        · exact go_tabI f199_33 (by rw [hx]; decide) (by rw [hx]; decide) (off := 700) (t := 733) (by rw [hx]; decide) (by decide) (lc24 hL hi6 (by omega) hnc hns hR nx)
        · exact go_tabI f199_33 (by rw [hx]; decide) (by rw [hx]; decide) (off := 723) (t := 756) (by rw [hx]; decide) (by decide) (lc25 hL hi6 (by omega) hnc hns hR nx)
        · exact go_tabI f199_33 (by rw [hx]; decide) (by rw [hx]; decide) (off := 766) (t := 799) (by rw [hx]; decide) (by decide) (lc26 hL hi6 (by omega) hnc hns hR nx)
        · exact go_tabI f199_33 (by rw [hx]; decide) (by rw [hx]; decide) (off := 789) (t := 822) (by rw [hx]; decide) (by decide) (lc27 hL hi6 (by omega) hnc hns hR nx)
        · exact go_tabI f199_33 (by rw [hx]; decide) (by rw [hx]; decide) (off := 842) (t := 875) (by rw [hx]; decide) (by decide) (lc28 hL hi6 (by omega) hnc hns hR nx)
        · exact go_tabI f199_33 (by rw [hx]; decide) (by rw [hx]; decide) (off := 885) (t := 918) (by rw [hx]; decide) (by decide) (lc29 hL hi6 (by omega) hnc hns hR nx)
        · exact go_tabI f199_33 (by rw [hx]; decide) (by rw [hx]; decide) (off := 948) (t := 981) (by rw [hx]; decide) (by decide) (lc30 hL hi6 (by omega) hnc hns hR nx)
        · exact go_tabI f199_33 (by rw [hx]; decide) (by rw [hx]; decide) (off := 981) (t := 1014) (by rw [hx]; decide) (by decide) (lc31 hL hi6 (by omega) hnc hns hR nx)
        · exact go_tabI f199_33 (by rw [hx]; decide) (by rw [hx]; decide) (off := 1004) (t := 1037) (by rw [hx]; decide) (by decide) (lc32 hL hi6 (by omega) hnc hns hR nx)
theorem gm_law : ∀ (L : Nat) (xs : Nat → Int32), L ≤ 3072 → Go L xs 199 0 [some (.retAddr 0), none, none, none] [] gm_h0 0 0 (fun v _ => v = .int 1) := by
  intro L xs hL
  show Go L xs 199 0 [some (.retAddr 0), none, none, none] [] (SH.take 0, gcI [], zL, gcR []) 0 0 (fun v _ => v = .int 1)
  refine gw_new f199_0 pq199 (n' := 1) (cw := _) rfl rfl rfl rfl rfl (frI rfl) (frR rfl) ?_
  refine go_dup f199_3 rfl ?_
  refine gw_cI f199_4 (by decide) (vs := []) (r := 0) (rest := [.ref 0]) (en := [some (.ref 0), none]) rfl pq70 pq199 rfl rfl rfl rfl rfl rfl rfl (gi70 ?_)
  refine gw_st1 f199_7 (ls' := [some (.retAddr 0), some (.ref 0), none, none]) rfl rfl rfl rfl ?_
  refine gw_new f199_8 pq199 (n' := 48) (cw := _) rfl rfl rfl rfl rfl (frI rfl) (frR rfl) ?_
  refine go_dup f199_11 rfl ?_
  refine gw_cI f199_12 (by decide) (vs := []) (r := 47) (rest := [.ref 47]) (en := [some (.ref 47), none]) rfl pq113 pq199 rfl rfl rfl rfl rfl rfl rfl (gi113 ?_)
  refine gw_st1 f199_15 (ls' := [some (.retAddr 0), some (.ref 0), some (.ref 47), none]) rfl rfl rfl rfl ?_
  refine go_psh f199_16 (v := .int 0) (by decide) ?_
  refine gw_st1 f199_17 (ls' := lsL 0) rfl rfl rfl rfl ?_
  have h := l_loop (L := L) (xs := xs) (nc := 70) (ns := 4988) hL (by decide) (by decide) (L + 1) 0 mi0 zL (by omega) (by omega) rel0
  rw [← tR_MR, ← SH_all] at h
  exact h
