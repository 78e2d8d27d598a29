set_option maxRecDepth 100000 in
theorem gm_lwB : cd_199.all (fun r => gm_lk 12 r.1 11 434 r.2.2.1 r.2.2.2.1 r.2.2.2.2.1 r.2.2.2.2.2.1 r.2.2.2.2.2.2) = true := by decide +kernel
theorem gm_all_cut {α : Type} (f : α → Bool) (l : List α) (j c : Nat) (h1 : ((l.drop j).take c).all f = true) (h2 : (l.drop (j + c)).all f = true) : (l.drop j).all f = true := by
  rw [← List.take_append_drop c (l.drop j), List.all_append, h1, Bool.true_and, List.drop_drop]
  exact h2
theorem gm_lwA : cd_199.all (fun r => gm_c1 code r) = true := by
  show (cd_199.drop 0).all _ = true
  refine gm_all_cut _ _ 0 50 gm_lw0 ?_
  refine gm_all_cut _ _ 50 50 gm_lw1 ?_
  refine gm_all_cut _ _ 100 50 gm_lw2 ?_
  refine gm_all_cut _ _ 150 50 gm_lw3 ?_
  refine gm_all_cut _ _ 200 50 gm_lw4 ?_
  refine gm_all_cut _ _ 250 50 gm_lw5 ?_
  refine gm_all_cut _ _ 300 50 gm_lw6 ?_
  refine gm_all_cut _ _ 350 50 gm_lw7 ?_
  refine gm_all_cut _ _ 400 50 gm_lw8 ?_
  refine gm_all_cut _ _ 450 50 gm_lw9 ?_
  refine gm_all_cut _ _ 500 50 gm_lw10 ?_
  refine gm_all_cut _ _ 550 50 gm_lw11 ?_
  refine gm_all_cut _ _ 600 50 gm_lw12 ?_
  refine gm_all_cut _ _ 650 49 gm_lw13 ?_
  rw [List.drop_eq_nil_of_le (by decide +kernel)]; rfl
theorem gm_ckL : ((gm_PT.drop 199).take 1).all gm_cM = true := by
  show (gm_cM (yL_law, cL_law, 4, some .boolean, 12, 1, 11, 434, 600000, 7302250, cd_199) && true) = true
  rw [Bool.and_true]
  show cd_199.all (fun r => gm_c1 code r && gm_lk 12 r.1 11 434 r.2.2.1 r.2.2.2.1 r.2.2.2.2.1 r.2.2.2.2.2.1 r.2.2.2.2.2.2) = true
  rw [List.all_eq_true]
  intro r hr
  rw [List.all_eq_true.mp gm_lwA r hr, List.all_eq_true.mp gm_lwB r hr]
  rfl
theorem gm_ck : gm_PT.all gm_cM = true := by
  show (gm_PT.drop 0).all _ = true
  refine gm_all_cut _ _ 0 45 gm_ck0 ?_
  refine gm_all_cut _ _ 45 40 gm_ck1 ?_
  refine gm_all_cut _ _ 85 28 gm_ck2 ?_
  refine gm_all_cut _ _ 113 27 gm_ck3 ?_
  refine gm_all_cut _ _ 140 30 gm_ck4 ?_
  refine gm_all_cut _ _ 170 29 gm_ck5 ?_
  refine gm_all_cut _ _ 199 1 gm_ckL ?_
  rw [List.drop_eq_nil_of_le (by decide +kernel)]; rfl
