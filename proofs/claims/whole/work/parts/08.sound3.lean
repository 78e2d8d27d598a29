/-! each rule holds of the machine: instructions on the frame alone -/
theorem gm_lat {G : gm_G} {lo : Array Slot} {n : Nat} {ls : gm_L} (hl : lv_has lo n (gm_al (gm_cv G) 0 ls)) {k : Nat} {v : Value} (h : ls[k]? = some (some v)) : lo[k]? = some (.val (gm_cv G v)) := by
  have := hl.2.2 (k, gm_cv G v) ((gm_al_mem _ _ _ _).mpr ⟨k, v, h, by rw [Nat.zero_add]⟩)
  exact this
section GmA
variable (l : Launch) (G : gm_G) (L : Nat) (xs : Nat → Int32)
set_option maxHeartbeats 4000000 in
theorem sd_psh : rl_psh L xs (gm_SP l G L xs) := by
  intro m pc nx lk a b z ls st h nc ns Q ins v hf hv k q hq p e s mid args below meth c H locs lo C hW hS hl hn
  have K := k q hq p e s mid args below meth c H locs lo C hW hS hl hn
  obtain ⟨hx, hb, hml, hown, hts, -⟩ := C
  cases ins <;> first | (cases hv; done) | skip
  case aconst_null =>
    obtain ⟨rfl, hd⟩ := gm_at hq hf rfl
    cases hv
    exact lv_null hx hb hd K
  case bipush n =>
    obtain ⟨rfl, hd⟩ := gm_at hq hf rfl
    cases hv
    exact lv_bipush hx hb hd rfl K
  case iconst n =>
    obtain ⟨rfl, hd⟩ := gm_at hq hf rfl
    cases hv
    exact lv_iconst hx hb hd rfl K
  case lconst n =>
    obtain ⟨rfl, hd⟩ := gm_at hq hf rfl
    cases hv
    exact lv_lconst hx hb hd rfl K
  case ldc n =>
    obtain ⟨rfl, hd⟩ := gm_at hq hf rfl
    cases hv
    exact lv_ldc hx hb hown (hts _ (gm_klk (of_decide_eq_true (gm_fe hq hf).2))) hd K
  case ldc_w n =>
    obtain ⟨rfl, hd⟩ := gm_at hq hf rfl
    cases hv
    exact lv_ldcw hx hb hown (hts _ (gm_klk (of_decide_eq_true (gm_fe hq hf).2))) hd K
  case ldc2_w n =>
    obtain ⟨rfl, hd⟩ := gm_at hq hf rfl
    cases hv
    exact lv_ldc2 hx hb hown (hts _ (gm_llk (of_decide_eq_true (gm_fe hq hf).2))) hd K
  case sipush n =>
    obtain ⟨rfl, hd⟩ := gm_at hq hf rfl
    cases hv
    exact lv_sipush hx hb hd rfl K
set_option maxHeartbeats 4000000 in
theorem sd_ld : rl_ld L xs (gm_SP l G L xs) := by
  intro m pc nx lk a b z ls st h nc ns Q ins v k hf hv hk g q hq p e s mid args below meth c H locs lo C hW hS hl hn
  have K := g q hq p e s mid args below meth c H locs lo C hW hS hl hn
  obtain ⟨hx, hb, hml, hown, hts, -⟩ := C
  have ha := gm_lat hl hk
  cases ins <;> first | (cases hv; done) | skip
  case aload n =>
    obtain ⟨rfl, hd⟩ := gm_at hq hf rfl
    cases v <;> first | (simp [gm_ldi, gm_kd] at hv; done) | skip
    case null => simp [gm_ldi, gm_kd] at hv; subst hv; exact lv_aloadN hx hb hd ha K
    case ref r => simp [gm_ldi, gm_kd] at hv; subst hv; exact lv_aload hx hb hd ha K
    case retAddr r => simp [gm_ldi, gm_kd] at hv; subst hv; exact lv_aload hx hb hd ha K
  case aload_n n =>
    obtain ⟨rfl, hd⟩ := gm_at hq hf rfl
    cases v <;> first | (simp [gm_ldi, gm_kd] at hv; done) | skip
    case null => simp [gm_ldi, gm_kd] at hv; exact lv_aload_nN hx hb hd hv ha K
    case ref r => simp [gm_ldi, gm_kd] at hv; exact lv_aload_n hx hb hd hv ha K
    case retAddr r => simp [gm_ldi, gm_kd] at hv; exact lv_aload_n hx hb hd hv ha K
  case iload n =>
    obtain ⟨rfl, hd⟩ := gm_at hq hf rfl
    cases v <;> first | (simp [gm_ldi, gm_kd] at hv; done) | skip
    case int r => simp [gm_ldi, gm_kd] at hv; subst hv; exact lv_iload hx hb hd ha K
  case iload_n n =>
    obtain ⟨rfl, hd⟩ := gm_at hq hf rfl
    cases v <;> first | (simp [gm_ldi, gm_kd] at hv; done) | skip
    case int r => simp [gm_ldi, gm_kd] at hv; exact lv_iload_n hx hb hd hv ha K
  case lload n =>
    obtain ⟨rfl, hd⟩ := gm_at hq hf rfl
    cases v <;> first | (simp [gm_ldi, gm_kd] at hv; done) | skip
    case long r => simp [gm_ldi, gm_kd] at hv; subst hv; exact lv_lload hx hb hd ha K
  case lload_n n =>
    obtain ⟨rfl, hd⟩ := gm_at hq hf rfl
    cases v <;> first | (simp [gm_ldi, gm_kd] at hv; done) | skip
    case long r => simp [gm_ldi, gm_kd] at hv; exact lv_lload_n hx hb hd hv ha K
set_option maxHeartbeats 4000000 in
theorem sd_st1 : rl_st1 L xs (gm_SP l G L xs) := by
  intro m pc nx lk a b z ls st h nc ns Q ins v k hf hv h1 hk g q hq p e s mid args below meth c H locs lo C hW hS hl hn
  have K : ∀ lo', lv_has lo' q.2.2.1 ((k, gm_cv G v) :: (gm_al (gm_cv G) 0 ls).filter (fun q => !(q.1 == k) && !(q.1 + 1 == k && q.2.category == 2))) → _ := fun lo' hl' => g q hq p e s mid args below meth c H locs lo' C hW hS (gm_has_sub hl' (gm_s1_sub G ls k v)) (by rw [gm_s1_len]; exact hn)
  obtain ⟨hx, hb, hml, hown, hts, -⟩ := C
  have hkn : k < q.2.2.1 := by rw [← hn]; exact hk
  cases ins <;> first | (cases hv; done) | skip
  case astore n =>
    obtain ⟨rfl, hd⟩ := gm_at hq hf rfl
    cases v <;> first | (simp [gm_sti, gm_kd] at hv; done) | skip
    case null => simp [gm_sti, gm_kd] at hv; subst hv; exact lv_astoreN hx hb hd hl hkn rfl K
    case ref r => simp [gm_sti, gm_kd] at hv; subst hv; exact lv_astore hx hb hd hl hkn rfl K
    case retAddr r => simp [gm_sti, gm_kd] at hv; subst hv; exact lv_astore hx hb hd hl hkn rfl K
  case astore_n n =>
    obtain ⟨rfl, hd⟩ := gm_at hq hf rfl
    cases v <;> first | (simp [gm_sti, gm_kd] at hv; done) | skip
    case null => simp [gm_sti, gm_kd] at hv; exact lv_astore_nN hx hb hd hv hl hkn rfl K
    case ref r => simp [gm_sti, gm_kd] at hv; exact lv_astore_n hx hb hd hv hl hkn rfl K
    case retAddr r => simp [gm_sti, gm_kd] at hv; exact lv_astore_n hx hb hd hv hl hkn rfl K
  case istore n =>
    obtain ⟨rfl, hd⟩ := gm_at hq hf rfl
    cases v <;> first | (simp [gm_sti, gm_kd] at hv; done) | skip
    case int r => simp [gm_sti, gm_kd] at hv; subst hv; exact lv_istore hx hb hd hl hkn rfl K
  case istore_n n =>
    obtain ⟨rfl, hd⟩ := gm_at hq hf rfl
    cases v <;> first | (simp [gm_sti, gm_kd] at hv; done) | skip
    case int r => simp [gm_sti, gm_kd] at hv; exact lv_istore_n hx hb hd hv hl hkn rfl K
  case lstore n =>
    cases v <;> first | (simp [gm_sti, gm_kd] at hv; done) | exact absurd rfl h1
  case lstore_n n =>
    cases v <;> first | (simp [gm_sti, gm_kd] at hv; done) | exact absurd rfl h1
set_option maxHeartbeats 4000000 in
theorem sd_st2 : rl_st2 L xs (gm_SP l G L xs) := by
  intro m pc nx lk a b z ls st h nc ns Q ins x k hf hv hk g q hq p e s mid args below meth c H locs lo C hW hS hl hn
  have K : ∀ lo', lv_has lo' q.2.2.1 ((k, gm_cv G (.long x)) :: (gm_al (gm_cv G) 0 ls).filter (fun q => !(q.1 == k) && (!(q.1 == k + 1) && !(q.1 + 1 == k && q.2.category == 2)))) → _ := fun lo' hl' => g q hq p e s mid args below meth c H locs lo' C hW hS (gm_has_sub hl' (gm_s2_sub G ls k (.long x))) (by rw [gm_s2_len]; exact hn)
  obtain ⟨hx, hb, hml, hown, hts, -⟩ := C
  have hkn : k + 1 < q.2.2.1 := by rw [← hn]; exact hk
  cases ins <;> first | (cases hv; done) | (simp [gm_sti] at hv; done) | skip
  case lstore n =>
    obtain ⟨rfl, hd⟩ := gm_at hq hf rfl
    simp [gm_sti] at hv; subst hv
    exact lv_lstore hx hb hd hl hkn rfl K
  case lstore_n n =>
    obtain ⟨rfl, hd⟩ := gm_at hq hf rfl
    simp [gm_sti] at hv
    exact lv_lstore_n hx hb hd hv hl hkn rfl K
set_option maxHeartbeats 4000000 in
theorem sd_inc : rl_inc L xs (gm_SP l G L xs) := by
  intro m pc nx lk a b z ls st h nc ns Q k n x hf hk g q hq p e s mid args below meth c H locs lo C hW hS hl hn
  have K : ∀ lo', lv_has lo' q.2.2.1 ((k, gm_cv G (.int (x + Int32.ofInt n))) :: (gm_al (gm_cv G) 0 ls).filter (fun q => !(q.1 == k) && !(q.1 + 1 == k && q.2.category == 2))) → _ := fun lo' hl' => g q hq p e s mid args below meth c H locs lo' C hW hS (gm_has_sub hl' (gm_s1_sub G ls k (.int (x + Int32.ofInt n)))) (by rw [gm_s1_len]; exact hn)
  obtain ⟨hx, hb, hml, hown, hts, -⟩ := C
  have hkl : k < ls.length := (List.getElem?_eq_some_iff.mp hk).1
  have hkn : k < q.2.2.1 := by rw [← hn]; exact hkl
  obtain ⟨rfl, hd⟩ := gm_at hq hf rfl
  obtain ⟨i, hi⟩ := List.getElem?_of_mem ((gm_al_mem (gm_cv G) ls 0 (k, .int x)).mpr ⟨k, .int x, hk, by rw [Nat.zero_add]; rfl⟩)
  exact lv_iinc hx hb hd hl hi rfl hkn rfl K
set_option maxHeartbeats 4000000 in
theorem sd_bin : rl_bin L xs (gm_SP l G L xs) := by
  intro m pc nx lk a b z ls st h nc ns Q ins f x y hf hv g q hq p e s mid args below meth c H locs lo C hW hS hl hn
  have K := g q hq p e s mid args below meth c H locs lo C hW hS hl hn
  obtain ⟨hx, hb, hml, hown, hts, -⟩ := C
  cases ins <;> first | (cases hv; done) | skip
  case iadd => obtain ⟨rfl, hd⟩ := gm_at hq hf rfl; cases hv; exact lv_iadd hx hb hd K
  case isub => obtain ⟨rfl, hd⟩ := gm_at hq hf rfl; cases hv; exact lv_isub hx hb hd K
  case imul => obtain ⟨rfl, hd⟩ := gm_at hq hf rfl; cases hv; exact lv_imul hx hb hd K
  case iand => obtain ⟨rfl, hd⟩ := gm_at hq hf rfl; cases hv; exact lv_iand hx hb hd K
  case ior => obtain ⟨rfl, hd⟩ := gm_at hq hf rfl; cases hv; exact lv_ior hx hb hd K
  case ixor => obtain ⟨rfl, hd⟩ := gm_at hq hf rfl; cases hv; exact lv_ixor hx hb hd K
  case ishl => obtain ⟨rfl, hd⟩ := gm_at hq hf rfl; cases hv; exact lv_ishl hx hb hd K
  case iushr => obtain ⟨rfl, hd⟩ := gm_at hq hf rfl; cases hv; exact lv_iushr hx hb hd rfl K
set_option maxHeartbeats 4000000 in
theorem sd_div : rl_div L xs (gm_SP l G L xs) := by
  intro m pc nx lk a b z ls st h nc ns Q x y hf hv g q hq p e s mid args below meth c H locs lo C hW hS hl hn
  have K := g q hq p e s mid args below meth c H locs lo C hW hS hl hn
  obtain ⟨rfl, hd⟩ := gm_at hq hf rfl
  exact lv_idiv C.1 C.2.1 hd hv K
set_option maxHeartbeats 4000000 in
theorem sd_rem : rl_rem L xs (gm_SP l G L xs) := by
  intro m pc nx lk a b z ls st h nc ns Q x y hf hv g q hq p e s mid args below meth c H locs lo C hW hS hl hn
  have K := g q hq p e s mid args below meth c H locs lo C hW hS hl hn
  obtain ⟨rfl, hd⟩ := gm_at hq hf rfl
  exact lv_irem C.1 C.2.1 hd hv K
set_option maxHeartbeats 4000000 in
theorem sd_un : rl_un L xs (gm_SP l G L xs) := by
  intro m pc nx lk a b z ls st h nc ns Q ins f x hf hv g q hq p e s mid args below meth c H locs lo C hW hS hl hn
  have K := g q hq p e s mid args below meth c H locs lo C hW hS hl hn
  obtain ⟨hx, hb, hml, hown, hts, -⟩ := C
  cases ins <;> first | (cases hv; done) | skip
  case ineg => obtain ⟨rfl, hd⟩ := gm_at hq hf rfl; cases hv; exact lv_ineg hx hb hd K
  case i2c => obtain ⟨rfl, hd⟩ := gm_at hq hf rfl; cases hv; exact lv_i2c hx hb hd rfl K
set_option maxHeartbeats 4000000 in
theorem sd_binl : rl_binl L xs (gm_SP l G L xs) := by
  intro m pc nx lk a b z ls st h nc ns Q ins f x y hf hv g q hq p e s mid args below meth c H locs lo C hW hS hl hn
  have K := g q hq p e s mid args below meth c H locs lo C hW hS hl hn
  obtain ⟨hx, hb, hml, hown, hts, -⟩ := C
  cases ins <;> first | (cases hv; done) | skip
  case ladd => obtain ⟨rfl, hd⟩ := gm_at hq hf rfl; cases hv; exact lv_ladd hx hb hd K
  case lsub => obtain ⟨rfl, hd⟩ := gm_at hq hf rfl; cases hv; exact lv_lsub hx hb hd K
  case lmul => obtain ⟨rfl, hd⟩ := gm_at hq hf rfl; cases hv; exact lv_lmul hx hb hd K
  case land => obtain ⟨rfl, hd⟩ := gm_at hq hf rfl; cases hv; exact lv_land hx hb hd K
  case lor => obtain ⟨rfl, hd⟩ := gm_at hq hf rfl; cases hv; exact lv_lor hx hb hd K
set_option maxHeartbeats 4000000 in
theorem sd_shl : rl_shl L xs (gm_SP l G L xs) := by
  intro m pc nx lk a b z ls st h nc ns Q ins f x y hf hv g q hq p e s mid args below meth c H locs lo C hW hS hl hn
  have K := g q hq p e s mid args below meth c H locs lo C hW hS hl hn
  obtain ⟨hx, hb, hml, hown, hts, -⟩ := C
  cases ins <;> first | (cases hv; done) | skip
  case lshl => obtain ⟨rfl, hd⟩ := gm_at hq hf rfl; cases hv; exact lv_lshl hx hb hd rfl K
  case lshr => obtain ⟨rfl, hd⟩ := gm_at hq hf rfl; cases hv; exact lv_lshr hx hb hd rfl K
  case lushr => obtain ⟨rfl, hd⟩ := gm_at hq hf rfl; cases hv; exact lv_lushr hx hb hd rfl K
set_option maxHeartbeats 4000000 in
theorem sd_lcmp : rl_lcmp L xs (gm_SP l G L xs) := by
  intro m pc nx lk a b z ls st h nc ns Q x y hf g q hq p e s mid args below meth c H locs lo C hW hS hl hn
  have K := g q hq p e s mid args below meth c H locs lo C hW hS hl hn
  obtain ⟨rfl, hd⟩ := gm_at hq hf rfl
  exact W.lcmp C.1 C.2.1 hd K
set_option maxHeartbeats 4000000 in
theorem sd_i2l : rl_i2l L xs (gm_SP l G L xs) := by
  intro m pc nx lk a b z ls st h nc ns Q x hf g q hq p e s mid args below meth c H locs lo C hW hS hl hn
  have K := g q hq p e s mid args below meth c H locs lo C hW hS hl hn
  obtain ⟨rfl, hd⟩ := gm_at hq hf rfl
  exact lv_i2l C.1 C.2.1 hd rfl K
set_option maxHeartbeats 4000000 in
theorem sd_l2i : rl_l2i L xs (gm_SP l G L xs) := by
  intro m pc nx lk a b z ls st h nc ns Q x hf g q hq p e s mid args below meth c H locs lo C hW hS hl hn
  have K := g q hq p e s mid args below meth c H locs lo C hW hS hl hn
  obtain ⟨rfl, hd⟩ := gm_at hq hf rfl
  exact lv_l2i C.1 C.2.1 hd rfl K
set_option maxHeartbeats 4000000 in
theorem sd_dup : rl_dup L xs (gm_SP l G L xs) := by
  intro m pc nx lk a b z ls st h nc ns Q v hf hv g q hq p e s mid args below meth c H locs lo C hW hS hl hn
  have K := g q hq p e s mid args below meth c H locs lo C hW hS hl hn
  obtain ⟨rfl, hd⟩ := gm_at hq hf rfl
  exact lv_dup C.1 C.2.1 hd (by rw [gm_cv_cat]; exact hv) K
set_option maxHeartbeats 4000000 in
theorem sd_pop : rl_pop L xs (gm_SP l G L xs) := by
  intro m pc nx lk a b z ls st h nc ns Q v hf hv g q hq p e s mid args below meth c H locs lo C hW hS hl hn
  have K := g q hq p e s mid args below meth c H locs lo C hW hS hl hn
  obtain ⟨rfl, hd⟩ := gm_at hq hf rfl
  exact lv_pop C.1 C.2.1 hd (by rw [gm_cv_cat]; exact hv) K
set_option maxHeartbeats 4000000 in
theorem sd_dup2 : rl_dup2 L xs (gm_SP l G L xs) := by
  intro m pc nx lk a b z ls st h nc ns Q v w hf hv hw g q hq p e s mid args below meth c H locs lo C hW hS hl hn
  have K := g q hq p e s mid args below meth c H locs lo C hW hS hl hn
  obtain ⟨rfl, hd⟩ := gm_at hq hf rfl
  exact lv_dup2_11 C.1 C.2.1 hd (by rw [gm_cv_cat]; exact hv) (by rw [gm_cv_cat]; exact hw) K
set_option maxHeartbeats 4000000 in
theorem sd_if : rl_if L xs (gm_SP l G L xs) := by
  intro m pc nx lk a b z ls st h nc ns Q cd off x hf g0 g1 q hq p e s mid args below meth c H locs lo C hW hS hl hn
  have K0 := fun cc => g0 cc q hq p e s mid args below meth c H locs lo C hW hS hl hn
  have K1 := fun cc => g1 cc q hq p e s mid args below meth c H locs lo C hW hS hl hn
  have ht : (pc : Int) + off = (a : Int) := of_decide_eq_true (gm_fe hq hf).2
  obtain ⟨rfl, hd⟩ := gm_at hq hf rfl
  cases cd
  · exact lv_if_eq C.1 C.2.1 hd ht K0 K1
  · exact lv_if_ne C.1 C.2.1 hd ht K0 (fun hz => K1 (fun hn => hn hz))
  · exact lv_if_lt C.1 C.2.1 hd ht K0 K1
  · exact lv_if_ge C.1 C.2.1 hd ht K0 K1
  · exact lv_if_gt C.1 C.2.1 hd ht K0 K1
  · exact lv_if_le C.1 C.2.1 hd ht K0 K1
set_option maxHeartbeats 4000000 in
theorem sd_icmp : rl_icmp L xs (gm_SP l G L xs) := by
  intro m pc nx lk a b z ls st h nc ns Q cd off x y hf g0 g1 q hq p e s mid args below meth c H locs lo C hW hS hl hn
  have K0 := fun cc => g0 cc q hq p e s mid args below meth c H locs lo C hW hS hl hn
  have K1 := fun cc => g1 cc q hq p e s mid args below meth c H locs lo C hW hS hl hn
  have ht : (pc : Int) + off = (a : Int) := of_decide_eq_true (gm_fe hq hf).2
  obtain ⟨rfl, hd⟩ := gm_at hq hf rfl
  cases cd
  · exact lv_icmp_eq C.1 C.2.1 hd ht K0 K1
  · exact lv_icmp_ne C.1 C.2.1 hd ht K0 (fun hz => K1 (fun hn => hn hz))
  · exact lv_icmp_lt C.1 C.2.1 hd ht K0 K1
  · exact lv_icmp_ge C.1 C.2.1 hd ht K0 K1
  · exact lv_icmp_gt C.1 C.2.1 hd ht K0 K1
  · exact lv_icmp_le C.1 C.2.1 hd ht K0 K1
set_option maxHeartbeats 4000000 in
theorem sd_goto : rl_goto L xs (gm_SP l G L xs) := by
  intro m pc nx lk a b z ls st h nc ns Q off hf g q hq p e s mid args below meth c H locs lo C hW hS hl hn
  have ht : (pc : Int) + off = (a : Int) := of_decide_eq_true (gm_fe hq hf).2
  exact lv_goto C.1 C.2.1 (gm_at hq hf rfl).2 ht (g q hq p e s mid args below meth c H locs lo C hW hS hl hn)
set_option maxHeartbeats 4000000 in
theorem sd_ifnull : rl_ifnull L xs (gm_SP l G L xs) := by
  intro m pc nx lk a b z ls st h nc ns Q off r hf g q hq p e s mid args below meth c H locs lo C hW hS hl hn
  have K := g q hq p e s mid args below meth c H locs lo C hW hS hl hn
  obtain ⟨rfl, hd⟩ := gm_at hq hf rfl
  exact lv_ifnull C.1 C.2.1 hd K
set_option maxHeartbeats 4000000 in
theorem sd_ifnullN : rl_ifnullN L xs (gm_SP l G L xs) := by
  intro m pc nx lk a b z ls st h nc ns Q off hf g q hq p e s mid args below meth c H locs lo C hW hS hl hn
  have ht : (pc : Int) + off = (a : Int) := of_decide_eq_true (gm_fe hq hf).2
  exact lv_ifnullN C.1 C.2.1 (gm_at hq hf rfl).2 ht (g q hq p e s mid args below meth c H locs lo C hW hS hl hn)
set_option maxHeartbeats 4000000 in
theorem sd_ifnn : rl_ifnn L xs (gm_SP l G L xs) := by
  intro m pc nx lk a b z ls st h nc ns Q off r hf g q hq p e s mid args below meth c H locs lo C hW hS hl hn
  have ht : (pc : Int) + off = (a : Int) := of_decide_eq_true (gm_fe hq hf).2
  exact lv_ifnonnull C.1 C.2.1 (gm_at hq hf rfl).2 ht (g q hq p e s mid args below meth c H locs lo C hW hS hl hn)
set_option maxHeartbeats 4000000 in
theorem sd_ifnnN : rl_ifnnN L xs (gm_SP l G L xs) := by
  intro m pc nx lk a b z ls st h nc ns Q off hf g q hq p e s mid args below meth c H locs lo C hW hS hl hn
  have K := g q hq p e s mid args below meth c H locs lo C hW hS hl hn
  obtain ⟨rfl, hd⟩ := gm_at hq hf rfl
  exact lv_ifnonnullN C.1 C.2.1 hd K
set_option maxHeartbeats 4000000 in
theorem sd_tabO : rl_tabO L xs (gm_SP l G L xs) := by
  intro m pc nx lk a b z ls st h nc ns Q d lo1 hi offs x t hf h1 h2 g q hq p e s mid args below meth c H locs lo C hW hS hl hn
  exact lv_tableOut C.1 C.2.1 (gm_atT hq hf) h1 h2 (g q hq p e s mid args below meth c H locs lo C hW hS hl hn)
set_option maxHeartbeats 4000000 in
theorem sd_tabI : rl_tabI L xs (gm_SP l G L xs) := by
  intro m pc nx lk a b z ls st h nc ns Q d lo1 hi off offs x t hf h1 h2 h3 h4 g q hq p e s mid args below meth c H locs lo C hW hS hl hn
  exact lv_tableIn C.1 C.2.1 (gm_atT hq hf) h1 h2 h3 h4 (g q hq p e s mid args below meth c H locs lo C hW hS hl hn)
theorem gm_dr_get : ∀ (ks : List Nat) (ls : gm_L) (j : Nat) (v : Value), (gm_dr ls ks)[j]? = some (some v) → ls[j]? = some (some v)
  | [], ls, j, v, h => h
  | k :: ks, ls, j, v, h => by
    have h1 := gm_dr_get ks (ls.set k none) j v h
    rw [List.getElem?_set] at h1
    split at h1
    · split at h1 <;> cases h1
    · exact h1
theorem gm_dr_len : ∀ (ks : List Nat) (ls : gm_L), (gm_dr ls ks).length = ls.length
  | [], _ => rfl
  | k :: ks, ls => by rw [gm_dr, gm_dr_len ks, List.length_set]
theorem sd_drop : rl_drop L xs (gm_SP l G L xs) := by
  intro m pc ls st h nc ns Q ks g q hq p e s mid args below meth c H locs lo C hW hS hl hn
  refine g q hq p e s mid args below meth c H locs lo C hW hS (gm_has_sub hl fun x hx => ?_) (by rw [gm_dr_len]; exact hn)
  obtain ⟨j, v, h1, rfl⟩ := (gm_al_mem _ _ _ _).mp hx
  exact (gm_al_mem _ _ _ _).mpr ⟨j, v, gm_dr_get ks ls j v h1, rfl⟩
end GmA
