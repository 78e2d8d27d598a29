/-! how many bits a long has -/
def mkb (m : Nat) : Nat → Nat
  | 0 => 0
  | k + 1 => m + 256 * mkb m k
theorem mkb_5 : mkb 85 8 = 6148914691236517205 := by decide
theorem mkb_3 : mkb 51 8 = 3689348814741910323 := by decide
theorem mkb_15 : mkb 15 8 = 1085102592571150095 := by decide
theorem tb_by {b r j : Nat} (hb : b < 256) : (b + 256 * r).testBit j = if j < 8 then b.testBit j else r.testBit (j - 8) := by
  rw [Nat.add_comm]
  exact Nat.testBit_two_pow_mul_add r (i := 8) hb j
theorem and_by {b r m M s : Nat} (hb : b < 256) (hm : m < 2 ^ (8 - s)) (hs : s ≤ 8) : ((b + 256 * r) / 2 ^ s) &&& (m + 256 * M) = ((b / 2 ^ s) &&& m) + 256 * ((r / 2 ^ s) &&& M) := by
  have hm256 : m < 256 := Nat.lt_of_lt_of_le hm (Nat.pow_le_pow_right (n := 2) (by decide) (show 8 - s ≤ 8 by omega))
  have hlt : (b / 2 ^ s) &&& m < 256 := Nat.lt_of_le_of_lt Nat.and_le_right hm256
  apply Nat.eq_of_testBit_eq
  intro i
  rw [tb_by hlt, Nat.testBit_and, tb_by hm256, Nat.testBit_div_two_pow, tb_by hb]
  by_cases hi : i < 8
  · rw [if_pos hi, if_pos hi, Nat.testBit_and, Nat.testBit_div_two_pow]
    by_cases h2 : s + i < 8
    · rw [if_pos (by omega)]
      try rfl
    · rw [Nat.testBit_lt_two_pow (Nat.lt_of_lt_of_le hm (Nat.pow_le_pow_right (by decide) (show 8 - s ≤ i by omega))), Bool.and_false, Bool.and_false]
  · rw [if_neg hi, if_neg hi, if_neg (by omega), Nat.testBit_and, Nat.testBit_div_two_pow]
    congr 2
    omega
def b1 (b : Nat) : Nat := b - ((b / 2) &&& 85)
def b2 (b : Nat) : Nat := (b &&& 51) + ((b / 4) &&& 51)
def b3 (b : Nat) : Nat := (b + b / 16) % 16
def w1 (k x : Nat) : Nat := x - ((x / 2) &&& mkb 85 k)
def w2 (k x : Nat) : Nat := (x &&& mkb 51 k) + ((x / 4) &&& mkb 51 k)
def w3 (k x : Nat) : Nat := (x + x / 16) &&& mkb 15 k
theorem w1_s {k b r : Nat} (hb : b < 256) : w1 (k + 1) (b + 256 * r) = b1 b + 256 * w1 k r := by
  unfold w1 b1
  have e : ((b + 256 * r) / 2) &&& mkb 85 (k + 1) = ((b / 2) &&& 85) + 256 * ((r / 2) &&& mkb 85 k) := and_by (s := 1) hb (by decide) (by decide)
  rw [e]
  have h1 : (b / 2) &&& 85 ≤ b / 2 := Nat.and_le_left
  have h2 : (r / 2) &&& mkb 85 k ≤ r / 2 := Nat.and_le_left
  omega
theorem w2_s {k b r : Nat} (hb : b < 256) : w2 (k + 1) (b + 256 * r) = b2 b + 256 * w2 k r := by
  unfold w2 b2
  have e : ((b + 256 * r) / 4) &&& mkb 51 (k + 1) = ((b / 4) &&& 51) + 256 * ((r / 4) &&& mkb 51 k) := and_by (s := 2) hb (by decide) (by decide)
  have e0 : (b + 256 * r) &&& mkb 51 (k + 1) = (b &&& 51) + 256 * (r &&& mkb 51 k) := by
    have := and_by (s := 0) (b := b) (r := r) (m := 51) (M := mkb 51 k) hb (by decide) (by decide)
    rw [mkb]
    simpa using this
  rw [e, e0]
  omega
theorem w3_s {k b r : Nat} (hb : b ≤ 102) (hr : r % 16 ≤ 6) : w3 (k + 1) (b + 256 * r) = b3 b + 256 * w3 k r := by
  unfold w3 b3
  have e : b + 256 * r + (b + 256 * r) / 16 = (b + b / 16 + 16 * (r % 16)) + 256 * (r + r / 16) := by omega
  have e0 : ((b + b / 16 + 16 * (r % 16)) + 256 * (r + r / 16)) &&& mkb 15 (k + 1) = ((b + b / 16 + 16 * (r % 16)) &&& 15) + 256 * ((r + r / 16) &&& mkb 15 k) := by
    have := and_by (s := 0) (b := b + b / 16 + 16 * (r % 16)) (r := r + r / 16) (m := 15) (M := mkb 15 k) (by omega) (by decide) (by decide)
    rw [mkb]
    simpa using this
  rw [e, e0]
  have e1 : (b + b / 16 + 16 * (r % 16)) &&& 15 = (b + b / 16 + 16 * (r % 16)) % 16 := Nat.and_two_pow_sub_one_eq_mod _ 4
  rw [e1]
  omega
theorem by_ok : ∀ b, b < 256 → b1 b < 256 ∧ b2 (b1 b) ≤ 102 ∧ b2 (b1 b) % 16 ≤ 6 ∧ b3 (b2 (b1 b)) = ct b 8 := by decide +kernel
theorem w_0 (k : Nat) : w1 k 0 = 0 ∧ w2 k 0 = 0 ∧ w3 k 0 = 0 := by
  unfold w1 w2 w3
  simp
theorem ct_by {b r n : Nat} (hb : b < 256) : ct (b + 256 * r) (8 + n) = ct b 8 + ct r n := by
  show fb_ct _ (8 + n) = _
  rw [fb_ct_split]
  congr 1
  · exact fb_ct_cong fun k hk => by rw [tb_by hb, if_pos hk]
  · exact fb_ct_cong fun k _ => by rw [tb_by hb, if_neg (by omega), show 8 + k - 8 = k by omega]
theorem pc_nat {x : Nat} (hx : x < 2 ^ 40) : ∃ c0 c1 c2 c3 c4, w3 8 (w2 8 (w1 8 x)) = c0 + 256 * (c1 + 256 * (c2 + 256 * (c3 + 256 * c4))) ∧ c0 ≤ 8 ∧ c1 ≤ 8 ∧ c2 ≤ 8 ∧ c3 ≤ 8 ∧ c4 ≤ 8 ∧ ct x 40 = c0 + c1 + c2 + c3 + c4 := by
  obtain ⟨a0, x1, ha0, rfl⟩ : ∃ a x1, a < 256 ∧ x = a + 256 * x1 := ⟨x % 256, x / 256, by omega, by omega⟩
  obtain ⟨a1, x2, ha1, rfl⟩ : ∃ a x2, a < 256 ∧ x1 = a + 256 * x2 := ⟨x1 % 256, x1 / 256, by omega, by omega⟩
  obtain ⟨a2, x3, ha2, rfl⟩ : ∃ a x3, a < 256 ∧ x2 = a + 256 * x3 := ⟨x2 % 256, x2 / 256, by omega, by omega⟩
  obtain ⟨a3, x4, ha3, rfl⟩ : ∃ a x4, a < 256 ∧ x3 = a + 256 * x4 := ⟨x3 % 256, x3 / 256, by omega, by omega⟩
  obtain ⟨a4, x5, ha4, rfl⟩ : ∃ a x5, a < 256 ∧ x4 = a + 256 * x5 := ⟨x4 % 256, x4 / 256, by omega, by omega⟩
  have hx5 : x5 = 0 := by omega
  subst hx5
  obtain ⟨p0, q0, r0, t0⟩ := by_ok a0 ha0
  obtain ⟨p1, q1, r1, t1⟩ := by_ok a1 ha1
  obtain ⟨p2, q2, r2, t2⟩ := by_ok a2 ha2
  obtain ⟨p3, q3, r3, t3⟩ := by_ok a3 ha3
  obtain ⟨p4, q4, r4, t4⟩ := by_ok a4 ha4
  have h1 : w1 8 (a0 + 256 * (a1 + 256 * (a2 + 256 * (a3 + 256 * (a4 + 256 * 0))))) = b1 a0 + 256 * (b1 a1 + 256 * (b1 a2 + 256 * (b1 a3 + 256 * (b1 a4 + 256 * 0)))) := by
    rw [w1_s ha0, w1_s ha1, w1_s ha2, w1_s ha3, w1_s ha4, (w_0 3).1]
  have h2 : w2 8 (b1 a0 + 256 * (b1 a1 + 256 * (b1 a2 + 256 * (b1 a3 + 256 * (b1 a4 + 256 * 0))))) = b2 (b1 a0) + 256 * (b2 (b1 a1) + 256 * (b2 (b1 a2) + 256 * (b2 (b1 a3) + 256 * (b2 (b1 a4) + 256 * 0)))) := by
    rw [w2_s p0, w2_s p1, w2_s p2, w2_s p3, w2_s p4, (w_0 3).2.1]
  have h3 : w3 8 (b2 (b1 a0) + 256 * (b2 (b1 a1) + 256 * (b2 (b1 a2) + 256 * (b2 (b1 a3) + 256 * (b2 (b1 a4) + 256 * 0))))) = b3 (b2 (b1 a0)) + 256 * (b3 (b2 (b1 a1)) + 256 * (b3 (b2 (b1 a2)) + 256 * (b3 (b2 (b1 a3)) + 256 * (b3 (b2 (b1 a4)) + 256 * 0)))) := by
    rw [w3_s q0 (by omega), w3_s q1 (by omega), w3_s q2 (by omega), w3_s q3 (by omega), w3_s q4 (by omega), (w_0 3).2.2]
  refine ⟨ct a0 8, ct a1 8, ct a2 8, ct a3 8, ct a4 8, ?_, fb_ct_le _ _, fb_ct_le _ _, fb_ct_le _ _, fb_ct_le _ _, fb_ct_le _ _, ?_⟩
  · rw [h1, h2, h3, t0, t1, t2, t3, t4]; omega
  · rw [show (40 : Nat) = 8 + (8 + (8 + (8 + (8 + 0)))) from rfl, ct_by ha0, ct_by ha1, ct_by ha2, ct_by ha3, ct_by ha4]
    show _ + (_ + (_ + (_ + (_ + 0)))) = _
    omega
theorem c195 {mi : Mi} {ml : Ml} {F : Int32 → Mi → Ml → Prop} {m : Nat} {x : Int64} (hx : x = lN m) (hm : m < 2 ^ 40) (h : F (nI (ct m 40)) mi ml) : Sg 195 0 [some (.long x), none] [] mi ml (qi F) := by
  subst hx
  obtain ⟨c0, c1, c2, c3, c4, e, d0, d1, d2, d3, d4, ec⟩ := pc_nat hm
  have k5 : (6148914691236517205 : Int64) = lN (mkb 85 8) := by rw [mkb_5]; rfl
  have k3 : (3689348814741910323 : Int64) = lN (mkb 51 8) := by rw [mkb_3]; rfl
  have k15 : (1085102592571150095 : Int64) = lN (mkb 15 8) := by rw [mkb_15]; rfl
  have s : ∀ (n k : Nat), n < 2 ^ 64 → k < 64 → lushr (lN n) (nI k) = lN (n / 2 ^ k) := fun n k hn hk => lushr_N hn hk
  have l5 : mkb 85 8 < 2 ^ 64 := by decide
  have l3 : mkb 51 8 < 2 ^ 63 := by decide
  have l15 : mkb 15 8 < 2 ^ 60 := by decide
  have E1 : lN m - ((lushr (lN m) 1) &&& 6148914691236517205) = lN (w1 8 m) := by
    rw [k5, show (1 : Int32) = nI 1 from rfl, s m 1 (by omega) (by decide), wb_and (by omega) l5]
    exact lN_sub (Nat.le_trans Nat.and_le_left (Nat.div_le_self _ _))
  have b1' : w1 8 m < 2 ^ 40 := Nat.lt_of_le_of_lt (Nat.sub_le _ _) hm
  have E2 : (lN (w1 8 m) &&& 3689348814741910323) + ((lushr (lN (w1 8 m)) 2) &&& 3689348814741910323) = lN (w2 8 (w1 8 m)) := by
    rw [k3, show (2 : Int32) = nI 2 from rfl, s _ 2 (by omega) (by decide), wb_and (by omega) (by omega), wb_and (by omega) (by omega), lN_add]
    rfl
  have b2' : w2 8 (w1 8 m) < 2 ^ 42 := by
    unfold w2
    have h1 : w1 8 m &&& mkb 51 8 ≤ w1 8 m := Nat.and_le_left
    have h2 : w1 8 m / 4 &&& mkb 51 8 ≤ w1 8 m / 4 := Nat.and_le_left
    omega
  have E3 : (lN (w2 8 (w1 8 m)) + (lushr (lN (w2 8 (w1 8 m))) 4)) &&& 1085102592571150095 = lN (w3 8 (w2 8 (w1 8 m))) := by
    rw [k15, show (4 : Int32) = nI 4 from rfl, s _ 4 (by omega) (by decide), lN_add, wb_and (by omega) (by omega)]
    rfl
  refine rg195_0 ?_
  rw [E1, E2, E3, e]
  obtain ⟨z, hz⟩ : ∃ z, z = c0 + 256 * (c1 + 256 * (c2 + 256 * (c3 + 256 * c4))) := ⟨_, rfl⟩
  rw [← hz]
  have E4 : lN z + lushr (lN z) 8 = lN (z + z / 256) := by
    rw [show (8 : Int32) = nI 8 from rfl, s _ 8 (by omega) (by decide), lN_add]
  have E5 : lN (z + z / 256) + lushr (lN (z + z / 256)) 16 = lN (z + z / 256 + (z + z / 256) / 65536) := by
    rw [show (16 : Int32) = nI 16 from rfl, s _ 16 (by omega) (by decide), lN_add]
  have E6 : lN (z + z / 256 + (z + z / 256) / 65536) + lushr (lN (z + z / 256 + (z + z / 256) / 65536)) 32 = lN (z + z / 256 + (z + z / 256) / 65536 + (z + z / 256 + (z + z / 256) / 65536) / 4294967296) := by
    rw [show (32 : Int32) = nI 32 from rfl, s _ 32 (by omega) (by decide), lN_add]
  rw [E4, E5, E6]
  obtain ⟨y, hy⟩ : ∃ y, y = z + z / 256 + (z + z / 256) / 65536 + (z + z / 256 + (z + z / 256) / 65536) / 4294967296 := ⟨_, rfl⟩
  rw [← hy]
  have t32 : Int64.toInt32 (lN y) = nI y := by
    apply Int32.toBitVec_inj.mp
    show (BitVec.ofNat 64 y).signExtend 32 = BitVec.ofNat 32 y
    rw [BitVec.signExtend_eq_setWidth_of_le _ (by decide)]
    apply BitVec.eq_of_toNat_eq
    rw [BitVec.toNat_setWidth, BitVec.toNat_ofNat, BitVec.toNat_ofNat]
    omega
  have e127 : nI y &&& 127 = nI (ct m 40) := by
    show nI y &&& nI 127 = _
    rw [nx_and]
    congr 1
    rw [show y &&& 127 = y % 128 from Nat.and_two_pow_sub_one_eq_mod y 7, ec]
    have z1 : z / 256 = c1 + 256 * (c2 + 256 * (c3 + 256 * c4)) := by omega
    have z2 : z + z / 256 = (c0 + c1) + 256 * (c1 + c2) + 65536 * ((c2 + c3) + 256 * (c3 + c4) + 65536 * c4) := by omega
    have z3 : (z + z / 256) / 65536 = (c2 + c3) + 256 * (c3 + c4) + 65536 * c4 := by rw [z2]; omega
    have z4 : z + z / 256 + (z + z / 256) / 65536 = (c0 + c1 + c2 + c3) + 256 * (c1 + c2 + c3 + c4) + 65536 * (c2 + c3 + c4) + 16777216 * (c3 + c4) + 4294967296 * c4 := by rw [z3, z2]; omega
    have z5 : (z + z / 256 + (z + z / 256) / 65536) / 4294967296 = c4 := by rw [z4]; omega
    rw [hy, z5, z4]
    omega
  rw [t32, e127]
  exact h
