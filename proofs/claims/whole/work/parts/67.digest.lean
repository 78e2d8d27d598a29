/-! digest -/
def fo (h : Int64) (f : Nat → Int32) : Nat → Int64
  | 0 => h
  | n + 1 => 31 * fo h f n + Int32.toInt64 (f n)
section C67
variable {b : Nat} {β : Bd} {lp : Bool} {q : Nat → Nat} {fu : Nat} {sd sq : Nat → Nat → Nat} {mi : Mi} {ml : Ml} {F : Int64 → Mi → Ml → Prop}
noncomputable def dg2 (β : Bd) (lp : Bool) (q : Nat → Nat) (h : Int64) : Int64 :=
  (31 * ((31 * ((31 * ((31 * ((31 * ((31 * ((31 * ((31 * ((31 * h) + (Int32.toInt64 (if whole β then nI (few β (gof lp q (β 2))) else -1)))) + (Int32.toInt64 (if lp then nI (bk β q) else -1)))) + (Int32.toInt64 (wt0 β)))) + (Int32.toInt64 (wt1 β)))) + (Int32.toInt64 (nI (sm (fun y => pcn (corW β y)) (β 0)))))) + (Int32.toInt64 (nI (sm (fun y => pcn (criW β y)) (β 0)))))) + (Int32.toInt64 (ls0 β)))) + (Int32.toInt64 (ls1 β)))) + lN (cuM β)
noncomputable def dg1 (β : Bd) (lp : Bool) (q : Nat → Nat) (fu : Nat) (mv : Int32) : Int64 := dg2 β lp q (fo 17 (coA β lp fu mv 0) 8)
/-- rows -/
noncomputable def dgr (β : Bd) (lp : Bool) (q : Nat → Nat) (fu : Nat) (mv : Int32) : Nat → Int64
  | 0 => dg1 β lp q fu mv
  | y + 1 => fo (31 * dgr β lp q fu mv y + Int32.toInt64 (nI (fb_ct (fit β y) (2 ^ (β 1))))) (fun j => if lp then cj (q y) j else -1) (β 2)
/-- cells -/
noncomputable def dgk (β : Bd) (lp : Bool) (q : Nat → Nat) (fu : Nat) (mv : Int32) : Nat → Int64
  | 0 => dgr β lp q fu mv (β 0)
  | k + 1 => fo (dgk β lp q fu mv k) (ceA β lp q (k / β 1) (k % β 1)) 5
/-- slots -/
noncomputable def dgs (β : Bd) (lp : Bool) (q : Nat → Nat) (fu : Nat) (sd sq : Nat → Nat → Nat) (mv : Int32) : Nat → Int64
  | 0 => dgk β lp q fu mv (β 0 * β 1)
  | s + 1 => if fu.testBit s then 31 * dgs β lp q fu sd sq mv s + Int32.toInt64 (diA β (gof lp q (β 2)) sd sq s) else dgs β lp q fu sd sq mv s
/-- counts below 8 don't show the latest finding -/
theorem coA_l {mv a c : Int32} {w : Nat} (hw : w < 8) : coA β lp fu mv a w = coA β lp fu mv c w := by
  rcases (by omega : w = 0 ∨ w = 1 ∨ w = 2 ∨ w = 3 ∨ w = 4 ∨ w = 5 ∨ w = 6 ∨ w = 7) with r | r | r | r | r | r | r | r <;> subst r <;> rfl
/-- the class: slots -/
theorem k103e {mv : Int32} (hK : KC b β lp q fu sd sq mi ml) (h : F (dgs β lp q fu sd sq mv 6) mi ml) : Sg 103 284 [some (.ref 0), some (.long (dgs β lp q fu sd sq mv 0)), none, some (.int 0), none, none] [] mi ml (ql F) := by
  refine upP 6 (fun s => Sg 103 284 [some (.ref 0), some (.long (dgs β lp q fu sd sq mv s)), none, some (.int (nI s)), none, none] [] mi ml (ql F)) ?_ ?_ 0 (by decide)
  · exact rg103_284 (pk_le 6 6 (fun _ => h) (fun r => by omega))
  · intro s hs ih
    refine rg103_284 (pk_le 6 s (fun r => by omega) (fun _ => ⟨pk_in s 6 hs, 27 + 2 * s, ?_, (MRs s hs).2, ?_⟩))
    · rw [nI_clamp (by omega)]; exact (MRs s hs).1
    · rw [(hK.2.2.2 s hs).1, nI_1]
      rw [dgs] at ih
      refine bq (fun e => ?_) (fun e => ?_)
      · rw [e] at ih; exact ih
      · rw [e] at ih
        exact k94 rfl hs e hK ih
/-- the class: cells -/
theorem k103d {mv : Int32} (hK : KC b β lp q fu sd sq mi ml) (h : ∀ m l, ck mi m → KC b β lp q fu sd sq m l → F (dgs β lp q fu sd sq mv 6) m l) : Sg 103 212 [some (.ref 0), some (.long (dgk β lp q fu mv 0)), none, some (.int 0), none, none] [] mi ml (ql F) := by
  have hH := hK.wf.1
  have hW := hK.wf.2.1
  have key := upI (β 0) (fun _ (s : Mi × Ml) => ck mi s.1 ∧ KC b β lp q fu sd sq s.1 s.2) (fun y s => Sg 103 212 [some (.ref 0), some (.long (dgk β lp q fu mv (y * β 1))), none, some (.int (nI y)), none, none] [] s.1 s.2 (ql F)) ?_ ?_
  · have := key 0 (mi, ml) (Nat.zero_le _) ⟨fr.rf, hK⟩
    rw [Nat.zero_mul] at this
    exact this
  · rintro ⟨m, l⟩ ⟨f, k⟩
    exact rg103_212 (pk_le (β 0) (β 0) (fun _ => k103e k (h m l f k)) (fun r => by omega) k.cd.1.1 rfl)
  · rintro y ⟨m, l⟩ hy ⟨f, k⟩ ih
    refine rg103_212 (pk_le (β 0) y (fun r => by omega) (fun _ => ?_) k.cd.1.1 rfl)
    have key2 := upI (β 1) (fun _ (s : Mi × Ml) => ck mi s.1 ∧ KC b β lp q fu sd sq s.1 s.2) (fun x s => Sg 103 226 [some (.ref 0), some (.long (dgk β lp q fu mv (y * β 1 + x))), none, some (.int (nI y)), some (.int (nI x)), none] [] s.1 s.2 (ql F)) ?_ ?_
    · exact key2 0 (m, l) (Nat.zero_le _) ⟨f, k⟩
    · rintro ⟨m2, l2⟩ ⟨f2, k2⟩
      refine rg103_226 (pk_le (β 1) (β 1) (fun _ => ?_) (fun r => by omega) k2.cd.1.2.1 rfl)
      rw [nI_1]
      have := ih (m2, l2) ⟨f2, k2⟩
      rw [Nat.add_mul, Nat.one_mul] at this
      exact this
    · rintro x ⟨m2, l2⟩ hx ⟨f2, k2⟩ ih2
      refine rg103_226 (pk_le (β 1) x (fun r => by omega) (fun _ => ?_) k2.cd.1.2.1 rfl)
      have key3 := upI 5 (fun _ (s : Mi × Ml) => ck mi s.1 ∧ KC b β lp q fu sd sq s.1 s.2) (fun w s => Sg 103 241 [some (.ref 0), some (.long (fo (dgk β lp q fu mv (y * β 1 + x)) (ceA β lp q y x) w)), none, some (.int (nI y)), some (.int (nI x)), some (.int (nI w))] [] s.1 s.2 (ql F)) ?_ ?_
      · exact key3 0 (m2, l2) (by decide) ⟨f2, k2⟩
      · rintro ⟨m3, l3⟩ ⟨f3, k3⟩
        refine rg103_241 (pk_lt 4 5 (fun _ => ?_) (fun r => by omega))
        rw [nI_1]
        have := ih2 (m3, l3) ⟨f3, k3⟩
        rw [← Nat.add_assoc, dgk, kq hx, kr hx] at this
        exact this
      · rintro w ⟨m3, l3⟩ hw ⟨f3, k3⟩ ih3
        refine rg103_241 (pk_lt 4 w (fun r => by omega) (fun _ => ?_))
        refine k78 rfl rfl hx hy k3 (fun u hu e m4 l4 f4 k4 => ?_) (fun hno => absurd rfl (hno w (by omega)))
        have eu : w = u := (nI_eq (by omega) (by omega)).mp e
        subst eu
        rw [nI_1]
        exact ih3 (m4, l4) ⟨fr.tr f3 f4, k4⟩
/-- the class: rows -/
theorem k103c {mv : Int32} (hK : KC b β lp q fu sd sq mi ml) (h : ∀ m l, ck mi m → KC b β lp q fu sd sq m l → F (dgs β lp q fu sd sq mv 6) m l) : Sg 103 144 [some (.ref 0), some (.long (dgr β lp q fu mv 0)), none, some (.int 0), none, none] [] mi ml (ql F) := by
  have hH := hK.wf.1
  have hn := hK.1.n7
  have key := upI (β 0) (fun _ (s : Mi × Ml) => ck mi s.1 ∧ KC b β lp q fu sd sq s.1 s.2) (fun y s => Sg 103 144 [some (.ref 0), some (.long (dgr β lp q fu mv y)), none, some (.int (nI y)), none, none] [] s.1 s.2 (ql F)) ?_ ?_
  · exact key 0 (mi, ml) (Nat.zero_le _) ⟨fr.rf, hK⟩
  · rintro ⟨m, l⟩ ⟨f, k⟩
    exact rg103_144 (pk_le (β 0) (β 0) (fun _ => k103d k (fun m2 l2 f2 k2 => h m2 l2 (fr.tr f f2) k2)) (fun r => by omega) k.cd.1.1 rfl)
  · rintro y ⟨m, l⟩ hy ⟨f, k⟩ ih
    refine rg103_144 (pk_le (β 0) y (fun r => by omega) (fun _ => ?_) k.cd.1.1 rfl)
    refine k84 rfl hy k (fun m2 l2 f2 k2 => ?_)
    have key2 := upP (β 2) (fun j => Sg 103 171 [some (.ref 0), some (.long (fo (31 * dgr β lp q fu mv y + Int32.toInt64 (nI (fb_ct (fit β y) (2 ^ (β 1))))) (fun j => if lp then cj (q y) j else -1) j)), none, some (.int (nI y)), some (.int (nI j)), none] [] m2 l2 (ql F)) ?_ ?_
    · exact key2 0 (Nat.zero_le _)
    · refine rg103_171 (pk_le (β 2) (β 2) (fun _ => ?_) (fun r => by omega) k2.cd.1.2.2.1 rfl)
      rw [nI_1]
      exact ih (m2, l2) ⟨fr.tr f f2, k2⟩
    · intro j hj ih2
      refine rg103_171 (pk_le (β 2) j (fun r => by omega) (fun _ => ?_) k2.cd.1.2.2.1 rfl)
      refine k83 rfl rfl hy hj k2 ?_
      rw [nI_1]
      exact ih2
/-- the class's digest -/
theorem k103 (hK : KC b β lp q fu sd sq mi ml) (h : ∀ m l, ck mi m → KC b β lp q fu sd sq m l → F (dgs β lp q fu sd sq (mi 0 6) 6) m l) : Sg 103 0 [some (.ref 0), none, none, none, none, none] [] mi ml (ql F) := by
  refine rg103_0 ?_
  have key := upI 8 (fun _ (s : Mi × Ml) => ck mi s.1 ∧ KC b β lp q fu sd sq s.1 s.2) (fun w s => Sg 103 6 [some (.ref 0), some (.long (fo 17 (coA β lp fu (mi 0 6) 0) w)), none, some (.int (nI w)), none, none] [] s.1 s.2 (ql F)) ?_ ?_
  · exact key 0 (mi, ml) (by decide) ⟨fr.rf, hK⟩
  · rintro ⟨m, l⟩ ⟨f, k⟩
    refine rg103_6 (pk_lt 7 8 (fun _ => ?_) (fun r => by omega))
    refine k81 k (fun m1 l1 f1 k1 => ?_)
    refine k85 k1 ?_
    refine k86 (p := 0) rfl (by decide) k1 (fun m2 l2 f2 k2 => ?_)
    refine k86 (p := 1) rfl (by decide) k2 (fun m3 l3 f3 k3 => ?_)
    refine k87 k3 (fun m4 l4 f4 k4 => ?_)
    refine k88 k4 (fun m5 l5 f5 k5 => ?_)
    refine k89 (p := 0) rfl (by decide) k5 (fun m6 l6 f6 k6 => ?_)
    refine k89 (p := 1) rfl (by decide) k6 (fun m7 l7 f7 k7 => ?_)
    refine k91 k7 (fun m8 l8 f8 k8 => ?_)
    have ff : ck mi m8 := fr.tr f (fr.tr f1 (fr.tr f2 (fr.tr f3 (fr.tr f4 (fr.tr f5 (fr.tr f6 (fr.tr f7 f8)))))))
    have e : dgr β lp q fu (mi 0 6) 0 = dg2 β lp q (fo 17 (coA β lp fu (mi 0 6) 0) 8) := rfl
    unfold dg2 at e
    rw [if_pos (rfl : (0 : Nat) = 0), if_neg (show ¬ (1 : Nat) = 0 by decide), if_pos (rfl : (0 : Nat) = 0), if_neg (show ¬ (1 : Nat) = 0 by decide)]
    rw [← e]
    exact k103c (mv := mi 0 6) k8 (fun m9 l9 f9 k9 => h m9 l9 (fr.tr ff f9) k9)
  · rintro w ⟨m, l⟩ hw ⟨f, k⟩ ih
    refine rg103_6 (pk_lt 7 w (fun r => by omega) (fun _ => ?_))
    refine k102 rfl (by omega) k (fun m2 l2 f2 k2 => ?_)
    have e0 : (m, l).fst 0 = mi 0 := f 0 (by decide)
    rw [e0, nI_1, coA_l (c := 0) hw]
    exact ih (m2, l2) ⟨fr.tr f f2, k2⟩
/-- the model: slots -/
theorem n193e {mv : Int32} {x3 x5 x7 : Int64} (hp : PV β lp q fu sd sq) (hM : KM β lp q fu sd sq mi) (h : F (dgs β lp q fu sd sq mv 6) mi ml) : Sg 193 308 [some (.ref 47), some (.long (dgs β lp q fu sd sq mv 0)), none, some (.long x3), none, some (.long x5), none, some (.long x7), none, some (.int 0), none] [] mi ml (ql F) := by
  have hfu := hp.2.2.2.2.1
  refine upP 6 (fun s => Sg 193 308 [some (.ref 47), some (.long (dgs β lp q fu sd sq mv s)), none, some (.long x3), none, some (.long x5), none, some (.long x7), none, some (.int (nI s)), none] [] mi ml (ql F)) ?_ ?_ 0 (by decide)
  · exact rg193_308 (pk_le 6 6 (fun _ => h) (fun r => by omega))
  · intro s hs ih
    refine rg193_308 (pk_le 6 s (fun r => by omega) (fun _ => ?_))
    rw [hM.2.2.1, nI_i2l (by omega)]
    refine c116 rfl rfl (by omega) (by omega) ?_
    rw [nI_1]
    rw [dgs] at ih
    refine bq (fun e => ?_) (fun e => ?_)
    · rw [e] at ih; exact ih
    · rw [e] at ih
      exact n187 rfl hs e hp hM ih
/-- the model: cells -/
theorem n193d {mv : Int32} (hp : PV β lp q fu sd sq) (hM : KM β lp q fu sd sq mi) (h : F (dgs β lp q fu sd sq mv 6) mi ml) : Sg 193 231 [some (.ref 47), some (.long (dgk β lp q fu mv 0)), none, some (.long (lN (coM β))), none, some (.long (lN (crM β))), none, some (.long (lN (cuM β))), none, some (.int 0), none] [] mi ml (ql F) := by
  have hH := hp.1.1
  have hW := hp.1.2.1
  have h49 := HW49 hp.1
  have e1 : mi 47 5 * mi 47 6 = nI (β 0 * β 1) := by rw [hM.1.1.1, hM.1.1.2.1, pk_mul]
  refine upP (β 0 * β 1) (fun k => Sg 193 231 [some (.ref 47), some (.long (dgk β lp q fu mv k)), none, some (.long (lN (coM β))), none, some (.long (lN (crM β))), none, some (.long (lN (cuM β))), none, some (.int (nI k)), none] [] mi ml (ql F)) ?_ ?_ 0 (Nat.zero_le _)
  · exact rg193_231 (pk_le (β 0 * β 1) (β 0 * β 1) (fun _ => n193e hp hM h) (fun r => by omega) e1 rfl)
  · intro k hk ih
    have hy := kH hk
    have hx := kW (k := k) hW.1
    have ek : k / β 1 * β 1 + k % β 1 = k := by rw [Nat.mul_comm]; exact Nat.div_add_mod k (β 1)
    refine rg193_231 (pk_le (β 0 * β 1) k (fun r => by omega) (fun _ => ?_) e1 rfl)
    refine upP 5 (fun w => Sg 193 248 [some (.ref 47), some (.long (fo (dgk β lp q fu mv k) (ceA β lp q (k / β 1) (k % β 1)) w)), none, some (.long (lN (coM β))), none, some (.long (lN (crM β))), none, some (.long (lN (cuM β))), none, some (.int (nI k)), some (.int (nI w))] [] mi ml (ql F)) ?_ ?_ 0 (by decide)
    · refine rg193_248 (pk_le 5 5 (fun _ => ?_) (fun r => by omega))
      rw [nI_1]
      exact ih
    · intro w hw ih2
      refine rg193_248 (pk_le 5 w (fun r => by omega) (fun _ => ?_))
      have fin : ∀ s0, (s0 = lN (if w = 2 then crM β else if w = 3 then coM β else cuM β) ∨ w ≤ 1) → Sg 193 287 [some (.ref 47), some (.long (fo (dgk β lp q fu mv k) (ceA β lp q (k / β 1) (k % β 1)) w)), none, some (.long (lN (coM β))), none, some (.long (lN (crM β))), none, some (.long (lN (cuM β))), none, some (.int (nI k)), some (.int (nI w))] [.long s0, .int (nI w), .int (nI k), .ref 47, .long (31 * fo (dgk β lp q fu mv k) (ceA β lp q (k / β 1) (k % β 1)) w)] mi ml (ql F) := fun s0 hs0 => by
        refine rg193_287 (n181 (x := k % β 1) (y := k / β 1) (w := w) (by rw [ek]) rfl hx hy (by omega) hs0 hp hM ?_)
        rw [nI_1]
        exact ih2
      refine pk_ne w 2 (fun w2 => pk_ne w 3 (fun w3 => fin _ (Or.inl (by rw [if_neg w2, if_neg w3]))) (fun w3 => fin _ (Or.inl (by rw [if_neg w2, if_pos w3])))) (fun w2 => fin _ (Or.inl (by rw [if_pos w2])))
/-- the model: rows -/
theorem n193c {mv : Int32} (hp : PV β lp q fu sd sq) (hM : KM β lp q fu sd sq mi) (hT : MT β mi) (h : F (dgs β lp q fu sd sq mv 6) mi ml) : Sg 193 165 [some (.ref 47), some (.long (dgr β lp q fu mv 0)), none, some (.long (lN (coM β))), none, some (.long (lN (crM β))), none, some (.long (lN (cuM β))), none, some (.int 0), none] [] mi ml (ql F) := by
  have hH := hp.1.1
  have hn := hp.n7
  refine upP (β 0) (fun y => Sg 193 165 [some (.ref 47), some (.long (dgr β lp q fu mv y)), none, some (.long (lN (coM β))), none, some (.long (lN (crM β))), none, some (.long (lN (cuM β))), none, some (.int (nI y)), none] [] mi ml (ql F)) ?_ ?_ 0 (Nat.zero_le _)
  · exact rg193_165 (pk_le (β 0) (β 0) (fun _ => n193d hp hM h) (fun r => by omega) hM.1.1.1 rfl)
  · intro y hy ih
    refine rg193_165 (pk_le (β 0) y (fun r => by omega) (fun _ => ?_) hM.1.1.1 rfl)
    refine n157 rfl hy hp hM hT ?_
    refine upP (β 2) (fun j => Sg 193 191 [some (.ref 47), some (.long (fo (31 * dgr β lp q fu mv y + Int32.toInt64 (nI (fb_ct (fit β y) (2 ^ (β 1))))) (fun j => if lp then cj (q y) j else -1) j)), none, some (.long (lN (coM β))), none, some (.long (lN (crM β))), none, some (.long (lN (cuM β))), none, some (.int (nI y)), some (.int (nI j))] [] mi ml (ql F)) ?_ ?_ 0 (Nat.zero_le _)
    · refine rg193_191 (pk_le (β 2) (β 2) (fun _ => ?_) (fun r => by omega) hM.1.1.2.2.1 rfl)
      rw [nI_1]
      exact ih
    · intro j hj ih2
      refine rg193_191 (pk_le (β 2) j (fun r => by omega) (fun _ => ?_) hM.1.1.2.2.1 rfl)
      refine n155 rfl rfl hy hj hp hM ?_
      rw [nI_1]
      exact ih2
/-- the model's digest -/
theorem n193 (hp : PV β lp q fu sd sq) (hM : KM β lp q fu sd sq mi) (h : ∀ m, mk mi m → F (dgs β lp q fu sd sq (mi 47 13) 6) m ml) : Sg 193 0 [some (.ref 47), none, none, none, none, none, none, none, none, none, none] [] mi ml (ql F) := by
  refine rg193_0 (n142 hp hM (fun m0 f0 t0 => ?_))
  have key := upI 8 (fun _ (m : Mi) => mk mi m ∧ MT β m) (fun w m => Sg 193 10 [some (.ref 47), some (.long (fo 17 (coA β lp fu (mi 47 13) 0) w)), none, some (.int (nI w)), none, none, none, none, none, none, none] [] m ml (ql F)) ?_ ?_
  · exact key 0 m0 (by decide) ⟨f0, t0⟩
  · rintro m ⟨f, t⟩
    refine rg193_10 (pk_le 8 8 (fun _ => ?_) (fun r => by omega))
    refine n163 hp (hM.k f) t (fun m1 f1 t1 => ?_)
    have a1 := f.tr f1
    refine n164 hp (hM.k a1) t1 (fun m2 f2 t2 => ?_)
    have a2 := a1.tr f2
    refine n152 hp (hM.k a2) t2 (fun m3 f3 t3 => ?_)
    have a3 := a2.tr f3
    refine n159 hp (hM.k a3) ?_
    refine n161 (p := 0) rfl (by decide) hp (hM.k a3) t3 (fun m4 f4 t4 => ?_)
    have a4 := a3.tr f4
    refine n161 (p := 1) rfl (by decide) hp (hM.k a4) t4 (fun m5 f5 t5 => ?_)
    have a5 := a4.tr f5
    refine c119 rfl (by have := coM_l hp.1; omega) ?_
    refine c119 rfl (by have := crM_l hp.1; omega) ?_
    rw [ct_coM hp.1, ct_crM hp.1]
    refine n167 (p := 0) rfl (by decide) hp (hM.k a5) (fun m6 f6 t6 => ?_)
    have a6 := a5.tr f6
    refine n167 (p := 1) rfl (by decide) hp (hM.k a6) (fun m7 f7 t7 => ?_)
    have a7 := a6.tr f7
    refine n178 hp (hM.k a7) (fun m8 f8 => ?_)
    have a8 := a7.tr (f8.mk (by decide))
    have e : dgr β lp q fu (mi 47 13) 0 = dg2 β lp q (fo 17 (coA β lp fu (mi 47 13) 0) 8) := rfl
    unfold dg2 at e
    rw [if_pos (rfl : (0 : Nat) = 0), if_neg (show ¬ (1 : Nat) = 0 by decide), if_pos (rfl : (0 : Nat) = 0), if_neg (show ¬ (1 : Nat) = 0 by decide)]
    rw [← e]
    exact n193c (mv := mi 47 13) hp (hM.k a8) (t7.fq f8) (h m8 a8)
  · rintro w m hw ⟨f, t⟩ ih
    refine rg193_10 (pk_le 8 w (fun r => by omega) (fun _ => ?_))
    refine n190 rfl (by omega) hp (hM.k f) t (fun m2 f2 t2 => ?_)
    rw [f.2 13 (by decide) (by decide), nI_1, coA_l (c := 0) hw]
    exact ih m2 ⟨f.tr f2, t2⟩
end C67
theorem p103 {b : Nat} {mi : Mi} {ml : Ml} (hR : Rel b mi ml) : Sg 103 0 [some (.ref 0), none, none, none, none, none] [] mi ml (ql fun v m l => Sg 193 0 [some (.ref 47), none, none, none, none, none, none, none, none, none, none] [] m l (ql (eqR b v))) := by
  obtain ⟨β, lp, q, fu, sd, sq, h⟩ := hR
  refine k103 h.1 (fun m l f k => n193 h.1.1 (h.2.1.cc f) (fun m2 f2 => ⟨?_, β, lp, q, fu, sd, sq, h.qy f k f2⟩))
  rw [ck_hi f 47 (by decide), h.2.2.2.1]
