/-! pairs: queries -/
section C66
variable {b : Nat} {mi : Mi} {ml : Ml}
theorem KM.cc {β : Bd} {lp : Bool} {q : Nat → Nat} {fu : Nat} {sd sq : Nat → Nat → Nat} {m : Mi} (h : KM β lp q fu sd sq mi) (f : ck mi m) : KM β lp q fu sd sq m := h.c (fun c hc => ck_hi f c (by omega))
theorem p79 (hR : Rel b mi ml) : Sg 79 0 [some (.ref 0)] [] mi ml (qi fun v m l => Sg 146 0 [some (.ref 47)] [] m l (qi (eqR b v))) := by
  obtain ⟨β, lp, q, fu, sd, sq, h⟩ := hR
  have hp := h.1.1
  exact k79 h.1 (fun m l f k => rg146_0 (n142 hp (h.2.1.cc f) (fun m2 f2 t2 => n145 hp ((h.2.1.cc f).k f2) t2 (fun m3 f3 _ => b01 (G := fun z => eqR b (bI (whole β)) z m3 l) ⟨rfl, β, lp, q, fu, sd, sq, h.qy f k (f2.tr f3)⟩))))
theorem p81 (hR : Rel b mi ml) : Sg 81 0 [some (.ref 0)] [] mi ml (qi fun v m l => Sg 153 0 [some (.ref 47)] [] m l (qi (eqR b v))) := by
  obtain ⟨β, lp, q, fu, sd, sq, h⟩ := hR
  have hp := h.1.1
  exact k81 h.1 (fun m l f k => rg153_0 (n142 hp (h.2.1.cc f) (fun m2 f2 t2 => n152 hp ((h.2.1.cc f).k f2) t2 (fun m3 f3 _ => ⟨rfl, β, lp, q, fu, sd, sq, h.qy f k (f2.tr f3)⟩))))
theorem p83 {x z : Int32} (hR : Rel b mi ml) : Sg 83 0 [some (.ref 0), some (.int x), some (.int z)] [] mi ml (qi fun v m l => Sg 156 0 [some (.ref 47), some (.int x), some (.int z)] [] m l (qi (eqR b v))) := by
  obtain ⟨β, lp, q, fu, sd, sq, h⟩ := hR
  have hp := h.1.1
  have hn := hp.n7
  have hn1 : 1 ≤ β 2 := hp.1.2.2.1.1
  have fin : Rel b mi ml := ⟨β, lp, q, fu, sd, sq, h⟩
  have en : mi 47 7 - 1 = nI (β 2 - 1) := by rw [h.2.1.1.1.2.2.1]; exact pk_sub (b := 1) hn1
  by_cases hc : ∃ y j, y < β 0 ∧ j < β 2 ∧ x = nI y ∧ z = nI j
  · obtain ⟨y, j, hy, hj, rfl, rfl⟩ := hc
    refine k83 rfl rfl hy hj h.1 (rg156_0 (c129 h.2.1.1.1.1 hp.1.1 (fun s hs e => ⟨fun r => absurd r (by decide), fun _ => ?_⟩) (fun hno => absurd rfl (hno y hy))))
    rw [en]
    refine c114c 0 (β 2 - 1) (fun s _ _ _ => ⟨fun r => absurd r (by decide), fun _ => ?_⟩) (fun hno => absurd rfl (hno j (Nat.zero_le _) (by omega)))
    exact n155 rfl rfl hy hj hp h.2.1 ⟨rfl, fin⟩
  · refine k83n (fun y j hy hj e1 e2 => hc ⟨y, j, hy, hj, e1, e2⟩) h.1 (rg156_0 (c129 h.2.1.1.1.1 hp.1.1 (fun s hs e => ⟨fun r => absurd r (by decide), fun _ => ?_⟩) (fun hno => ⟨fun _ => ⟨rfl, fin⟩, fun r => absurd rfl r⟩)))
    rw [en]
    exact c114c 0 (β 2 - 1) (fun t _ ht e2 => absurd ⟨s, t, hs, by omega, e, e2⟩ hc) (fun _ => ⟨fun _ => ⟨rfl, fin⟩, fun r => absurd rfl r⟩)
theorem p84 {x : Int32} (hR : Rel b mi ml) : Sg 84 0 [some (.ref 0), some (.int x)] [] mi ml (qi fun v m l => Sg 158 0 [some (.ref 47), some (.int x)] [] m l (qi (eqR b v))) := by
  obtain ⟨β, lp, q, fu, sd, sq, h⟩ := hR
  have hp := h.1.1
  by_cases hc : ∃ y, y < β 0 ∧ x = nI y
  · obtain ⟨y, hy, rfl⟩ := hc
    refine k84 rfl hy h.1 (fun m l f k => rg158_0 (n142 hp (h.2.1.cc f) (fun m2 f2 t2 => ?_)))
    have hM2 := (h.2.1.cc f).k f2
    refine c129 hM2.1.1.1 hp.1.1 (fun s hs e => ⟨fun r => absurd r (by decide), fun _ => ?_⟩) (fun hno => absurd rfl (hno y hy))
    exact n157 rfl hy hp hM2 t2 ⟨rfl, β, lp, q, fu, sd, sq, h.qy f k f2⟩
  · refine k84n (fun s hs e => hc ⟨s, hs, e⟩) h.1 (rg158_0 (n142 hp h.2.1 (fun m2 f2 t2 => ?_)))
    exact c129 (h.2.1.k f2).1.1.1 hp.1.1 (fun s hs e => absurd ⟨s, hs, e⟩ hc) (fun _ => ⟨fun _ => ⟨rfl, β, lp, q, fu, sd, sq, h.qy fr.rf h.1 f2⟩, fun r => absurd rfl r⟩)
theorem p85 (hR : Rel b mi ml) : Sg 85 0 [some (.ref 0)] [] mi ml (qi fun v m l => Sg 160 0 [some (.ref 47)] [] m l (qi (eqR b v))) := by
  obtain ⟨β, lp, q, fu, sd, sq, h⟩ := hR
  exact k85 h.1 (rg160_0 (n159 h.1.1 h.2.1 ⟨rfl, β, lp, q, fu, sd, sq, h⟩))
theorem p86 {x : Int32} (hR : Rel b mi ml) : Sg 86 0 [some (.ref 0), some (.int x)] [] mi ml (qi fun v m l => Sg 162 0 [some (.ref 47), some (.int x)] [] m l (qi (eqR b v))) := by
  obtain ⟨β, lp, q, fu, sd, sq, h⟩ := hR
  have hp := h.1.1
  by_cases hc : ∃ y, y ≤ 1 ∧ x = nI y
  · obtain ⟨y, hy, rfl⟩ := hc
    refine k86 rfl hy h.1 (fun m l f k => rg162_0 (n142 hp (h.2.1.cc f) (fun m2 f2 t2 => ?_)))
    have hM2 := (h.2.1.cc f).k f2
    refine c115 (fun s hs e => ⟨fun r => absurd r (by decide), fun _ => ?_⟩) (fun hno => absurd rfl (hno y hy))
    exact n161 rfl hy hp hM2 t2 (fun m3 f3 _ => ⟨rfl, β, lp, q, fu, sd, sq, h.qy f k (f2.tr f3)⟩)
  · refine k86n (fun s hs e => hc ⟨s, hs, e⟩) (rg162_0 (n142 hp h.2.1 (fun m2 f2 t2 => ?_)))
    exact c115 (fun s hs e => absurd ⟨s, hs, e⟩ hc) (fun _ => ⟨fun _ => ⟨rfl, β, lp, q, fu, sd, sq, h.qy fr.rf h.1 f2⟩, fun r => absurd rfl r⟩)
theorem p87 (hR : Rel b mi ml) : Sg 87 0 [some (.ref 0), none, none] [] mi ml (qi fun v m l => Sg 165 0 [some (.ref 47)] [] m l (qi (eqR b v))) := by
  obtain ⟨β, lp, q, fu, sd, sq, h⟩ := hR
  have hp := h.1.1
  refine k87 h.1 (fun m l f k => rg165_0 (n142 hp (h.2.1.cc f) (fun m2 f2 t2 => n163 hp ((h.2.1.cc f).k f2) t2 (fun m3 f3 _ => ?_))))
  refine c119 rfl (by have := coM_l hp.1; omega) ?_
  rw [ct_coM hp.1]
  exact ⟨rfl, β, lp, q, fu, sd, sq, h.qy f k (f2.tr f3)⟩
theorem p88 (hR : Rel b mi ml) : Sg 88 0 [some (.ref 0), none, none] [] mi ml (qi fun v m l => Sg 166 0 [some (.ref 47)] [] m l (qi (eqR b v))) := by
  obtain ⟨β, lp, q, fu, sd, sq, h⟩ := hR
  have hp := h.1.1
  refine k88 h.1 (fun m l f k => rg166_0 (n142 hp (h.2.1.cc f) (fun m2 f2 t2 => n164 hp ((h.2.1.cc f).k f2) t2 (fun m3 f3 _ => ?_))))
  refine c119 rfl (by have := crM_l hp.1; omega) ?_
  rw [ct_crM hp.1]
  exact ⟨rfl, β, lp, q, fu, sd, sq, h.qy f k (f2.tr f3)⟩
theorem p89 {x : Int32} (hR : Rel b mi ml) : Sg 89 0 [some (.ref 0), some (.int x)] [] mi ml (qi fun v m l => Sg 168 0 [some (.ref 47), some (.int x)] [] m l (qi (eqR b v))) := by
  obtain ⟨β, lp, q, fu, sd, sq, h⟩ := hR
  have hp := h.1.1
  by_cases hc : ∃ y, y ≤ 1 ∧ x = nI y
  · obtain ⟨y, hy, rfl⟩ := hc
    refine k89 rfl hy h.1 (fun m l f k => rg168_0 ?_)
    refine c115 (fun s hs e => ⟨fun r => absurd r (by decide), fun _ => ?_⟩) (fun hno => absurd rfl (hno y hy))
    exact n167 rfl hy hp (h.2.1.cc f) (fun m3 f3 _ => ⟨rfl, β, lp, q, fu, sd, sq, h.qy f k f3⟩)
  · refine k89n (fun s hs e => hc ⟨s, hs, e⟩) (rg168_0 ?_)
    exact c115 (fun s hs e => absurd ⟨s, hs, e⟩ hc) (fun _ => ⟨fun _ => ⟨rfl, β, lp, q, fu, sd, sq, h⟩, fun r => absurd rfl r⟩)
theorem p90 (hR : Rel b mi ml) : Sg 90 0 [some (.ref 0)] [] mi ml (qi fun v m l => Sg 177 0 [some (.ref 47)] [] m l (qi (eqR b v))) := by
  obtain ⟨β, lp, q, fu, sd, sq, h⟩ := hR
  exact k90 h.1 (fun m l f k => rg177_0 (n176 h.1.1 (h.2.1.cc f) (fun m2 f2 => ⟨rfl, β, lp, q, fu, sd, sq, h.qy f k (f2.mk (by decide))⟩)))
theorem p91 (hR : Rel b mi ml) : Sg 91 0 [some (.ref 0)] [] mi ml (ql fun v m l => Sg 179 0 [some (.ref 47)] [] m l (ql (eqR b v))) := by
  obtain ⟨β, lp, q, fu, sd, sq, h⟩ := hR
  exact k91 h.1 (fun m l f k => rg179_0 (n178 h.1.1 (h.2.1.cc f) (fun m2 f2 => ⟨rfl, β, lp, q, fu, sd, sq, h.qy f k (f2.mk (by decide))⟩)))
theorem p78 {x z w : Int32} (hR : Rel b mi ml) : Sg 78 0 [some (.ref 0), some (.int x), some (.int z), some (.int w)] [] mi ml (qi fun v m l => Sg 182 0 [some (.ref 47), some (.int x), some (.int z), some (.int w), none, none] [] m l (qi (eqR b v))) := by
  obtain ⟨β, lp, q, fu, sd, sq, h⟩ := hR
  have hp := h.1.1
  have hH := hp.1.1
  have hW := hp.1.2.1
  by_cases hc : ∃ s t, s < β 1 ∧ t < β 0 ∧ x = nI s ∧ z = nI t
  · obtain ⟨s, t, hs, ht, rfl, rfl⟩ := hc
    refine k78 rfl rfl hs ht h.1 (fun u hu e m l f k => ?_) (fun hno => ?_)
    · subst e
      have hM := h.2.1.cc f
      refine rg182_0 (c130 hM.1.1.1 hH hM.1.1.2.1 hW (fun _ _ _ _ _ _ => ⟨fun r => absurd r (by decide), fun _ => ?_⟩) (fun hno => absurd (hno s t hs ht rfl rfl) not_false))
      refine c114c 0 4 (fun _ _ _ _ => ⟨fun _ => ?_, fun r => absurd (by decide) r⟩) (fun hno => absurd rfl (hno u (Nat.zero_le _) hu))
      refine n142 hp hM (fun m2 f2 t2 => ?_)
      have hM2 := hM.k f2
      have fin : ∀ m3 s0, mk m2 m3 → (s0 = lN (if u = 2 then crM β else if u = 3 then coM β else cuM β) ∨ u ≤ 1) → Sg 182 65 [some (.ref 47), some (.int (nI s)), some (.int (nI t)), some (.int (nI u)), none, none] [.long s0] m3 l (qi (eqR b (ceA β lp q t s u))) := fun m3 s0 f3 hs0 => by
        have hM3 := hM2.k f3
        refine rg182_65 ?_
        rw [hM3.1.1.2.1, pk_mul, nI_add]
        exact n181 rfl rfl hs ht hu hs0 hp hM3 ⟨rfl, β, lp, q, fu, sd, sq, h.qy f k (f2.tr f3)⟩
      refine pk_ne u 2 (fun u2 => pk_ne u 3 (fun u3 => pk_ne u 4 (fun u4 => ?_) (fun u4 => ?_)) (fun u3 => ?_)) (fun u2 => ?_)
      · exact fin m2 _ mk.rf (Or.inr (by omega))
      · exact n178 hp hM2 (fun m3 f3 => fin m3 _ (f3.mk (by decide)) (Or.inl (by rw [if_neg u2, if_neg u3])))
      · exact n163 hp hM2 t2 (fun m3 f3 _ => fin m3 _ f3 (Or.inl (by rw [if_neg u2, if_pos u3])))
      · exact n164 hp hM2 t2 (fun m3 f3 _ => fin m3 _ f3 (Or.inl (by rw [if_pos u2])))
    · refine rg182_0 (c130 h.2.1.1.1.1 hH h.2.1.1.1.2.1 hW (fun _ _ _ _ _ _ => ⟨fun r => absurd r (by decide), fun _ => ?_⟩) (fun hno => absurd (hno s t hs ht rfl rfl) not_false))
      exact c114c 0 4 (fun u _ hu e => absurd e (hno u hu)) (fun _ => ⟨fun r => absurd rfl r, fun _ => ⟨rfl, β, lp, q, fu, sd, sq, h⟩⟩)
  · refine k78n (fun s t hs ht e1 e2 => hc ⟨s, t, hs, ht, e1, e2⟩) h.1 (rg182_0 ?_)
    exact c130 h.2.1.1.1.1 hH h.2.1.1.1.2.1 hW (fun s t hs ht e1 e2 => absurd ⟨s, t, hs, ht, e1, e2⟩ hc) (fun _ => ⟨fun _ => ⟨rfl, β, lp, q, fu, sd, sq, h⟩, fun r => absurd rfl r⟩)
theorem p102 {x : Int32} (hR : Rel b mi ml) : Sg 102 0 [some (.ref 0), some (.int x)] [] mi ml (qi fun v m l => Sg 192 0 [some (.ref 47), some (.int x)] [] m l (qi (eqR b v))) := by
  obtain ⟨β, lp, q, fu, sd, sq, h⟩ := hR
  have hp := h.1.1
  by_cases hc : ∃ w, w ≤ 8 ∧ x = nI w
  · obtain ⟨w, hw, rfl⟩ := hc
    refine k102 rfl hw h.1 (fun m l f k => rg192_0 (n142 hp (h.2.1.cc f) (fun m2 f2 t2 => n190 rfl hw hp ((h.2.1.cc f).k f2) t2 (fun m3 f3 _ => ⟨?_, β, lp, q, fu, sd, sq, h.qy f k (f2.tr f3)⟩))))
    rw [f2.2 13 (by decide) (by decide), f2.2 4 (by decide) (by decide), ck_hi f 47 (by decide), h.2.2.2.1, h.2.2.2.2]
  · exact k102n (fun w hw e => hc ⟨w, hw, e⟩) (rg192_0 (n142 hp h.2.1 (fun m2 f2 t2 => n190n (fun w hw e => hc ⟨w, hw, e⟩) ⟨rfl, β, lp, q, fu, sd, sq, h.qy fr.rf h.1 f2⟩)))
/-- slots: what class and model say of s -/
theorem p94 {x : Int32} (hR : Rel b mi ml) : Sg 94 0 [some (.ref 0), some (.int x), none, none, none] [] mi ml (qi fun v m l => Sg 187 0 [some (.ref 47), some (.int x), none, none, none] [] m l (qi (eqR b v))) := by
  obtain ⟨β, lp, q, fu, sd, sq, h⟩ := hR
  have hp := h.1.1
  have hfu := hp.2.2.2.2.1
  by_cases hc : ∃ s, s ≤ 5 ∧ x = nI s
  · obtain ⟨s, hs, rfl⟩ := hc
    have hs6 : s < 6 := by omega
    cases hf : fu.testBit s with
    | true => exact k94 rfl hs6 hf h.1 (n187 rfl hs6 hf hp h.2.1 ⟨rfl, β, lp, q, fu, sd, sq, h⟩)
    | false =>
      refine rg94_0 (c105 (fun t ht e => ?_) (fun hno => absurd rfl (hno s hs)))
      have et : t = s := ((nI_eq (by omega) (by omega)).mp e).symm
      subst et
      refine ⟨fun r => (by cases r), fun r hr => ?_⟩
      cases hr
      refine ⟨(MRs t hs6).2, ?_⟩
      rw [(h.1.2.2.2 t hs6).1, hf]
      refine ⟨fun r => absurd rfl r, fun _ => c104 (rg187_0 (rg185_0 (c183 (fun _ _ _ => ⟨fun _ => ?_, fun r => absurd (by decide) r⟩) (fun hno => absurd rfl (hno t hs)))))⟩
      have e28 : (va_up mi 0 (va_up (mi 0) 7 1)) 47 28 = nI fu := by rw [gm_upN (by decide)]; exact h.2.1.2.2.1
      rw [e28, nI_i2l (by omega)]
      refine c116 rfl rfl (by omega) (by omega) ?_
      rw [hf]
      exact ⟨fun r => absurd rfl r, fun _ => c120 ⟨fun r => absurd r (by decide), fun _ => ⟨rfl, β, lp, q, fu, sd, sq, h.fnd⟩⟩⟩
  · refine rg94_0 (c105 (fun t ht e => absurd ⟨t, ht, e⟩ hc) (fun _ => ⟨fun _ => c104 (rg187_0 (rg185_0 (c183 (fun s hs e => absurd ⟨s, hs, e⟩ hc) (fun _ => ⟨fun r => absurd rfl r, fun _ => c120 ⟨fun r => absurd r (by decide), fun _ => ⟨rfl, β, lp, q, fu, sd, sq, h.fnd⟩⟩⟩)))), fun r hr => (by cases hr)⟩))
end C66
