/-! how the abstract machine's states stand for the machine's -/
abbrev gm_G : Type := Nat × Nat × (Nat → ClassId) × va_G
def gm_cv (G : gm_G) : Value → Value
  | .ref k => .ref (G.1 + k)
  | .retAddr _ => .ref G.2.1
  | v => v
theorem gm_cv_cat (G : gm_G) (v : Value) : (gm_cv G v).category = v.category := by cases v <;> rfl
theorem gm_cats (G : gm_G) (st : List Value) : ((st.map (gm_cv G)).map fun v => v.category).sum = (st.map fun v => v.category).sum := by
  rw [List.map_map]
  congr 1
  apply List.map_congr_left
  intro v _
  exact gm_cv_cat G v
def gm_al (f : Value → Value) : Nat → gm_L → List (Nat × Value)
  | _, [] => []
  | i, none :: t => gm_al f (i + 1) t
  | i, some v :: t => (i, f v) :: gm_al f (i + 1) t
theorem gm_al_mem (f : Value → Value) : ∀ (ls : gm_L) (i : Nat) (q : Nat × Value), q ∈ gm_al f i ls ↔ ∃ j v, ls[j]? = some (some v) ∧ q = (i + j, f v)
  | [], i, q => by simp [gm_al]
  | none :: t, i, q => by
    rw [gm_al, gm_al_mem f t (i + 1) q]
    constructor
    · rintro ⟨j, v, h, rfl⟩
      exact ⟨j + 1, v, by simpa using h, by rw [show i + 1 + j = i + (j + 1) by omega]⟩
    · rintro ⟨j, v, h, rfl⟩
      cases j with
      | zero => simp at h
      | succ j => exact ⟨j, v, by simpa using h, by rw [show i + (j + 1) = i + 1 + j by omega]⟩
  | some w :: t, i, q => by
    rw [gm_al, List.mem_cons, gm_al_mem f t (i + 1) q]
    constructor
    · rintro (rfl | ⟨j, v, h, rfl⟩)
      · exact ⟨0, w, rfl, rfl⟩
      · exact ⟨j + 1, v, by simpa using h, by rw [show i + 1 + j = i + (j + 1) by omega]⟩
    · rintro ⟨j, v, h, rfl⟩
      cases j with
      | zero =>
        simp at h
        subst h
        exact Or.inl rfl
      | succ j => exact Or.inr ⟨j, v, by simpa using h, by rw [show i + (j + 1) = i + 1 + j by omega]⟩
theorem gm_s1_get : ∀ (ls : gm_L) (k j : Nat) (v : Value), (gm_s1 ls k v)[j]? = if j = k then (if k < ls.length then some (some v) else none) else if j + 1 = k then (ls[j]?).map gm_kill else ls[j]?
  | [], k, j, v => by simp [gm_s1]
  | x :: t, 0, j, v => by cases j <;> simp [gm_s1]
  | x :: t, 1, j, v => by
    cases j with
    | zero => simp [gm_s1]
    | succ j =>
      have e := gm_s1_get t 0 j v
      rw [gm_s1, List.getElem?_cons_succ, e]
      by_cases hj : j = 0
      · subst hj; simp
      · simp [hj]
  | x :: t, k + 2, j, v => by
    cases j with
    | zero => simp [gm_s1]
    | succ j =>
      have e := gm_s1_get t (k + 1) j v
      have hl : (k + 2 < (x :: t).length) = (k + 1 < t.length) := by rw [List.length_cons]; exact propext ⟨fun h => by omega, fun h => by omega⟩
      have a1 : (j + 1 = k + 2) = (j = k + 1) := propext ⟨fun h => by omega, fun h => by omega⟩
      have a2 : (j + 1 + 1 = k + 2) = (j + 1 = k + 1) := propext ⟨fun h => by omega, fun h => by omega⟩
      rw [gm_s1, List.getElem?_cons_succ, e]
      simp only [hl, a1, a2, List.getElem?_cons_succ]
theorem gm_s1_len : ∀ (ls : gm_L) (k : Nat) (v : Value), (gm_s1 ls k v).length = ls.length
  | [], _, _ => rfl
  | _ :: _, 0, _ => rfl
  | x :: t, 1, v => by simp [gm_s1, gm_s1_len t 0 v]
  | x :: t, k + 2, v => by simp [gm_s1, gm_s1_len t (k + 1) v]
theorem gm_tn_get : ∀ (t : gm_L) (j : Nat), (gm_tn t)[j]? = if j = 0 then (if 0 < t.length then some none else none) else t[j]?
  | [], j => by simp [gm_tn]
  | x :: t, j => by cases j <;> simp [gm_tn]
theorem gm_tn_len (t : gm_L) : (gm_tn t).length = t.length := by cases t <;> rfl
theorem gm_s2_get : ∀ (ls : gm_L) (k j : Nat) (v : Value), (gm_s2 ls k v)[j]? = if j = k then (if k < ls.length then some (some v) else none) else if j = k + 1 then (if k + 1 < ls.length then some none else none) else if j + 1 = k then (ls[j]?).map gm_kill else ls[j]?
  | [], k, j, v => by simp [gm_s2]
  | x :: t, 0, j, v => by
    cases j with
    | zero => simp [gm_s2]
    | succ j =>
      rw [gm_s2, List.getElem?_cons_succ, gm_tn_get]
      by_cases hj : j = 0
      · subst hj; simp
      · simp [hj]
  | x :: t, 1, j, v => by
    cases j with
    | zero => simp [gm_s2]
    | succ j =>
      have e := gm_s2_get t 0 j v
      have hl : (1 + 1 < (x :: t).length) = (0 + 1 < t.length) := by rw [List.length_cons]; exact propext ⟨fun h => by omega, fun h => by omega⟩
      have a1 : (j + 1 = 1) = (j = 0) := propext ⟨fun h => by omega, fun h => by omega⟩
      have a2 : (j + 1 = 1 + 1) = (j = 0 + 1) := propext ⟨fun h => by omega, fun h => by omega⟩
      have a3 : (j + 1 + 1 = 1) = (j + 1 = 0) := propext ⟨fun h => by omega, fun h => by omega⟩
      have hl0 : (1 < (x :: t).length) = (0 < t.length) := by rw [List.length_cons]; exact propext ⟨fun h => by omega, fun h => by omega⟩
      rw [gm_s2, List.getElem?_cons_succ, e]
      simp only [hl, hl0, a1, a2, a3, List.getElem?_cons_succ]
  | x :: t, k + 2, j, v => by
    cases j with
    | zero => simp [gm_s2]
    | succ j =>
      have e := gm_s2_get t (k + 1) j v
      have hl : (k + 2 < (x :: t).length) = (k + 1 < t.length) := by rw [List.length_cons]; exact propext ⟨fun h => by omega, fun h => by omega⟩
      have hl2 : (k + 2 + 1 < (x :: t).length) = (k + 1 + 1 < t.length) := by rw [List.length_cons]; exact propext ⟨fun h => by omega, fun h => by omega⟩
      have a1 : (j + 1 = k + 2) = (j = k + 1) := propext ⟨fun h => by omega, fun h => by omega⟩
      have a2 : (j + 1 = k + 2 + 1) = (j = k + 1 + 1) := propext ⟨fun h => by omega, fun h => by omega⟩
      have a3 : (j + 1 + 1 = k + 2) = (j + 1 = k + 1) := propext ⟨fun h => by omega, fun h => by omega⟩
      rw [gm_s2, List.getElem?_cons_succ, e]
      simp only [hl, hl2, a1, a2, a3, List.getElem?_cons_succ]
theorem gm_s2_len : ∀ (ls : gm_L) (k : Nat) (v : Value), (gm_s2 ls k v).length = ls.length
  | [], _, _ => rfl
  | _ :: t, 0, _ => by simp [gm_s2, gm_tn_len]
  | x :: t, 1, v => by simp [gm_s2, gm_s2_len t 0 v]
  | x :: t, k + 2, v => by simp [gm_s2, gm_s2_len t (k + 1) v]
theorem gm_kill_some {x : Option Value} {w : Value} (h : gm_kill x = some w) : x = some w ∧ ¬ w.category = 2 := by
  cases x with
  | none => cases h
  | some v => cases v <;> simp [gm_kill] at h <;> subst h <;> exact ⟨rfl, by simp [Value.category]⟩
theorem gm_has_sub {lo : Array Slot} {n : Nat} {l l' : List (Nat × Value)} (h : lv_has lo n l) (hs : ∀ q ∈ l', q ∈ l) : lv_has lo n l' := ⟨h.1, h.2.1, fun q hq => h.2.2 q (hs q hq)⟩
theorem gm_s1_sub (G : gm_G) (ls : gm_L) (k : Nat) (v : Value) : ∀ q ∈ gm_al (gm_cv G) 0 (gm_s1 ls k v), q ∈ (k, gm_cv G v) :: (gm_al (gm_cv G) 0 ls).filter (fun q => !(q.1 == k) && !(q.1 + 1 == k && q.2.category == 2)) := by
  intro q hq
  obtain ⟨j, w, h, rfl⟩ := (gm_al_mem _ _ _ _).mp hq
  rw [Nat.zero_add]
  rw [gm_s1_get] at h
  by_cases hj : j = k
  · subst hj
    rw [if_pos rfl] at h
    split at h
    · cases h; exact List.mem_cons_self
    · cases h
  · rw [if_neg hj] at h
    refine List.mem_cons_of_mem _ (List.mem_filter.mpr ?_)
    by_cases hk : j + 1 = k
    · rw [if_pos hk] at h
      cases hx : ls[j]? with
      | none => rw [hx] at h; cases h
      | some x =>
        rw [hx] at h
        have h2 := gm_kill_some (Option.some.inj h)
        rw [h2.1] at hx
        refine ⟨(gm_al_mem _ _ _ _).mpr ⟨j, w, hx, by rw [Nat.zero_add]⟩, ?_⟩
        simp [hj, gm_cv_cat, h2.2]
    · rw [if_neg hk] at h
      refine ⟨(gm_al_mem _ _ _ _).mpr ⟨j, w, h, by rw [Nat.zero_add]⟩, ?_⟩
      simp [hj, hk]
theorem gm_s2_sub (G : gm_G) (ls : gm_L) (k : Nat) (v : Value) : ∀ q ∈ gm_al (gm_cv G) 0 (gm_s2 ls k v), q ∈ (k, gm_cv G v) :: (gm_al (gm_cv G) 0 ls).filter (fun q => !(q.1 == k) && (!(q.1 == k + 1) && !(q.1 + 1 == k && q.2.category == 2))) := by
  intro q hq
  obtain ⟨j, w, h, rfl⟩ := (gm_al_mem _ _ _ _).mp hq
  rw [Nat.zero_add]
  rw [gm_s2_get] at h
  by_cases hj : j = k
  · subst hj
    rw [if_pos rfl] at h
    split at h
    · cases h; exact List.mem_cons_self
    · cases h
  · rw [if_neg hj] at h
    refine List.mem_cons_of_mem _ (List.mem_filter.mpr ?_)
    by_cases hk1 : j = k + 1
    · rw [if_pos hk1] at h
      split at h <;> cases h
    · rw [if_neg hk1] at h
      by_cases hk : j + 1 = k
      · rw [if_pos hk] at h
        cases hx : ls[j]? with
        | none => rw [hx] at h; cases h
        | some x =>
          rw [hx] at h
          have h2 := gm_kill_some (Option.some.inj h)
          rw [h2.1] at hx
          refine ⟨(gm_al_mem _ _ _ _).mpr ⟨j, w, hx, by rw [Nat.zero_add]⟩, ?_⟩
          simp [hj, hk1, gm_cv_cat, h2.2]
      · rw [if_neg hk] at h
        refine ⟨(gm_al_mem _ _ _ _).mpr ⟨j, w, h, by rw [Nat.zero_add]⟩, ?_⟩
        simp [hj, hk, hk1]
theorem gm_al_sl (G : gm_G) : ∀ (vs : List Value) (i n : Nat), gm_al (gm_cv G) i (gm_sl vs ++ List.replicate n none) = lv_args i (vs.map (gm_cv G))
  | [], i, n => by
    show gm_al _ i (List.replicate n none) = []
    induction n generalizing i with
    | zero => rfl
    | succ n ih => exact ih (i + 1)
  | v :: vs, i, n => by
    by_cases hc : v.category = 2
    · simp only [gm_sl, hc, if_true, List.cons_append, gm_al, List.map_cons, lv_args, gm_cv_cat]
      rw [gm_al_sl G vs (i + 1 + 1) n]
    · simp only [gm_sl, hc, if_false, List.cons_append, gm_al, List.map_cons, lv_args, gm_cv_cat]
      rw [gm_al_sl G vs (i + 1) n]
theorem gm_lg_sl (G : gm_G) : ∀ (vs : List Value), (lg_sl (vs.map (gm_cv G))).length = (gm_sl vs).length
  | [] => rfl
  | v :: vs => by
    have ih := gm_lg_sl G vs
    unfold lg_sl at ih ⊢
    rw [List.map_cons, List.flatMap_cons, List.length_append, ih, gm_cv_cat]
    by_cases hc : v.category = 2
    · simp [gm_sl, hc]; omega
    · simp [gm_sl, hc]; omega
theorem gm_ent_len {n : Nat} {vs : List Value} (h : (gm_sl vs).length ≤ n) : (gm_ent n vs).length = n := by
  simp [gm_ent]; omega
/-- the cells -/
def gm_nf (ci : Nat) : Nat := match gm_cl[ci]? with
  | some c => c.2.2
  | none => 0
def gm_oid (j : Nat) : Nat := if j = 2 then 3 else 4
def gm_otn (j : Nat) : String := if j = 2 then "GridMender$Laying" else "GridMender$Sheet"
def gm_cell (G : gm_G) (h : gm_H) (k : Nat) : Nat × Nat → va_E
  | (0, ci) => .inr (ci, (List.range (gm_nf ci)).map fun f => gm_cv G (gm_fv h k ci f))
  | (1, n) => .inl (G.2.2.1 0, n, .inl (h.2.1 k))
  | (2, n) => .inl (G.2.2.1 1, n, .inr (.inl (h.2.2.1 k)))
  | (3, n) => .inl (G.2.2.1 2, n, .inl (h.2.1 k))
  | (j + 4, n) => .inl (G.2.2.1 (gm_oid j), n, .inr (.inr (.inr (.inr fun i => (h.2.2.2 k i).map fun x => G.1 + x))))
def gm_ws (G : gm_G) (h : gm_H) : va_W := (List.range h.1.length).map fun k => (G.1 + k, gm_cell G h k (h.1.getD k (0, 0)))
def gm_WW (G : gm_G) (h : gm_H) (H : Heap) : Prop := H.size = G.1 + h.1.length ∧ va_P G.2.2.2 gm_cl (gm_ws G h) H
theorem gm_ws_get {G : gm_G} {h : gm_H} {r : Nat} {kd : Nat × Nat} (hr : h.1[r]? = some kd) : (gm_ws G h)[r]? = some (G.1 + r, gm_cell G h r kd) := by
  have hl : r < h.1.length := (List.getElem?_eq_some_iff.mp hr).1
  unfold gm_ws
  rw [List.getElem?_map, List.getElem?_range hl]
  simp [List.getD_eq_getElem?_getD, hr]
theorem gm_ws_inv {G : gm_G} {h : gm_H} {r : Nat} {x : Nat × va_E} (hx : (gm_ws G h)[r]? = some x) : ∃ kd, h.1[r]? = some kd ∧ x = (G.1 + r, gm_cell G h r kd) := by
  have hl : r < h.1.length := by
    have := (List.getElem?_eq_some_iff.mp hx).1
    simpa [gm_ws] using this
  refine ⟨h.1[r], List.getElem?_eq_getElem hl, ?_⟩
  rw [gm_ws_get (List.getElem?_eq_getElem hl)] at hx
  exact (Option.some.inj hx).symm
theorem gm_ws_len (G : gm_G) (h : gm_H) : (gm_ws G h).length = h.1.length := by simp [gm_ws]
theorem gm_wsD (G : gm_G) (h : gm_H) : va_D (fun a => G.1 ≤ a) (gm_ws G h) := by
  refine ⟨fun i j x y hx hy hxy => ?_, fun k x hx => ?_⟩
  · obtain ⟨_, -, rfl⟩ := gm_ws_inv hx
    obtain ⟨_, -, rfl⟩ := gm_ws_inv hy
    have : G.1 + i = G.1 + j := hxy
    omega
  · obtain ⟨_, -, rfl⟩ := gm_ws_inv hx
    exact Nat.le_add_right _ _
theorem gm_ws_set {G : gm_G} {h h2 : gm_H} {r : Nat} {kd : Nat × Nat} {E : va_E} (hr : h.1[r]? = some kd) (hs : h2.1 = h.1) (ho : ∀ k x, k ≠ r → gm_cell G h2 k x = gm_cell G h k x) (he : gm_cell G h2 r kd = E) : gm_ws G h2 = (gm_ws G h).set r (G.1 + r, E) := by
  apply List.ext_getElem?
  intro k
  by_cases hk : k = r
  · subst hk
    rw [gm_ws_get (kd := kd) (by rw [hs]; exact hr), he, List.getElem?_set_self (by rw [gm_ws_len]; exact (List.getElem?_eq_some_iff.mp hr).1)]
  · rw [List.getElem?_set_ne (Ne.symm hk)]
    cases hx : h.1[k]? with
    | none =>
      have h1 : h.1.length ≤ k := by simpa using hx
      rw [List.getElem?_eq_none (by rw [gm_ws_len, hs]; exact h1), List.getElem?_eq_none (by rw [gm_ws_len]; exact h1)]
    | some x => rw [gm_ws_get hx, gm_ws_get (kd := x) (by rw [hs]; exact hx), ho k x hk]
theorem gm_ws_push {G : gm_G} {h h2 : gm_H} {kd : Nat × Nat} {E : va_E} (hs : h2.1 = h.1 ++ [kd]) (ho : ∀ k x, k < h.1.length → gm_cell G h2 k x = gm_cell G h k x) (he : gm_cell G h2 h.1.length kd = E) : gm_ws G h2 = gm_ws G h ++ [(G.1 + h.1.length, E)] := by
  apply List.ext_getElem?
  intro k
  by_cases hk : k < h.1.length
  · rw [List.getElem?_append_left (by rw [gm_ws_len]; exact hk), gm_ws_get (List.getElem?_eq_getElem hk), gm_ws_get (kd := h.1[k]) (by rw [hs, List.getElem?_append_left hk]; exact List.getElem?_eq_getElem hk), ho k _ hk]
  · rw [List.getElem?_append_right (by rw [gm_ws_len]; omega), gm_ws_len]
    by_cases hk2 : k = h.1.length
    · subst hk2
      rw [gm_ws_get (kd := kd) (by rw [hs]; simp), he]
      simp
    · rw [List.getElem?_eq_none (by rw [gm_ws_len, hs]; simp; omega), List.getElem?_eq_none (by simp; omega)]
def gm_tl (ids : Nat → ClassId) : List (ClassId × FieldType) := [(ids 0, .int), (ids 1, .long), (ids 2, .boolean), (ids 3, .object "GridMender$Laying"), (ids 4, .object "GridMender$Sheet")]
theorem gm_tl_o {ids : Nat → ClassId} {j : Nat} (hj : j = 2 ∨ j = 5) : (gm_tl ids)[gm_oid j]? = some (ids (gm_oid j), .object (gm_otn j)) := by
  rcases hj with rfl | rfl <;> rfl
/-- the words that every method has -/
def gm_tbl : List Cond := lw_tbl.filter goodWord
theorem gm_in {i : Nat} {w : Cond} (h : lw_tbl[i]? = some w) (hg : goodWord w = true) : w ∈ gm_tbl := List.mem_filter.mpr ⟨List.mem_of_getElem? h, hg⟩
theorem gm_goodIn {w : Cond} (h : w ∈ gm_tbl) : (w.onTables && w.keeps) = true ∨ ∃ ty, w = .arrayClass ty := good_of_word (List.mem_filter.mp h).2
theorem gm_lay_good (C : String) (T : u_T) (N : Nat) : ∀ w ∈ u_ws C T N, goodWord w = true := by
  intro w hw
  obtain ⟨k, -, rfl⟩ := List.mem_map.mp hw
  unfold u_lay
  split <;> rfl
theorem gm_uws {ci : Nat} {c : vw_C} (hc : gm_cl[ci]? = some c) : ∀ w ∈ u_ws c.1 c.2.1 c.2.2, w ∈ gm_tbl := by
  have key : ∀ (C : String) (T : u_T) (N : Nat), (∀ w ∈ u_ws C T N, w ∈ lw_tbl) → ∀ w ∈ u_ws C T N, w ∈ gm_tbl := fun C T N h w hw => List.mem_filter.mpr ⟨h w hw, gm_lay_good C T N w hw⟩
  match ci, hc with
  | 0, hc => cases hc; exact key _ _ _ gm_in0
  | 1, hc => cases hc; exact key _ _ _ gm_in1
  | 2, hc => cases hc; exact key _ _ _ gm_in2
  | 3, hc => cases hc; exact key _ _ _ gm_in3
  | 4, hc => cases hc; exact key _ _ _ gm_in4
  | 5, hc => cases hc; exact key _ _ _ gm_in5
  | 6, hc => cases hc; exact key _ _ _ gm_in6
  | 7, hc => cases hc; exact key _ _ _ gm_in7
  | n + 8, hc => simp [gm_cl] at hc
theorem gm_tyok {ci : Nat} {c : vw_C} (hc : gm_cl[ci]? = some c) : ∀ k, k < c.2.2 → parseFieldDescriptor (c.2.1 k).2.2.1 = some (gm_ty ci k) := by
  match ci, hc with
  | 0, hc => cases hc; exact tyX0_ok
  | 1, hc => cases hc; exact tyX1_ok
  | 2, hc => cases hc; exact tyX2_ok
  | 3, hc => cases hc; exact tyX3_ok
  | 4, hc => cases hc; exact tyX4_ok
  | 5, hc => cases hc; exact tyX5_ok
  | 6, hc => cases hc; exact tyX6_ok
  | 7, hc => cases hc; exact tyX7_ok
  | n + 8, hc => simp [gm_cl] at hc
theorem gm_nmok {ci : Nat} {c : vw_C} (hc : gm_cl[ci]? = some c) : ∀ a, a < c.2.2 → ∀ b, b < c.2.2 → a ≠ b → (c.2.1 a).2.1 ≠ (c.2.1 b).2.1 := by
  match ci, hc with
  | 0, hc => cases hc; exact nmX0
  | 1, hc => cases hc; exact nmX1
  | 2, hc => cases hc; exact nmX2
  | 3, hc => cases hc; exact nmX3
  | 4, hc => cases hc; exact nmX4
  | 5, hc => cases hc; exact nmX5
  | 6, hc => cases hc; exact nmX6
  | 7, hc => cases hc; exact nmX7
  | n + 8, hc => simp [gm_cl] at hc
theorem gm_clnm {ci : Nat} {c : vw_C} (hc : gm_cl[ci]? = some c) : gm_own ci = c.1 ∧ ∀ k, (c.2.1 k).1 = c.1 := by
  match ci, hc with
  | 0, hc => cases hc; exact ⟨rfl, fun k => by show (TX0 k).1 = RX0; unfold TX0; split <;> rfl⟩
  | 1, hc => cases hc; exact ⟨rfl, fun k => by show (TX1 k).1 = RX1; unfold TX1; split <;> rfl⟩
  | 2, hc => cases hc; exact ⟨rfl, fun k => by show (TX2 k).1 = RX2; unfold TX2; split <;> rfl⟩
  | 3, hc => cases hc; exact ⟨rfl, fun k => by show (TX3 k).1 = RX3; unfold TX3; split <;> rfl⟩
  | 4, hc => cases hc; exact ⟨rfl, fun k => by show (TX4 k).1 = RX4; unfold TX4; split <;> rfl⟩
  | 5, hc => cases hc; exact ⟨rfl, fun k => by show (TX5 k).1 = RX5; unfold TX5; split <;> rfl⟩
  | 6, hc => cases hc; exact ⟨rfl, fun k => by show (TX6 k).1 = RX6; unfold TX6; split <;> rfl⟩
  | 7, hc => cases hc; exact ⟨rfl, fun k => by show (TX7 k).1 = RX7; unfold TX7; split <;> rfl⟩
  | n + 8, hc => simp [gm_cl] at hc
/-- the words that don't keep by themselves -/
def gm_N (U : State) : Prop := (∀ (a : String) (i : Nat) (x : MethodName) (n : String), Cond.methodLinkNest a i x n ∈ lw_tbl → va_Nw (.methodLinkNest a i x n) U) ∧ va_AO "GridMender$Laying" U ∧ va_AO "GridMender$Sheet" U
theorem gm_N.warm {s U : State} (hW : s.WarmedH U.vm) (h : gm_N s) : gm_N U := ⟨fun a i x n hx => va_Nw.warmM hW (h.1 a i x n hx), va_AO.moved hW.alike h.2.1, va_AO.moved hW.alike h.2.2⟩
theorem gm_N.same {u U : State} (he : u.vm = U.vm) (h : gm_N u) : gm_N U := ⟨fun a i x n hx => va_Nw.same rfl he (h.1 a i x n hx), va_AO.moved (he ▸ Vm.Alike.refl _) h.2.1, va_AO.moved (he ▸ Vm.Alike.refl _) h.2.2⟩
/-- what a method's frame knows -/
def gm_Cx (G : gm_G) (L : Nat) (xs : Nat → Int32) (q : gm_M) (p : Program) (s : State) (mid : MethodId) (args : Array Value) (meth : Method) (c : Code) : Prop :=
  p.tables.exec = Jvm.exec ∧ c.code = q.2.1 ∧ c.maxLocals = q.2.2.1 ∧ s.vm.findClass (gm_own q.2.2.2.2.1) = some mid.cls ∧ (∀ w ∈ gm_tbl, w.before args s = true) ∧ gm_N s ∧ va_K G.2.2.2 gm_cl (gm_tl G.2.2.1) s ∧ va_X G.2.1 L xs s s.heap ∧ G.2.1 < G.1 ∧ G.1 ≤ s.heap.size ∧ meth.sig.returnType = q.2.2.2.1 ∧ meth.locks = false ∧ (q.1.name = "<init>" → meth.name = "<init>")
def gm_A (G : gm_G) : Nat → Prop := fun a => G.1 ≤ a
def gm_Qc (G : gm_G) (q : gm_M) (Q : Value → gm_H → Prop) : Array Value → State → Outcome → State → Prop := fun _ st o t => (∃ (v : Value) (h : gm_H), o = .returned (q.2.2.2.1.map fun _ => gm_cv G v) ∧ gm_WW G h t.heap ∧ Q v h) ∧ va_F (gm_A G) st t
def gm_rm (q : gm_M) : Room := { frames := q.2.2.2.2.2.2.1, cells := q.2.2.2.2.2.2.2.2.1, slots := q.2.2.2.2.2.2.2.2.2.1, locals := q.2.2.2.2.2.2.2.1 }
/-- what an abstract state says of the machine -/
def gm_SP (l : Launch) (G : gm_G) (L : Nat) (xs : Nat → Int32) : gm_X := fun m pc ls st h nc ns Q => ∀ q : gm_M, gm_PT[m]? = some q →
  ∀ (p : Program) (e : Env) (s : State) (mid : MethodId) (args : Array Value) (below : List Frame) (meth : Method) (c : Code) (H : Heap) (locs : List Loc) (lo : Array Slot),
    gm_Cx G L xs q p s mid args meth c → gm_WW G h H → va_S (gm_A G) s.heap H locs → lv_has lo q.2.2.1 (gm_al (gm_cv G) 0 ls) → ls.length = q.2.2.1 →
    W p l e (gm_rm q) s mid args below meth c H locs nc ns (MQ below (gm_Qc G q Q) args s q.2.2.2.2.2.2.2.2.1 q.2.2.2.2.2.2.2.2.2.1 (gm_A G)) (F0 mid pc lo (st.map (gm_cv G)))
