/-! the law: its cases -/
abbrev lsL (i : Nat) : gm_L := [some (.retAddr 0), some (.ref 0), some (.ref 47), some (.int (nI i))]
theorem lc0 {L : Nat} {xs : Nat → Int32} {i b nc ns : Nat} {mi : Mi} {ml : Ml} (hL : L ≤ 3072) (hi : i + 6 ≤ L) (hb : b + 8 < 2 ^ 31) (hnc : nc ≤ 600000) (hns : ns ≤ 7302250) (hR : Rel b mi ml) (ih : ∀ m l, Rel (b + 8) m l → Go L xs 199 1051 (lsL i) [] (SH, m, l, MR) nc ns (fun v _ => v = .int 1)) : Go L xs 199 180 (lsL i) [] (SH, mi, ml, MR) nc ns (fun v _ => v = .int 1) := by
  refine go_ld f199_180 (v := .ref 0) rfl rfl ?_
  refine go_ld f199_181 (v := .retAddr 0) rfl rfl ?_
  refine go_ld f199_182 (v := .int (nI i)) rfl rfl ?_
  refine go_psh f199_183 (v := .int 1) (by decide) ?_
  refine go_bin f199_184 rfl ?_
  refine go_sld f199_185 (pk_in (i + 1) L (by omega) (nI_add i 1)) ?_
  refine go_ld f199_186 (v := .retAddr 0) rfl rfl ?_
  refine go_ld f199_187 (v := .int (nI i)) rfl rfl ?_
  refine go_psh f199_188 (v := .int 2) (by decide) ?_
  refine go_bin f199_189 rfl ?_
  refine go_sld f199_190 (pk_in (i + 2) L (by omega) (nI_add i 2)) ?_
  refine go_cV (R := gm_w (qi fun v m l => Sg 132 0 [some (.ref 47), some (.int (xs (Int32.toNatClampNeg (nI i + 1)))), some (.int (xs (Int32.toNatClampNeg (nI i + 2)))), none] [] m l (qi (eqR (b + 8) v)))) (vs := [.int (xs (Int32.toNatClampNeg (nI i + 1))), .int (xs (Int32.toNatClampNeg (nI i + 2)))]) (r := 0) (rest := []) f199_191 rfl rfl pq71 pq199 rfl (Nat.le_of_ble_eq_true rfl) (Nat.le_of_ble_eq_true rfl) hnc hns ((p71 hb hR) L xs) (fun v h2 hQ => ?_)
  obtain ⟨s2, i2, l2, r2⟩ := h2
  obtain ⟨e1, e2, v1, rfl, hQ⟩ := hQ
  cases e1; cases e2
  refine go_ld f199_194 (v := .ref 47) rfl rfl ?_
  refine go_ld f199_195 (v := .retAddr 0) rfl rfl ?_
  refine go_ld f199_196 (v := .int (nI i)) rfl rfl ?_
  refine go_psh f199_197 (v := .int 1) (by decide) ?_
  refine go_bin f199_198 rfl ?_
  refine go_sld f199_199 (pk_in (i + 1) L (by omega) (nI_add i 1)) ?_
  refine go_ld f199_200 (v := .retAddr 0) rfl rfl ?_
  refine go_ld f199_201 (v := .int (nI i)) rfl rfl ?_
  refine go_psh f199_202 (v := .int 2) (by decide) ?_
  refine go_bin f199_203 rfl ?_
  refine go_sld f199_204 (pk_in (i + 2) L (by omega) (nI_add i 2)) ?_
  refine go_cV (R := gm_w (qi (eqR (b + 8) v1))) (vs := [.int (xs (Int32.toNatClampNeg (nI i + 1))), .int (xs (Int32.toNatClampNeg (nI i + 2)))]) (r := 47) (rest := [.int v1]) f199_205 rfl rfl pq132 pq199 rfl (Nat.le_of_ble_eq_true rfl) (Nat.le_of_ble_eq_true rfl) hnc hns (hQ L xs) (fun v h2 hQ => ?_)
  obtain ⟨s3, i3, l3, r3⟩ := h2
  obtain ⟨e1, e2, v2, rfl, hE, hR3⟩ := hQ
  cases e1; cases e2
  exact go_icmp f199_208 (fun _ => ih i3 l3 hR3) (fun c => absurd hE c)
theorem lc1 {L : Nat} {xs : Nat → Int32} {i b nc ns : Nat} {mi : Mi} {ml : Ml} (hL : L ≤ 3072) (hi : i + 6 ≤ L) (hb : b + 8 < 2 ^ 31) (hnc : nc ≤ 600000) (hns : ns ≤ 7302250) (hR : Rel b mi ml) (ih : ∀ m l, Rel (b + 8) m l → Go L xs 199 1051 (lsL i) [] (SH, m, l, MR) nc ns (fun v _ => v = .int 1)) : Go L xs 199 213 (lsL i) [] (SH, mi, ml, MR) nc ns (fun v _ => v = .int 1) := by
  refine go_ld f199_213 (v := .ref 0) rfl rfl ?_
  refine go_ld f199_214 (v := .retAddr 0) rfl rfl ?_
  refine go_ld f199_215 (v := .int (nI i)) rfl rfl ?_
  refine go_psh f199_216 (v := .int 1) (by decide) ?_
  refine go_bin f199_217 rfl ?_
  refine go_sld f199_218 (pk_in (i + 1) L (by omega) (nI_add i 1)) ?_
  refine go_cV (R := gm_w (qi fun v m l => Sg 133 0 [some (.ref 47), some (.int (xs (Int32.toNatClampNeg (nI i + 1)))), none] [] m l (qi (eqR (b + 8) v)))) (vs := [.int (xs (Int32.toNatClampNeg (nI i + 1)))]) (r := 0) (rest := []) f199_219 rfl rfl pq72 pq199 rfl (Nat.le_of_ble_eq_true rfl) (Nat.le_of_ble_eq_true rfl) hnc hns ((p72 hb hR) L xs) (fun v h2 hQ => ?_)
  obtain ⟨s2, i2, l2, r2⟩ := h2
  obtain ⟨e1, e2, v1, rfl, hQ⟩ := hQ
  cases e1; cases e2
  refine go_ld f199_222 (v := .ref 47) rfl rfl ?_
  refine go_ld f199_223 (v := .retAddr 0) rfl rfl ?_
  refine go_ld f199_224 (v := .int (nI i)) rfl rfl ?_
  refine go_psh f199_225 (v := .int 1) (by decide) ?_
  refine go_bin f199_226 rfl ?_
  refine go_sld f199_227 (pk_in (i + 1) L (by omega) (nI_add i 1)) ?_
  refine go_cV (R := gm_w (qi (eqR (b + 8) v1))) (vs := [.int (xs (Int32.toNatClampNeg (nI i + 1)))]) (r := 47) (rest := [.int v1]) f199_228 rfl rfl pq133 pq199 rfl (Nat.le_of_ble_eq_true rfl) (Nat.le_of_ble_eq_true rfl) hnc hns (hQ L xs) (fun v h2 hQ => ?_)
  obtain ⟨s3, i3, l3, r3⟩ := h2
  obtain ⟨e1, e2, v2, rfl, hE, hR3⟩ := hQ
  cases e1; cases e2
  exact go_icmp f199_231 (fun _ => ih i3 l3 hR3) (fun c => absurd hE c)
theorem lc2 {L : Nat} {xs : Nat → Int32} {i b nc ns : Nat} {mi : Mi} {ml : Ml} (hL : L ≤ 3072) (hi : i + 6 ≤ L) (hb : b + 8 < 2 ^ 31) (hnc : nc ≤ 600000) (hns : ns ≤ 7302250) (hR : Rel b mi ml) (ih : ∀ m l, Rel (b + 8) m l → Go L xs 199 1051 (lsL i) [] (SH, m, l, MR) nc ns (fun v _ => v = .int 1)) : Go L xs 199 236 (lsL i) [] (SH, mi, ml, MR) nc ns (fun v _ => v = .int 1) := by
  refine go_ld f199_236 (v := .ref 0) rfl rfl ?_
  refine go_ld f199_237 (v := .retAddr 0) rfl rfl ?_
  refine go_ld f199_238 (v := .int (nI i)) rfl rfl ?_
  refine go_psh f199_239 (v := .int 1) (by decide) ?_
  refine go_bin f199_240 rfl ?_
  refine go_sld f199_241 (pk_in (i + 1) L (by omega) (nI_add i 1)) ?_
  refine go_cV (R := gm_w (qi fun v m l => Sg 134 0 [some (.ref 47), some (.int (xs (Int32.toNatClampNeg (nI i + 1)))), none] [] m l (qi (eqR (b + 8) v)))) (vs := [.int (xs (Int32.toNatClampNeg (nI i + 1)))]) (r := 0) (rest := []) f199_242 rfl rfl pq73 pq199 rfl (Nat.le_of_ble_eq_true rfl) (Nat.le_of_ble_eq_true rfl) hnc hns ((p73 hb hR) L xs) (fun v h2 hQ => ?_)
  obtain ⟨s2, i2, l2, r2⟩ := h2
  obtain ⟨e1, e2, v1, rfl, hQ⟩ := hQ
  cases e1; cases e2
  refine go_ld f199_245 (v := .ref 47) rfl rfl ?_
  refine go_ld f199_246 (v := .retAddr 0) rfl rfl ?_
  refine go_ld f199_247 (v := .int (nI i)) rfl rfl ?_
  refine go_psh f199_248 (v := .int 1) (by decide) ?_
  refine go_bin f199_249 rfl ?_
  refine go_sld f199_250 (pk_in (i + 1) L (by omega) (nI_add i 1)) ?_
  refine go_cV (R := gm_w (qi (eqR (b + 8) v1))) (vs := [.int (xs (Int32.toNatClampNeg (nI i + 1)))]) (r := 47) (rest := [.int v1]) f199_251 rfl rfl pq134 pq199 rfl (Nat.le_of_ble_eq_true rfl) (Nat.le_of_ble_eq_true rfl) hnc hns (hQ L xs) (fun v h2 hQ => ?_)
  obtain ⟨s3, i3, l3, r3⟩ := h2
  obtain ⟨e1, e2, v2, rfl, hE, hR3⟩ := hQ
  cases e1; cases e2
  exact go_icmp f199_254 (fun _ => ih i3 l3 hR3) (fun c => absurd hE c)
theorem lc3 {L : Nat} {xs : Nat → Int32} {i b nc ns : Nat} {mi : Mi} {ml : Ml} (hL : L ≤ 3072) (hi : i + 6 ≤ L) (hb : b + 8 < 2 ^ 31) (hnc : nc ≤ 600000) (hns : ns ≤ 7302250) (hR : Rel b mi ml) (ih : ∀ m l, Rel (b + 8) m l → Go L xs 199 1051 (lsL i) [] (SH, m, l, MR) nc ns (fun v _ => v = .int 1)) : Go L xs 199 259 (lsL i) [] (SH, mi, ml, MR) nc ns (fun v _ => v = .int 1) := by
  refine go_ld f199_259 (v := .ref 0) rfl rfl ?_
  refine go_ld f199_260 (v := .retAddr 0) rfl rfl ?_
  refine go_ld f199_261 (v := .int (nI i)) rfl rfl ?_
  refine go_psh f199_262 (v := .int 1) (by decide) ?_
  refine go_bin f199_263 rfl ?_
  refine go_sld f199_264 (pk_in (i + 1) L (by omega) (nI_add i 1)) ?_
  refine go_cV (R := gm_w (qi fun v m l => Sg 135 0 [some (.ref 47), some (.int (xs (Int32.toNatClampNeg (nI i + 1)))), none] [] m l (qi (eqR (b + 8) v)))) (vs := [.int (xs (Int32.toNatClampNeg (nI i + 1)))]) (r := 0) (rest := []) f199_265 rfl rfl pq74 pq199 rfl (Nat.le_of_ble_eq_true rfl) (Nat.le_of_ble_eq_true rfl) hnc hns ((p74 hb hR) L xs) (fun v h2 hQ => ?_)
  obtain ⟨s2, i2, l2, r2⟩ := h2
  obtain ⟨e1, e2, v1, rfl, hQ⟩ := hQ
  cases e1; cases e2
  refine go_ld f199_268 (v := .ref 47) rfl rfl ?_
  refine go_ld f199_269 (v := .retAddr 0) rfl rfl ?_
  refine go_ld f199_270 (v := .int (nI i)) rfl rfl ?_
  refine go_psh f199_271 (v := .int 1) (by decide) ?_
  refine go_bin f199_272 rfl ?_
  refine go_sld f199_273 (pk_in (i + 1) L (by omega) (nI_add i 1)) ?_
  refine go_cV (R := gm_w (qi (eqR (b + 8) v1))) (vs := [.int (xs (Int32.toNatClampNeg (nI i + 1)))]) (r := 47) (rest := [.int v1]) f199_274 rfl rfl pq135 pq199 rfl (Nat.le_of_ble_eq_true rfl) (Nat.le_of_ble_eq_true rfl) hnc hns (hQ L xs) (fun v h2 hQ => ?_)
  obtain ⟨s3, i3, l3, r3⟩ := h2
  obtain ⟨e1, e2, v2, rfl, hE, hR3⟩ := hQ
  cases e1; cases e2
  exact go_icmp f199_277 (fun _ => ih i3 l3 hR3) (fun c => absurd hE c)
theorem lc4 {L : Nat} {xs : Nat → Int32} {i b nc ns : Nat} {mi : Mi} {ml : Ml} (hL : L ≤ 3072) (hi : i + 6 ≤ L) (hb : b + 8 < 2 ^ 31) (hnc : nc ≤ 600000) (hns : ns ≤ 7302250) (hR : Rel b mi ml) (ih : ∀ m l, Rel (b + 8) m l → Go L xs 199 1051 (lsL i) [] (SH, m, l, MR) nc ns (fun v _ => v = .int 1)) : Go L xs 199 282 (lsL i) [] (SH, mi, ml, MR) nc ns (fun v _ => v = .int 1) := by
  refine go_ld f199_282 (v := .ref 0) rfl rfl ?_
  refine go_ld f199_283 (v := .retAddr 0) rfl rfl ?_
  refine go_ld f199_284 (v := .int (nI i)) rfl rfl ?_
  refine go_psh f199_285 (v := .int 1) (by decide) ?_
  refine go_bin f199_286 rfl ?_
  refine go_sld f199_287 (pk_in (i + 1) L (by omega) (nI_add i 1)) ?_
  refine go_ld f199_288 (v := .retAddr 0) rfl rfl ?_
  refine go_ld f199_289 (v := .int (nI i)) rfl rfl ?_
  refine go_psh f199_290 (v := .int 2) (by decide) ?_
  refine go_bin f199_291 rfl ?_
  refine go_sld f199_292 (pk_in (i + 2) L (by omega) (nI_add i 2)) ?_
  refine go_cV (R := gm_w (qi fun v m l => Sg 136 0 [some (.ref 47), some (.int (xs (Int32.toNatClampNeg (nI i + 1)))), some (.int (xs (Int32.toNatClampNeg (nI i + 2))))] [] m l (qi (eqR (b + 8) v)))) (vs := [.int (xs (Int32.toNatClampNeg (nI i + 1))), .int (xs (Int32.toNatClampNeg (nI i + 2)))]) (r := 0) (rest := []) f199_293 rfl rfl pq75 pq199 rfl (Nat.le_of_ble_eq_true rfl) (Nat.le_of_ble_eq_true rfl) hnc hns ((p75 hb hR) L xs) (fun v h2 hQ => ?_)
  obtain ⟨s2, i2, l2, r2⟩ := h2
  obtain ⟨e1, e2, v1, rfl, hQ⟩ := hQ
  cases e1; cases e2
  refine go_ld f199_296 (v := .ref 47) rfl rfl ?_
  refine go_ld f199_297 (v := .retAddr 0) rfl rfl ?_
  refine go_ld f199_298 (v := .int (nI i)) rfl rfl ?_
  refine go_psh f199_299 (v := .int 1) (by decide) ?_
  refine go_bin f199_300 rfl ?_
  refine go_sld f199_301 (pk_in (i + 1) L (by omega) (nI_add i 1)) ?_
  refine go_ld f199_302 (v := .retAddr 0) rfl rfl ?_
  refine go_ld f199_303 (v := .int (nI i)) rfl rfl ?_
  refine go_psh f199_304 (v := .int 2) (by decide) ?_
  refine go_bin f199_305 rfl ?_
  refine go_sld f199_306 (pk_in (i + 2) L (by omega) (nI_add i 2)) ?_
  refine go_cV (R := gm_w (qi (eqR (b + 8) v1))) (vs := [.int (xs (Int32.toNatClampNeg (nI i + 1))), .int (xs (Int32.toNatClampNeg (nI i + 2)))]) (r := 47) (rest := [.int v1]) f199_307 rfl rfl pq136 pq199 rfl (Nat.le_of_ble_eq_true rfl) (Nat.le_of_ble_eq_true rfl) hnc hns (hQ L xs) (fun v h2 hQ => ?_)
  obtain ⟨s3, i3, l3, r3⟩ := h2
  obtain ⟨e1, e2, v2, rfl, hE, hR3⟩ := hQ
  cases e1; cases e2
  exact go_icmp f199_310 (fun _ => ih i3 l3 hR3) (fun c => absurd hE c)
theorem lc5 {L : Nat} {xs : Nat → Int32} {i b nc ns : Nat} {mi : Mi} {ml : Ml} (hL : L ≤ 3072) (hi : i + 6 ≤ L) (hb : b + 8 < 2 ^ 31) (hnc : nc ≤ 600000) (hns : ns ≤ 7302250) (hR : Rel b mi ml) (ih : ∀ m l, Rel (b + 8) m l → Go L xs 199 1051 (lsL i) [] (SH, m, l, MR) nc ns (fun v _ => v = .int 1)) : Go L xs 199 315 (lsL i) [] (SH, mi, ml, MR) nc ns (fun v _ => v = .int 1) := by
  refine go_ld f199_315 (v := .ref 0) rfl rfl ?_
  refine go_ld f199_316 (v := .retAddr 0) rfl rfl ?_
  refine go_ld f199_317 (v := .int (nI i)) rfl rfl ?_
  refine go_psh f199_318 (v := .int 1) (by decide) ?_
  refine go_bin f199_319 rfl ?_
  refine go_sld f199_320 (pk_in (i + 1) L (by omega) (nI_add i 1)) ?_
  refine go_ld f199_321 (v := .retAddr 0) rfl rfl ?_
  refine go_ld f199_322 (v := .int (nI i)) rfl rfl ?_
  refine go_psh f199_323 (v := .int 2) (by decide) ?_
  refine go_bin f199_324 rfl ?_
  refine go_sld f199_325 (pk_in (i + 2) L (by omega) (nI_add i 2)) ?_
  refine go_cV (R := gm_w (qi fun v m l => Sg 138 0 [some (.ref 47), some (.int (xs (Int32.toNatClampNeg (nI i + 1)))), some (.int (xs (Int32.toNatClampNeg (nI i + 2)))), none, none] [] m l (qi (eqR (b + 8) v)))) (vs := [.int (xs (Int32.toNatClampNeg (nI i + 1))), .int (xs (Int32.toNatClampNeg (nI i + 2)))]) (r := 0) (rest := []) f199_326 rfl rfl pq76 pq199 rfl (Nat.le_of_ble_eq_true rfl) (Nat.le_of_ble_eq_true rfl) hnc hns ((p76 hb hR) L xs) (fun v h2 hQ => ?_)
  obtain ⟨s2, i2, l2, r2⟩ := h2
  obtain ⟨e1, e2, v1, rfl, hQ⟩ := hQ
  cases e1; cases e2
  refine go_ld f199_329 (v := .ref 47) rfl rfl ?_
  refine go_ld f199_330 (v := .retAddr 0) rfl rfl ?_
  refine go_ld f199_331 (v := .int (nI i)) rfl rfl ?_
  refine go_psh f199_332 (v := .int 1) (by decide) ?_
  refine go_bin f199_333 rfl ?_
  refine go_sld f199_334 (pk_in (i + 1) L (by omega) (nI_add i 1)) ?_
  refine go_ld f199_335 (v := .retAddr 0) rfl rfl ?_
  refine go_ld f199_336 (v := .int (nI i)) rfl rfl ?_
  refine go_psh f199_337 (v := .int 2) (by decide) ?_
  refine go_bin f199_338 rfl ?_
  refine go_sld f199_339 (pk_in (i + 2) L (by omega) (nI_add i 2)) ?_
  refine go_cV (R := gm_w (qi (eqR (b + 8) v1))) (vs := [.int (xs (Int32.toNatClampNeg (nI i + 1))), .int (xs (Int32.toNatClampNeg (nI i + 2)))]) (r := 47) (rest := [.int v1]) f199_340 rfl rfl pq138 pq199 rfl (Nat.le_of_ble_eq_true rfl) (Nat.le_of_ble_eq_true rfl) hnc hns (hQ L xs) (fun v h2 hQ => ?_)
  obtain ⟨s3, i3, l3, r3⟩ := h2
  obtain ⟨e1, e2, v2, rfl, hE, hR3⟩ := hQ
  cases e1; cases e2
  exact go_icmp f199_343 (fun _ => ih i3 l3 hR3) (fun c => absurd hE c)
theorem lc6 {L : Nat} {xs : Nat → Int32} {i b nc ns : Nat} {mi : Mi} {ml : Ml} (hL : L ≤ 3072) (hi : i + 6 ≤ L) (hb : b + 8 < 2 ^ 31) (hnc : nc ≤ 600000) (hns : ns ≤ 7302250) (hR : Rel b mi ml) (ih : ∀ m l, Rel (b + 8) m l → Go L xs 199 1051 (lsL i) [] (SH, m, l, MR) nc ns (fun v _ => v = .int 1)) : Go L xs 199 348 (lsL i) [] (SH, mi, ml, MR) nc ns (fun v _ => v = .int 1) := by
  refine go_ld f199_348 (v := .ref 0) rfl rfl ?_
  refine go_ld f199_349 (v := .retAddr 0) rfl rfl ?_
  refine go_ld f199_350 (v := .int (nI i)) rfl rfl ?_
  refine go_psh f199_351 (v := .int 1) (by decide) ?_
  refine go_bin f199_352 rfl ?_
  refine go_sld f199_353 (pk_in (i + 1) L (by omega) (nI_add i 1)) ?_
  refine go_ld f199_354 (v := .retAddr 0) rfl rfl ?_
  refine go_ld f199_355 (v := .int (nI i)) rfl rfl ?_
  refine go_psh f199_356 (v := .int 2) (by decide) ?_
  refine go_bin f199_357 rfl ?_
  refine go_sld f199_358 (pk_in (i + 2) L (by omega) (nI_add i 2)) ?_
  refine go_cV (R := gm_w (qi fun v m l => Sg 139 0 [some (.ref 47), some (.int (xs (Int32.toNatClampNeg (nI i + 1)))), some (.int (xs (Int32.toNatClampNeg (nI i + 2)))), none, none] [] m l (qi (eqR (b + 8) v)))) (vs := [.int (xs (Int32.toNatClampNeg (nI i + 1))), .int (xs (Int32.toNatClampNeg (nI i + 2)))]) (r := 0) (rest := []) f199_359 rfl rfl pq77 pq199 rfl (Nat.le_of_ble_eq_true rfl) (Nat.le_of_ble_eq_true rfl) hnc hns ((p77 hb hR) L xs) (fun v h2 hQ => ?_)
  obtain ⟨s2, i2, l2, r2⟩ := h2
  obtain ⟨e1, e2, v1, rfl, hQ⟩ := hQ
  cases e1; cases e2
  refine go_ld f199_362 (v := .ref 47) rfl rfl ?_
  refine go_ld f199_363 (v := .retAddr 0) rfl rfl ?_
  refine go_ld f199_364 (v := .int (nI i)) rfl rfl ?_
  refine go_psh f199_365 (v := .int 1) (by decide) ?_
  refine go_bin f199_366 rfl ?_
  refine go_sld f199_367 (pk_in (i + 1) L (by omega) (nI_add i 1)) ?_
  refine go_ld f199_368 (v := .retAddr 0) rfl rfl ?_
  refine go_ld f199_369 (v := .int (nI i)) rfl rfl ?_
  refine go_psh f199_370 (v := .int 2) (by decide) ?_
  refine go_bin f199_371 rfl ?_
  refine go_sld f199_372 (pk_in (i + 2) L (by omega) (nI_add i 2)) ?_
  refine go_cV (R := gm_w (qi (eqR (b + 8) v1))) (vs := [.int (xs (Int32.toNatClampNeg (nI i + 1))), .int (xs (Int32.toNatClampNeg (nI i + 2)))]) (r := 47) (rest := [.int v1]) f199_373 rfl rfl pq139 pq199 rfl (Nat.le_of_ble_eq_true rfl) (Nat.le_of_ble_eq_true rfl) hnc hns (hQ L xs) (fun v h2 hQ => ?_)
  obtain ⟨s3, i3, l3, r3⟩ := h2
  obtain ⟨e1, e2, v2, rfl, hE, hR3⟩ := hQ
  cases e1; cases e2
  exact go_icmp f199_376 (fun _ => ih i3 l3 hR3) (fun c => absurd hE c)
theorem lc7 {L : Nat} {xs : Nat → Int32} {i b nc ns : Nat} {mi : Mi} {ml : Ml} (hL : L ≤ 3072) (hi : i + 6 ≤ L) (hb : b + 8 < 2 ^ 31) (hnc : nc ≤ 600000) (hns : ns ≤ 7302250) (hR : Rel b mi ml) (ih : ∀ m l, Rel (b + 8) m l → Go L xs 199 1051 (lsL i) [] (SH, m, l, MR) nc ns (fun v _ => v = .int 1)) : Go L xs 199 381 (lsL i) [] (SH, mi, ml, MR) nc ns (fun v _ => v = .int 1) := by
  refine go_ld f199_381 (v := .ref 0) rfl rfl ?_
  refine go_ld f199_382 (v := .retAddr 0) rfl rfl ?_
  refine go_ld f199_383 (v := .int (nI i)) rfl rfl ?_
  refine go_psh f199_384 (v := .int 1) (by decide) ?_
  refine go_bin f199_385 rfl ?_
  refine go_sld f199_386 (pk_in (i + 1) L (by omega) (nI_add i 1)) ?_
  refine go_ld f199_387 (v := .retAddr 0) rfl rfl ?_
  refine go_ld f199_388 (v := .int (nI i)) rfl rfl ?_
  refine go_psh f199_389 (v := .int 2) (by decide) ?_
  refine go_bin f199_390 rfl ?_
  refine go_sld f199_391 (pk_in (i + 2) L (by omega) (nI_add i 2)) ?_
  refine go_ld f199_392 (v := .retAddr 0) rfl rfl ?_
  refine go_ld f199_393 (v := .int (nI i)) rfl rfl ?_
  refine go_psh f199_394 (v := .int 3) (by decide) ?_
  refine go_bin f199_395 rfl ?_
  refine go_sld f199_396 (pk_in (i + 3) L (by omega) (nI_add i 3)) ?_
  refine go_cV (R := gm_w (qi fun v m l => Sg 182 0 [some (.ref 47), some (.int (xs (Int32.toNatClampNeg (nI i + 1)))), some (.int (xs (Int32.toNatClampNeg (nI i + 2)))), some (.int (xs (Int32.toNatClampNeg (nI i + 3)))), none, none] [] m l (qi (eqR (b + 8) v)))) (vs := [.int (xs (Int32.toNatClampNeg (nI i + 1))), .int (xs (Int32.toNatClampNeg (nI i + 2))), .int (xs (Int32.toNatClampNeg (nI i + 3)))]) (r := 0) (rest := []) f199_397 rfl rfl pq78 pq199 rfl (Nat.le_of_ble_eq_true rfl) (Nat.le_of_ble_eq_true rfl) hnc hns ((p78 (hR.mono (Nat.le_add_right b 8))) L xs) (fun v h2 hQ => ?_)
  obtain ⟨s2, i2, l2, r2⟩ := h2
  obtain ⟨e1, e2, v1, rfl, hQ⟩ := hQ
  cases e1; cases e2
  refine go_ld f199_400 (v := .ref 47) rfl rfl ?_
  refine go_ld f199_401 (v := .retAddr 0) rfl rfl ?_
  refine go_ld f199_402 (v := .int (nI i)) rfl rfl ?_
  refine go_psh f199_403 (v := .int 1) (by decide) ?_
  refine go_bin f199_404 rfl ?_
  refine go_sld f199_405 (pk_in (i + 1) L (by omega) (nI_add i 1)) ?_
  refine go_ld f199_406 (v := .retAddr 0) rfl rfl ?_
  refine go_ld f199_407 (v := .int (nI i)) rfl rfl ?_
  refine go_psh f199_408 (v := .int 2) (by decide) ?_
  refine go_bin f199_409 rfl ?_
  refine go_sld f199_410 (pk_in (i + 2) L (by omega) (nI_add i 2)) ?_
  refine go_ld f199_411 (v := .retAddr 0) rfl rfl ?_
  refine go_ld f199_412 (v := .int (nI i)) rfl rfl ?_
  refine go_psh f199_413 (v := .int 3) (by decide) ?_
  refine go_bin f199_414 rfl ?_
  refine go_sld f199_415 (pk_in (i + 3) L (by omega) (nI_add i 3)) ?_
  refine go_cV (R := gm_w (qi (eqR (b + 8) v1))) (vs := [.int (xs (Int32.toNatClampNeg (nI i + 1))), .int (xs (Int32.toNatClampNeg (nI i + 2))), .int (xs (Int32.toNatClampNeg (nI i + 3)))]) (r := 47) (rest := [.int v1]) f199_416 rfl rfl pq182 pq199 rfl (Nat.le_of_ble_eq_true rfl) (Nat.le_of_ble_eq_true rfl) hnc hns (hQ L xs) (fun v h2 hQ => ?_)
  obtain ⟨s3, i3, l3, r3⟩ := h2
  obtain ⟨e1, e2, v2, rfl, hE, hR3⟩ := hQ
  cases e1; cases e2
  exact go_icmp f199_419 (fun _ => ih i3 l3 hR3) (fun c => absurd hE c)
theorem lc8 {L : Nat} {xs : Nat → Int32} {i b nc ns : Nat} {mi : Mi} {ml : Ml} (hL : L ≤ 3072) (hi : i + 6 ≤ L) (hb : b + 8 < 2 ^ 31) (hnc : nc ≤ 600000) (hns : ns ≤ 7302250) (hR : Rel b mi ml) (ih : ∀ m l, Rel (b + 8) m l → Go L xs 199 1051 (lsL i) [] (SH, m, l, MR) nc ns (fun v _ => v = .int 1)) : Go L xs 199 424 (lsL i) [] (SH, mi, ml, MR) nc ns (fun v _ => v = .int 1) := by
  refine go_ld f199_424 (v := .ref 0) rfl rfl ?_
  refine go_cV (R := gm_w (qi fun v m l => Sg 146 0 [some (.ref 47)] [] m l (qi (eqR (b + 8) v)))) (vs := []) (r := 0) (rest := []) f199_425 rfl rfl pq79 pq199 rfl (Nat.le_of_ble_eq_true rfl) (Nat.le_of_ble_eq_true rfl) hnc hns ((p79 (hR.mono (Nat.le_add_right b 8))) L xs) (fun v h2 hQ => ?_)
  obtain ⟨s2, i2, l2, r2⟩ := h2
  obtain ⟨e1, e2, v1, rfl, hQ⟩ := hQ
  cases e1; cases e2
  refine go_ld f199_428 (v := .ref 47) rfl rfl ?_
  refine go_cV (R := gm_w (qi (eqR (b + 8) v1))) (vs := []) (r := 47) (rest := [.int v1]) f199_429 rfl rfl pq146 pq199 rfl (Nat.le_of_ble_eq_true rfl) (Nat.le_of_ble_eq_true rfl) hnc hns (hQ L xs) (fun v h2 hQ => ?_)
  obtain ⟨s3, i3, l3, r3⟩ := h2
  obtain ⟨e1, e2, v2, rfl, hE, hR3⟩ := hQ
  cases e1; cases e2
  exact go_icmp f199_432 (fun _ => ih i3 l3 hR3) (fun c => absurd hE c)
theorem lc9 {L : Nat} {xs : Nat → Int32} {i b nc ns : Nat} {mi : Mi} {ml : Ml} (hL : L ≤ 3072) (hi : i + 6 ≤ L) (hb : b + 8 < 2 ^ 31) (hnc : nc ≤ 600000) (hns : ns ≤ 7302250) (hR : Rel b mi ml) (ih : ∀ m l, Rel (b + 8) m l → Go L xs 199 1051 (lsL i) [] (SH, m, l, MR) nc ns (fun v _ => v = .int 1)) : Go L xs 199 437 (lsL i) [] (SH, mi, ml, MR) nc ns (fun v _ => v = .int 1) := by
  refine go_ld f199_437 (v := .ref 0) rfl rfl ?_
  refine go_cV (R := gm_w (qi fun v m l => Sg 151 0 [some (.ref 47), none, none] [] m l (qi (eqR (b + 8) v)))) (vs := []) (r := 0) (rest := []) f199_438 rfl rfl pq80 pq199 rfl (Nat.le_of_ble_eq_true rfl) (Nat.le_of_ble_eq_true rfl) hnc hns ((p80 (hR.mono (Nat.le_add_right b 8))) L xs) (fun v h2 hQ => ?_)
  obtain ⟨s2, i2, l2, r2⟩ := h2
  obtain ⟨e1, e2, v1, rfl, hQ⟩ := hQ
  cases e1; cases e2
  refine go_ld f199_441 (v := .ref 47) rfl rfl ?_
  refine go_cV (R := gm_w (qi (eqR (b + 8) v1))) (vs := []) (r := 47) (rest := [.int v1]) f199_442 rfl rfl pq151 pq199 rfl (Nat.le_of_ble_eq_true rfl) (Nat.le_of_ble_eq_true rfl) hnc hns (hQ L xs) (fun v h2 hQ => ?_)
  obtain ⟨s3, i3, l3, r3⟩ := h2
  obtain ⟨e1, e2, v2, rfl, hE, hR3⟩ := hQ
  cases e1; cases e2
  exact go_icmp f199_445 (fun _ => ih i3 l3 hR3) (fun c => absurd hE c)
theorem lc10 {L : Nat} {xs : Nat → Int32} {i b nc ns : Nat} {mi : Mi} {ml : Ml} (hL : L ≤ 3072) (hi : i + 6 ≤ L) (hb : b + 8 < 2 ^ 31) (hnc : nc ≤ 600000) (hns : ns ≤ 7302250) (hR : Rel b mi ml) (ih : ∀ m l, Rel (b + 8) m l → Go L xs 199 1051 (lsL i) [] (SH, m, l, MR) nc ns (fun v _ => v = .int 1)) : Go L xs 199 450 (lsL i) [] (SH, mi, ml, MR) nc ns (fun v _ => v = .int 1) := by
  refine go_ld f199_450 (v := .ref 0) rfl rfl ?_
  refine go_cV (R := gm_w (qi fun v m l => Sg 153 0 [some (.ref 47)] [] m l (qi (eqR (b + 8) v)))) (vs := []) (r := 0) (rest := []) f199_451 rfl rfl pq81 pq199 rfl (Nat.le_of_ble_eq_true rfl) (Nat.le_of_ble_eq_true rfl) hnc hns ((p81 (hR.mono (Nat.le_add_right b 8))) L xs) (fun v h2 hQ => ?_)
  obtain ⟨s2, i2, l2, r2⟩ := h2
  obtain ⟨e1, e2, v1, rfl, hQ⟩ := hQ
  cases e1; cases e2
  refine go_ld f199_454 (v := .ref 47) rfl rfl ?_
  refine go_cV (R := gm_w (qi (eqR (b + 8) v1))) (vs := []) (r := 47) (rest := [.int v1]) f199_455 rfl rfl pq153 pq199 rfl (Nat.le_of_ble_eq_true rfl) (Nat.le_of_ble_eq_true rfl) hnc hns (hQ L xs) (fun v h2 hQ => ?_)
  obtain ⟨s3, i3, l3, r3⟩ := h2
  obtain ⟨e1, e2, v2, rfl, hE, hR3⟩ := hQ
  cases e1; cases e2
  exact go_icmp f199_458 (fun _ => ih i3 l3 hR3) (fun c => absurd hE c)
theorem lc11 {L : Nat} {xs : Nat → Int32} {i b nc ns : Nat} {mi : Mi} {ml : Ml} (hL : L ≤ 3072) (hi : i + 6 ≤ L) (hb : b + 8 < 2 ^ 31) (hnc : nc ≤ 600000) (hns : ns ≤ 7302250) (hR : Rel b mi ml) (ih : ∀ m l, Rel (b + 8) m l → Go L xs 199 1051 (lsL i) [] (SH, m, l, MR) nc ns (fun v _ => v = .int 1)) : Go L xs 199 463 (lsL i) [] (SH, mi, ml, MR) nc ns (fun v _ => v = .int 1) := by
  refine go_ld f199_463 (v := .ref 0) rfl rfl ?_
  refine go_ld f199_464 (v := .retAddr 0) rfl rfl ?_
  refine go_ld f199_465 (v := .int (nI i)) rfl rfl ?_
  refine go_psh f199_466 (v := .int 1) (by decide) ?_
  refine go_bin f199_467 rfl ?_
  refine go_sld f199_468 (pk_in (i + 1) L (by omega) (nI_add i 1)) ?_
  refine go_ld f199_469 (v := .retAddr 0) rfl rfl ?_
  refine go_ld f199_470 (v := .int (nI i)) rfl rfl ?_
  refine go_psh f199_471 (v := .int 2) (by decide) ?_
  refine go_bin f199_472 rfl ?_
  refine go_sld f199_473 (pk_in (i + 2) L (by omega) (nI_add i 2)) ?_
  refine go_cV (R := gm_w (qi fun v m l => Sg 154 0 [some (.ref 47), some (.int (xs (Int32.toNatClampNeg (nI i + 1)))), some (.int (xs (Int32.toNatClampNeg (nI i + 2)))), none] [] m l (qi (eqR (b + 8) v)))) (vs := [.int (xs (Int32.toNatClampNeg (nI i + 1))), .int (xs (Int32.toNatClampNeg (nI i + 2)))]) (r := 0) (rest := []) f199_474 rfl rfl pq82 pq199 rfl (Nat.le_of_ble_eq_true rfl) (Nat.le_of_ble_eq_true rfl) hnc hns ((p82 (hR.mono (Nat.le_add_right b 8))) L xs) (fun v h2 hQ => ?_)
  obtain ⟨s2, i2, l2, r2⟩ := h2
  obtain ⟨e1, e2, v1, rfl, hQ⟩ := hQ
  cases e1; cases e2
  refine go_ld f199_477 (v := .ref 47) rfl rfl ?_
  refine go_ld f199_478 (v := .retAddr 0) rfl rfl ?_
  refine go_ld f199_479 (v := .int (nI i)) rfl rfl ?_
  refine go_psh f199_480 (v := .int 1) (by decide) ?_
  refine go_bin f199_481 rfl ?_
  refine go_sld f199_482 (pk_in (i + 1) L (by omega) (nI_add i 1)) ?_
  refine go_ld f199_483 (v := .retAddr 0) rfl rfl ?_
  refine go_ld f199_484 (v := .int (nI i)) rfl rfl ?_
  refine go_psh f199_485 (v := .int 2) (by decide) ?_
  refine go_bin f199_486 rfl ?_
  refine go_sld f199_487 (pk_in (i + 2) L (by omega) (nI_add i 2)) ?_
  refine go_cV (R := gm_w (qi (eqR (b + 8) v1))) (vs := [.int (xs (Int32.toNatClampNeg (nI i + 1))), .int (xs (Int32.toNatClampNeg (nI i + 2)))]) (r := 47) (rest := [.int v1]) f199_488 rfl rfl pq154 pq199 rfl (Nat.le_of_ble_eq_true rfl) (Nat.le_of_ble_eq_true rfl) hnc hns (hQ L xs) (fun v h2 hQ => ?_)
  obtain ⟨s3, i3, l3, r3⟩ := h2
  obtain ⟨e1, e2, v2, rfl, hE, hR3⟩ := hQ
  cases e1; cases e2
  exact go_icmp f199_491 (fun _ => ih i3 l3 hR3) (fun c => absurd hE c)
theorem lc12 {L : Nat} {xs : Nat → Int32} {i b nc ns : Nat} {mi : Mi} {ml : Ml} (hL : L ≤ 3072) (hi : i + 6 ≤ L) (hb : b + 8 < 2 ^ 31) (hnc : nc ≤ 600000) (hns : ns ≤ 7302250) (hR : Rel b mi ml) (ih : ∀ m l, Rel (b + 8) m l → Go L xs 199 1051 (lsL i) [] (SH, m, l, MR) nc ns (fun v _ => v = .int 1)) : Go L xs 199 496 (lsL i) [] (SH, mi, ml, MR) nc ns (fun v _ => v = .int 1) := by
  refine go_ld f199_496 (v := .ref 0) rfl rfl ?_
  refine go_ld f199_497 (v := .retAddr 0) rfl rfl ?_
  refine go_ld f199_498 (v := .int (nI i)) rfl rfl ?_
  refine go_psh f199_499 (v := .int 1) (by decide) ?_
  refine go_bin f199_500 rfl ?_
  refine go_sld f199_501 (pk_in (i + 1) L (by omega) (nI_add i 1)) ?_
  refine go_ld f199_502 (v := .retAddr 0) rfl rfl ?_
  refine go_ld f199_503 (v := .int (nI i)) rfl rfl ?_
  refine go_psh f199_504 (v := .int 2) (by decide) ?_
  refine go_bin f199_505 rfl ?_
  refine go_sld f199_506 (pk_in (i + 2) L (by omega) (nI_add i 2)) ?_
  refine go_cV (R := gm_w (qi fun v m l => Sg 156 0 [some (.ref 47), some (.int (xs (Int32.toNatClampNeg (nI i + 1)))), some (.int (xs (Int32.toNatClampNeg (nI i + 2))))] [] m l (qi (eqR (b + 8) v)))) (vs := [.int (xs (Int32.toNatClampNeg (nI i + 1))), .int (xs (Int32.toNatClampNeg (nI i + 2)))]) (r := 0) (rest := []) f199_507 rfl rfl pq83 pq199 rfl (Nat.le_of_ble_eq_true rfl) (Nat.le_of_ble_eq_true rfl) hnc hns ((p83 (hR.mono (Nat.le_add_right b 8))) L xs) (fun v h2 hQ => ?_)
  obtain ⟨s2, i2, l2, r2⟩ := h2
  obtain ⟨e1, e2, v1, rfl, hQ⟩ := hQ
  cases e1; cases e2
  refine go_ld f199_510 (v := .ref 47) rfl rfl ?_
  refine go_ld f199_511 (v := .retAddr 0) rfl rfl ?_
  refine go_ld f199_512 (v := .int (nI i)) rfl rfl ?_
  refine go_psh f199_513 (v := .int 1) (by decide) ?_
  refine go_bin f199_514 rfl ?_
  refine go_sld f199_515 (pk_in (i + 1) L (by omega) (nI_add i 1)) ?_
  refine go_ld f199_516 (v := .retAddr 0) rfl rfl ?_
  refine go_ld f199_517 (v := .int (nI i)) rfl rfl ?_
  refine go_psh f199_518 (v := .int 2) (by decide) ?_
  refine go_bin f199_519 rfl ?_
  refine go_sld f199_520 (pk_in (i + 2) L (by omega) (nI_add i 2)) ?_
  refine go_cV (R := gm_w (qi (eqR (b + 8) v1))) (vs := [.int (xs (Int32.toNatClampNeg (nI i + 1))), .int (xs (Int32.toNatClampNeg (nI i + 2)))]) (r := 47) (rest := [.int v1]) f199_521 rfl rfl pq156 pq199 rfl (Nat.le_of_ble_eq_true rfl) (Nat.le_of_ble_eq_true rfl) hnc hns (hQ L xs) (fun v h2 hQ => ?_)
  obtain ⟨s3, i3, l3, r3⟩ := h2
  obtain ⟨e1, e2, v2, rfl, hE, hR3⟩ := hQ
  cases e1; cases e2
  exact go_icmp f199_524 (fun _ => ih i3 l3 hR3) (fun c => absurd hE c)
theorem lc13 {L : Nat} {xs : Nat → Int32} {i b nc ns : Nat} {mi : Mi} {ml : Ml} (hL : L ≤ 3072) (hi : i + 6 ≤ L) (hb : b + 8 < 2 ^ 31) (hnc : nc ≤ 600000) (hns : ns ≤ 7302250) (hR : Rel b mi ml) (ih : ∀ m l, Rel (b + 8) m l → Go L xs 199 1051 (lsL i) [] (SH, m, l, MR) nc ns (fun v _ => v = .int 1)) : Go L xs 199 529 (lsL i) [] (SH, mi, ml, MR) nc ns (fun v _ => v = .int 1) := by
  refine go_ld f199_529 (v := .ref 0) rfl rfl ?_
  refine go_ld f199_530 (v := .retAddr 0) rfl rfl ?_
  refine go_ld f199_531 (v := .int (nI i)) rfl rfl ?_
  refine go_psh f199_532 (v := .int 1) (by decide) ?_
  refine go_bin f199_533 rfl ?_
  refine go_sld f199_534 (pk_in (i + 1) L (by omega) (nI_add i 1)) ?_
  refine go_cV (R := gm_w (qi fun v m l => Sg 158 0 [some (.ref 47), some (.int (xs (Int32.toNatClampNeg (nI i + 1))))] [] m l (qi (eqR (b + 8) v)))) (vs := [.int (xs (Int32.toNatClampNeg (nI i + 1)))]) (r := 0) (rest := []) f199_535 rfl rfl pq84 pq199 rfl (Nat.le_of_ble_eq_true rfl) (Nat.le_of_ble_eq_true rfl) hnc hns ((p84 (hR.mono (Nat.le_add_right b 8))) L xs) (fun v h2 hQ => ?_)
  obtain ⟨s2, i2, l2, r2⟩ := h2
  obtain ⟨e1, e2, v1, rfl, hQ⟩ := hQ
  cases e1; cases e2
  refine go_ld f199_538 (v := .ref 47) rfl rfl ?_
  refine go_ld f199_539 (v := .retAddr 0) rfl rfl ?_
  refine go_ld f199_540 (v := .int (nI i)) rfl rfl ?_
  refine go_psh f199_541 (v := .int 1) (by decide) ?_
  refine go_bin f199_542 rfl ?_
  refine go_sld f199_543 (pk_in (i + 1) L (by omega) (nI_add i 1)) ?_
  refine go_cV (R := gm_w (qi (eqR (b + 8) v1))) (vs := [.int (xs (Int32.toNatClampNeg (nI i + 1)))]) (r := 47) (rest := [.int v1]) f199_544 rfl rfl pq158 pq199 rfl (Nat.le_of_ble_eq_true rfl) (Nat.le_of_ble_eq_true rfl) hnc hns (hQ L xs) (fun v h2 hQ => ?_)
  obtain ⟨s3, i3, l3, r3⟩ := h2
  obtain ⟨e1, e2, v2, rfl, hE, hR3⟩ := hQ
  cases e1; cases e2
  exact go_icmp f199_547 (fun _ => ih i3 l3 hR3) (fun c => absurd hE c)
theorem lc14 {L : Nat} {xs : Nat → Int32} {i b nc ns : Nat} {mi : Mi} {ml : Ml} (hL : L ≤ 3072) (hi : i + 6 ≤ L) (hb : b + 8 < 2 ^ 31) (hnc : nc ≤ 600000) (hns : ns ≤ 7302250) (hR : Rel b mi ml) (ih : ∀ m l, Rel (b + 8) m l → Go L xs 199 1051 (lsL i) [] (SH, m, l, MR) nc ns (fun v _ => v = .int 1)) : Go L xs 199 552 (lsL i) [] (SH, mi, ml, MR) nc ns (fun v _ => v = .int 1) := by
  refine go_ld f199_552 (v := .ref 0) rfl rfl ?_
  refine go_cV (R := gm_w (qi fun v m l => Sg 160 0 [some (.ref 47)] [] m l (qi (eqR (b + 8) v)))) (vs := []) (r := 0) (rest := []) f199_553 rfl rfl pq85 pq199 rfl (Nat.le_of_ble_eq_true rfl) (Nat.le_of_ble_eq_true rfl) hnc hns ((p85 (hR.mono (Nat.le_add_right b 8))) L xs) (fun v h2 hQ => ?_)
  obtain ⟨s2, i2, l2, r2⟩ := h2
  obtain ⟨e1, e2, v1, rfl, hQ⟩ := hQ
  cases e1; cases e2
  refine go_ld f199_556 (v := .ref 47) rfl rfl ?_
  refine go_cV (R := gm_w (qi (eqR (b + 8) v1))) (vs := []) (r := 47) (rest := [.int v1]) f199_557 rfl rfl pq160 pq199 rfl (Nat.le_of_ble_eq_true rfl) (Nat.le_of_ble_eq_true rfl) hnc hns (hQ L xs) (fun v h2 hQ => ?_)
  obtain ⟨s3, i3, l3, r3⟩ := h2
  obtain ⟨e1, e2, v2, rfl, hE, hR3⟩ := hQ
  cases e1; cases e2
  exact go_icmp f199_560 (fun _ => ih i3 l3 hR3) (fun c => absurd hE c)
theorem lc15 {L : Nat} {xs : Nat → Int32} {i b nc ns : Nat} {mi : Mi} {ml : Ml} (hL : L ≤ 3072) (hi : i + 6 ≤ L) (hb : b + 8 < 2 ^ 31) (hnc : nc ≤ 600000) (hns : ns ≤ 7302250) (hR : Rel b mi ml) (ih : ∀ m l, Rel (b + 8) m l → Go L xs 199 1051 (lsL i) [] (SH, m, l, MR) nc ns (fun v _ => v = .int 1)) : Go L xs 199 565 (lsL i) [] (SH, mi, ml, MR) nc ns (fun v _ => v = .int 1) := by
  refine go_ld f199_565 (v := .ref 0) rfl rfl ?_
  refine go_ld f199_566 (v := .retAddr 0) rfl rfl ?_
  refine go_ld f199_567 (v := .int (nI i)) rfl rfl ?_
  refine go_psh f199_568 (v := .int 1) (by decide) ?_
  refine go_bin f199_569 rfl ?_
  refine go_sld f199_570 (pk_in (i + 1) L (by omega) (nI_add i 1)) ?_
  refine go_cV (R := gm_w (qi fun v m l => Sg 162 0 [some (.ref 47), some (.int (xs (Int32.toNatClampNeg (nI i + 1))))] [] m l (qi (eqR (b + 8) v)))) (vs := [.int (xs (Int32.toNatClampNeg (nI i + 1)))]) (r := 0) (rest := []) f199_571 rfl rfl pq86 pq199 rfl (Nat.le_of_ble_eq_true rfl) (Nat.le_of_ble_eq_true rfl) hnc hns ((p86 (hR.mono (Nat.le_add_right b 8))) L xs) (fun v h2 hQ => ?_)
  obtain ⟨s2, i2, l2, r2⟩ := h2
  obtain ⟨e1, e2, v1, rfl, hQ⟩ := hQ
  cases e1; cases e2
  refine go_ld f199_574 (v := .ref 47) rfl rfl ?_
  refine go_ld f199_575 (v := .retAddr 0) rfl rfl ?_
  refine go_ld f199_576 (v := .int (nI i)) rfl rfl ?_
  refine go_psh f199_577 (v := .int 1) (by decide) ?_
  refine go_bin f199_578 rfl ?_
  refine go_sld f199_579 (pk_in (i + 1) L (by omega) (nI_add i 1)) ?_
  refine go_cV (R := gm_w (qi (eqR (b + 8) v1))) (vs := [.int (xs (Int32.toNatClampNeg (nI i + 1)))]) (r := 47) (rest := [.int v1]) f199_580 rfl rfl pq162 pq199 rfl (Nat.le_of_ble_eq_true rfl) (Nat.le_of_ble_eq_true rfl) hnc hns (hQ L xs) (fun v h2 hQ => ?_)
  obtain ⟨s3, i3, l3, r3⟩ := h2
  obtain ⟨e1, e2, v2, rfl, hE, hR3⟩ := hQ
  cases e1; cases e2
  exact go_icmp f199_583 (fun _ => ih i3 l3 hR3) (fun c => absurd hE c)
theorem lc16 {L : Nat} {xs : Nat → Int32} {i b nc ns : Nat} {mi : Mi} {ml : Ml} (hL : L ≤ 3072) (hi : i + 6 ≤ L) (hb : b + 8 < 2 ^ 31) (hnc : nc ≤ 600000) (hns : ns ≤ 7302250) (hR : Rel b mi ml) (ih : ∀ m l, Rel (b + 8) m l → Go L xs 199 1051 (lsL i) [] (SH, m, l, MR) nc ns (fun v _ => v = .int 1)) : Go L xs 199 588 (lsL i) [] (SH, mi, ml, MR) nc ns (fun v _ => v = .int 1) := by
  refine go_ld f199_588 (v := .ref 0) rfl rfl ?_
  refine go_cV (R := gm_w (qi fun v m l => Sg 165 0 [some (.ref 47)] [] m l (qi (eqR (b + 8) v)))) (vs := []) (r := 0) (rest := []) f199_589 rfl rfl pq87 pq199 rfl (Nat.le_of_ble_eq_true rfl) (Nat.le_of_ble_eq_true rfl) hnc hns ((p87 (hR.mono (Nat.le_add_right b 8))) L xs) (fun v h2 hQ => ?_)
  obtain ⟨s2, i2, l2, r2⟩ := h2
  obtain ⟨e1, e2, v1, rfl, hQ⟩ := hQ
  cases e1; cases e2
  refine go_ld f199_592 (v := .ref 47) rfl rfl ?_
  refine go_cV (R := gm_w (qi (eqR (b + 8) v1))) (vs := []) (r := 47) (rest := [.int v1]) f199_593 rfl rfl pq165 pq199 rfl (Nat.le_of_ble_eq_true rfl) (Nat.le_of_ble_eq_true rfl) hnc hns (hQ L xs) (fun v h2 hQ => ?_)
  obtain ⟨s3, i3, l3, r3⟩ := h2
  obtain ⟨e1, e2, v2, rfl, hE, hR3⟩ := hQ
  cases e1; cases e2
  exact go_icmp f199_596 (fun _ => ih i3 l3 hR3) (fun c => absurd hE c)
theorem lc17 {L : Nat} {xs : Nat → Int32} {i b nc ns : Nat} {mi : Mi} {ml : Ml} (hL : L ≤ 3072) (hi : i + 6 ≤ L) (hb : b + 8 < 2 ^ 31) (hnc : nc ≤ 600000) (hns : ns ≤ 7302250) (hR : Rel b mi ml) (ih : ∀ m l, Rel (b + 8) m l → Go L xs 199 1051 (lsL i) [] (SH, m, l, MR) nc ns (fun v _ => v = .int 1)) : Go L xs 199 601 (lsL i) [] (SH, mi, ml, MR) nc ns (fun v _ => v = .int 1) := by
  refine go_ld f199_601 (v := .ref 0) rfl rfl ?_
  refine go_cV (R := gm_w (qi fun v m l => Sg 166 0 [some (.ref 47)] [] m l (qi (eqR (b + 8) v)))) (vs := []) (r := 0) (rest := []) f199_602 rfl rfl pq88 pq199 rfl (Nat.le_of_ble_eq_true rfl) (Nat.le_of_ble_eq_true rfl) hnc hns ((p88 (hR.mono (Nat.le_add_right b 8))) L xs) (fun v h2 hQ => ?_)
  obtain ⟨s2, i2, l2, r2⟩ := h2
  obtain ⟨e1, e2, v1, rfl, hQ⟩ := hQ
  cases e1; cases e2
  refine go_ld f199_605 (v := .ref 47) rfl rfl ?_
  refine go_cV (R := gm_w (qi (eqR (b + 8) v1))) (vs := []) (r := 47) (rest := [.int v1]) f199_606 rfl rfl pq166 pq199 rfl (Nat.le_of_ble_eq_true rfl) (Nat.le_of_ble_eq_true rfl) hnc hns (hQ L xs) (fun v h2 hQ => ?_)
  obtain ⟨s3, i3, l3, r3⟩ := h2
  obtain ⟨e1, e2, v2, rfl, hE, hR3⟩ := hQ
  cases e1; cases e2
  exact go_icmp f199_609 (fun _ => ih i3 l3 hR3) (fun c => absurd hE c)
theorem lc18 {L : Nat} {xs : Nat → Int32} {i b nc ns : Nat} {mi : Mi} {ml : Ml} (hL : L ≤ 3072) (hi : i + 6 ≤ L) (hb : b + 8 < 2 ^ 31) (hnc : nc ≤ 600000) (hns : ns ≤ 7302250) (hR : Rel b mi ml) (ih : ∀ m l, Rel (b + 8) m l → Go L xs 199 1051 (lsL i) [] (SH, m, l, MR) nc ns (fun v _ => v = .int 1)) : Go L xs 199 614 (lsL i) [] (SH, mi, ml, MR) nc ns (fun v _ => v = .int 1) := by
  refine go_ld f199_614 (v := .ref 0) rfl rfl ?_
  refine go_ld f199_615 (v := .retAddr 0) rfl rfl ?_
  refine go_ld f199_616 (v := .int (nI i)) rfl rfl ?_
  refine go_psh f199_617 (v := .int 1) (by decide) ?_
  refine go_bin f199_618 rfl ?_
  refine go_sld f199_619 (pk_in (i + 1) L (by omega) (nI_add i 1)) ?_
  refine go_cV (R := gm_w (qi fun v m l => Sg 168 0 [some (.ref 47), some (.int (xs (Int32.toNatClampNeg (nI i + 1))))] [] m l (qi (eqR (b + 8) v)))) (vs := [.int (xs (Int32.toNatClampNeg (nI i + 1)))]) (r := 0) (rest := []) f199_620 rfl rfl pq89 pq199 rfl (Nat.le_of_ble_eq_true rfl) (Nat.le_of_ble_eq_true rfl) hnc hns ((p89 (hR.mono (Nat.le_add_right b 8))) L xs) (fun v h2 hQ => ?_)
  obtain ⟨s2, i2, l2, r2⟩ := h2
  obtain ⟨e1, e2, v1, rfl, hQ⟩ := hQ
  cases e1; cases e2
  refine go_ld f199_623 (v := .ref 47) rfl rfl ?_
  refine go_ld f199_624 (v := .retAddr 0) rfl rfl ?_
  refine go_ld f199_625 (v := .int (nI i)) rfl rfl ?_
  refine go_psh f199_626 (v := .int 1) (by decide) ?_
  refine go_bin f199_627 rfl ?_
  refine go_sld f199_628 (pk_in (i + 1) L (by omega) (nI_add i 1)) ?_
  refine go_cV (R := gm_w (qi (eqR (b + 8) v1))) (vs := [.int (xs (Int32.toNatClampNeg (nI i + 1)))]) (r := 47) (rest := [.int v1]) f199_629 rfl rfl pq168 pq199 rfl (Nat.le_of_ble_eq_true rfl) (Nat.le_of_ble_eq_true rfl) hnc hns (hQ L xs) (fun v h2 hQ => ?_)
  obtain ⟨s3, i3, l3, r3⟩ := h2
  obtain ⟨e1, e2, v2, rfl, hE, hR3⟩ := hQ
  cases e1; cases e2
  exact go_icmp f199_632 (fun _ => ih i3 l3 hR3) (fun c => absurd hE c)
theorem lc19 {L : Nat} {xs : Nat → Int32} {i b nc ns : Nat} {mi : Mi} {ml : Ml} (hL : L ≤ 3072) (hi : i + 6 ≤ L) (hb : b + 8 < 2 ^ 31) (hnc : nc ≤ 600000) (hns : ns ≤ 7302250) (hR : Rel b mi ml) (ih : ∀ m l, Rel (b + 8) m l → Go L xs 199 1051 (lsL i) [] (SH, m, l, MR) nc ns (fun v _ => v = .int 1)) : Go L xs 199 637 (lsL i) [] (SH, mi, ml, MR) nc ns (fun v _ => v = .int 1) := by
  refine go_ld f199_637 (v := .ref 0) rfl rfl ?_
  refine go_cV (R := gm_w (qi fun v m l => Sg 177 0 [some (.ref 47)] [] m l (qi (eqR (b + 8) v)))) (vs := []) (r := 0) (rest := []) f199_638 rfl rfl pq90 pq199 rfl (Nat.le_of_ble_eq_true rfl) (Nat.le_of_ble_eq_true rfl) hnc hns ((p90 (hR.mono (Nat.le_add_right b 8))) L xs) (fun v h2 hQ => ?_)
  obtain ⟨s2, i2, l2, r2⟩ := h2
  obtain ⟨e1, e2, v1, rfl, hQ⟩ := hQ
  cases e1; cases e2
  refine go_ld f199_641 (v := .ref 47) rfl rfl ?_
  refine go_cV (R := gm_w (qi (eqR (b + 8) v1))) (vs := []) (r := 47) (rest := [.int v1]) f199_642 rfl rfl pq177 pq199 rfl (Nat.le_of_ble_eq_true rfl) (Nat.le_of_ble_eq_true rfl) hnc hns (hQ L xs) (fun v h2 hQ => ?_)
  obtain ⟨s3, i3, l3, r3⟩ := h2
  obtain ⟨e1, e2, v2, rfl, hE, hR3⟩ := hQ
  cases e1; cases e2
  exact go_icmp f199_645 (fun _ => ih i3 l3 hR3) (fun c => absurd hE c)
theorem lc20 {L : Nat} {xs : Nat → Int32} {i b nc ns : Nat} {mi : Mi} {ml : Ml} (hL : L ≤ 3072) (hi : i + 6 ≤ L) (hb : b + 8 < 2 ^ 31) (hnc : nc ≤ 600000) (hns : ns ≤ 7302250) (hR : Rel b mi ml) (ih : ∀ m l, Rel (b + 8) m l → Go L xs 199 1051 (lsL i) [] (SH, m, l, MR) nc ns (fun v _ => v = .int 1)) : Go L xs 199 650 (lsL i) [] (SH, mi, ml, MR) nc ns (fun v _ => v = .int 1) := by
  refine go_ld f199_650 (v := .ref 0) rfl rfl ?_
  refine go_cV (R := gm_w (ql fun v m l => Sg 179 0 [some (.ref 47)] [] m l (ql (eqR (b + 8) v)))) (vs := []) (r := 0) (rest := []) f199_651 rfl rfl pq91 pq199 rfl (Nat.le_of_ble_eq_true rfl) (Nat.le_of_ble_eq_true rfl) hnc hns ((p91 (hR.mono (Nat.le_add_right b 8))) L xs) (fun v h2 hQ => ?_)
  obtain ⟨s2, i2, l2, r2⟩ := h2
  obtain ⟨e1, e2, v1, rfl, hQ⟩ := hQ
  cases e1; cases e2
  refine go_ld f199_654 (v := .ref 47) rfl rfl ?_
  refine go_cV (R := gm_w (ql (eqR (b + 8) v1))) (vs := []) (r := 47) (rest := [.long v1]) f199_655 rfl rfl pq179 pq199 rfl (Nat.le_of_ble_eq_true rfl) (Nat.le_of_ble_eq_true rfl) hnc hns (hQ L xs) (fun v h2 hQ => ?_)
  obtain ⟨s3, i3, l3, r3⟩ := h2
  obtain ⟨e1, e2, v2, rfl, hE, hR3⟩ := hQ
  cases e1; cases e2
  refine go_lcmp f199_658 ?_
  exact go_if f199_659 (fun _ => ih i3 l3 hR3) (fun c => absurd ((lgE v1 v2).mpr hE) c)
theorem lc21 {L : Nat} {xs : Nat → Int32} {i b nc ns : Nat} {mi : Mi} {ml : Ml} (hL : L ≤ 3072) (hi : i + 6 ≤ L) (hb : b + 8 < 2 ^ 31) (hnc : nc ≤ 600000) (hns : ns ≤ 7302250) (hR : Rel b mi ml) (ih : ∀ m l, Rel (b + 8) m l → Go L xs 199 1051 (lsL i) [] (SH, m, l, MR) nc ns (fun v _ => v = .int 1)) : Go L xs 199 664 (lsL i) [] (SH, mi, ml, MR) nc ns (fun v _ => v = .int 1) := by
  refine go_ld f199_664 (v := .ref 0) rfl rfl ?_
  refine go_ld f199_665 (v := .retAddr 0) rfl rfl ?_
  refine go_ld f199_666 (v := .int (nI i)) rfl rfl ?_
  refine go_psh f199_667 (v := .int 1) (by decide) ?_
  refine go_bin f199_668 rfl ?_
  refine go_sld f199_669 (pk_in (i + 1) L (by omega) (nI_add i 1)) ?_
  refine go_cV (R := gm_w (qi fun v m l => Sg 184 0 [some (.ref 47), some (.int (xs (Int32.toNatClampNeg (nI i + 1)))), none] [] m l (qi (eqR (b + 8) v)))) (vs := [.int (xs (Int32.toNatClampNeg (nI i + 1)))]) (r := 0) (rest := []) f199_670 rfl rfl pq92 pq199 rfl (Nat.le_of_ble_eq_true rfl) (Nat.le_of_ble_eq_true rfl) hnc hns ((p92 (hR.mono (Nat.le_add_right b 8))) L xs) (fun v h2 hQ => ?_)
  obtain ⟨s2, i2, l2, r2⟩ := h2
  obtain ⟨e1, e2, v1, rfl, hQ⟩ := hQ
  cases e1; cases e2
  refine go_ld f199_673 (v := .ref 47) rfl rfl ?_
  refine go_ld f199_674 (v := .retAddr 0) rfl rfl ?_
  refine go_ld f199_675 (v := .int (nI i)) rfl rfl ?_
  refine go_psh f199_676 (v := .int 1) (by decide) ?_
  refine go_bin f199_677 rfl ?_
  refine go_sld f199_678 (pk_in (i + 1) L (by omega) (nI_add i 1)) ?_
  refine go_cV (R := gm_w (qi (eqR (b + 8) v1))) (vs := [.int (xs (Int32.toNatClampNeg (nI i + 1)))]) (r := 47) (rest := [.int v1]) f199_679 rfl rfl pq184 pq199 rfl (Nat.le_of_ble_eq_true rfl) (Nat.le_of_ble_eq_true rfl) hnc hns (hQ L xs) (fun v h2 hQ => ?_)
  obtain ⟨s3, i3, l3, r3⟩ := h2
  obtain ⟨e1, e2, v2, rfl, hE, hR3⟩ := hQ
  cases e1; cases e2
  exact go_icmp f199_682 (fun _ => ih i3 l3 hR3) (fun c => absurd hE c)
theorem lc22 {L : Nat} {xs : Nat → Int32} {i b nc ns : Nat} {mi : Mi} {ml : Ml} (hL : L ≤ 3072) (hi : i + 6 ≤ L) (hb : b + 8 < 2 ^ 31) (hnc : nc ≤ 600000) (hns : ns ≤ 7302250) (hR : Rel b mi ml) (ih : ∀ m l, Rel (b + 8) m l → Go L xs 199 1051 (lsL i) [] (SH, m, l, MR) nc ns (fun v _ => v = .int 1)) : Go L xs 199 687 (lsL i) [] (SH, mi, ml, MR) nc ns (fun v _ => v = .int 1) := by
  refine go_ld f199_687 (v := .ref 0) rfl rfl ?_
  refine go_ld f199_688 (v := .retAddr 0) rfl rfl ?_
  refine go_ld f199_689 (v := .int (nI i)) rfl rfl ?_
  refine go_psh f199_690 (v := .int 1) (by decide) ?_
  refine go_bin f199_691 rfl ?_
  refine go_sld f199_692 (pk_in (i + 1) L (by omega) (nI_add i 1)) ?_
  refine go_cV (R := gm_w (qi fun v m l => Sg 186 0 [some (.ref 47), some (.int (xs (Int32.toNatClampNeg (nI i + 1)))), none, none] [] m l (qi (eqR (b + 8) v)))) (vs := [.int (xs (Int32.toNatClampNeg (nI i + 1)))]) (r := 0) (rest := []) f199_693 rfl rfl pq93 pq199 rfl (Nat.le_of_ble_eq_true rfl) (Nat.le_of_ble_eq_true rfl) hnc hns ((p93 (hR.mono (Nat.le_add_right b 8))) L xs) (fun v h2 hQ => ?_)
  obtain ⟨s2, i2, l2, r2⟩ := h2
  obtain ⟨e1, e2, v1, rfl, hQ⟩ := hQ
  cases e1; cases e2
  refine go_ld f199_696 (v := .ref 47) rfl rfl ?_
  refine go_ld f199_697 (v := .retAddr 0) rfl rfl ?_
  refine go_ld f199_698 (v := .int (nI i)) rfl rfl ?_
  refine go_psh f199_699 (v := .int 1) (by decide) ?_
  refine go_bin f199_700 rfl ?_
  refine go_sld f199_701 (pk_in (i + 1) L (by omega) (nI_add i 1)) ?_
  refine go_cV (R := gm_w (qi (eqR (b + 8) v1))) (vs := [.int (xs (Int32.toNatClampNeg (nI i + 1)))]) (r := 47) (rest := [.int v1]) f199_702 rfl rfl pq186 pq199 rfl (Nat.le_of_ble_eq_true rfl) (Nat.le_of_ble_eq_true rfl) hnc hns (hQ L xs) (fun v h2 hQ => ?_)
  obtain ⟨s3, i3, l3, r3⟩ := h2
  obtain ⟨e1, e2, v2, rfl, hE, hR3⟩ := hQ
  cases e1; cases e2
  exact go_icmp f199_705 (fun _ => ih i3 l3 hR3) (fun c => absurd hE c)
theorem lc23 {L : Nat} {xs : Nat → Int32} {i b nc ns : Nat} {mi : Mi} {ml : Ml} (hL : L ≤ 3072) (hi : i + 6 ≤ L) (hb : b + 8 < 2 ^ 31) (hnc : nc ≤ 600000) (hns : ns ≤ 7302250) (hR : Rel b mi ml) (ih : ∀ m l, Rel (b + 8) m l → Go L xs 199 1051 (lsL i) [] (SH, m, l, MR) nc ns (fun v _ => v = .int 1)) : Go L xs 199 710 (lsL i) [] (SH, mi, ml, MR) nc ns (fun v _ => v = .int 1) := by
  refine go_ld f199_710 (v := .ref 0) rfl rfl ?_
  refine go_ld f199_711 (v := .retAddr 0) rfl rfl ?_
  refine go_ld f199_712 (v := .int (nI i)) rfl rfl ?_
  refine go_psh f199_713 (v := .int 1) (by decide) ?_
  refine go_bin f199_714 rfl ?_
  refine go_sld f199_715 (pk_in (i + 1) L (by omega) (nI_add i 1)) ?_
  refine go_cV (R := gm_w (qi fun v m l => Sg 187 0 [some (.ref 47), some (.int (xs (Int32.toNatClampNeg (nI i + 1)))), none, none, none] [] m l (qi (eqR (b + 8) v)))) (vs := [.int (xs (Int32.toNatClampNeg (nI i + 1)))]) (r := 0) (rest := []) f199_716 rfl rfl pq94 pq199 rfl (Nat.le_of_ble_eq_true rfl) (Nat.le_of_ble_eq_true rfl) hnc hns ((p94 (hR.mono (Nat.le_add_right b 8))) L xs) (fun v h2 hQ => ?_)
  obtain ⟨s2, i2, l2, r2⟩ := h2
  obtain ⟨e1, e2, v1, rfl, hQ⟩ := hQ
  cases e1; cases e2
  refine go_ld f199_719 (v := .ref 47) rfl rfl ?_
  refine go_ld f199_720 (v := .retAddr 0) rfl rfl ?_
  refine go_ld f199_721 (v := .int (nI i)) rfl rfl ?_
  refine go_psh f199_722 (v := .int 1) (by decide) ?_
  refine go_bin f199_723 rfl ?_
  refine go_sld f199_724 (pk_in (i + 1) L (by omega) (nI_add i 1)) ?_
  refine go_cV (R := gm_w (qi (eqR (b + 8) v1))) (vs := [.int (xs (Int32.toNatClampNeg (nI i + 1)))]) (r := 47) (rest := [.int v1]) f199_725 rfl rfl pq187 pq199 rfl (Nat.le_of_ble_eq_true rfl) (Nat.le_of_ble_eq_true rfl) hnc hns (hQ L xs) (fun v h2 hQ => ?_)
  obtain ⟨s3, i3, l3, r3⟩ := h2
  obtain ⟨e1, e2, v2, rfl, hE, hR3⟩ := hQ
  cases e1; cases e2
  exact go_icmp f199_728 (fun _ => ih i3 l3 hR3) (fun c => absurd hE c)
theorem lc24 {L : Nat} {xs : Nat → Int32} {i b nc ns : Nat} {mi : Mi} {ml : Ml} (hL : L ≤ 3072) (hi : i + 6 ≤ L) (hb : b + 8 < 2 ^ 31) (hnc : nc ≤ 600000) (hns : ns ≤ 7302250) (hR : Rel b mi ml) (ih : ∀ m l, Rel (b + 8) m l → Go L xs 199 1051 (lsL i) [] (SH, m, l, MR) nc ns (fun v _ => v = .int 1)) : Go L xs 199 733 (lsL i) [] (SH, mi, ml, MR) nc ns (fun v _ => v = .int 1) := by
  refine go_ld f199_733 (v := .ref 0) rfl rfl ?_
  refine go_ld f199_734 (v := .retAddr 0) rfl rfl ?_
  refine go_ld f199_735 (v := .int (nI i)) rfl rfl ?_
  refine go_psh f199_736 (v := .int 1) (by decide) ?_
  refine go_bin f199_737 rfl ?_
  refine go_sld f199_738 (pk_in (i + 1) L (by omega) (nI_add i 1)) ?_
  refine go_cV (R := gm_w (qi fun v m l => Sg 188 0 [some (.ref 47), some (.int (xs (Int32.toNatClampNeg (nI i + 1))))] [] m l (qi (eqR (b + 8) v)))) (vs := [.int (xs (Int32.toNatClampNeg (nI i + 1)))]) (r := 0) (rest := []) f199_739 rfl rfl pq95 pq199 rfl (Nat.le_of_ble_eq_true rfl) (Nat.le_of_ble_eq_true rfl) hnc hns ((p95 (hR.mono (Nat.le_add_right b 8))) L xs) (fun v h2 hQ => ?_)
  obtain ⟨s2, i2, l2, r2⟩ := h2
  obtain ⟨e1, e2, v1, rfl, hQ⟩ := hQ
  cases e1; cases e2
  refine go_ld f199_742 (v := .ref 47) rfl rfl ?_
  refine go_ld f199_743 (v := .retAddr 0) rfl rfl ?_
  refine go_ld f199_744 (v := .int (nI i)) rfl rfl ?_
  refine go_psh f199_745 (v := .int 1) (by decide) ?_
  refine go_bin f199_746 rfl ?_
  refine go_sld f199_747 (pk_in (i + 1) L (by omega) (nI_add i 1)) ?_
  refine go_cV (R := gm_w (qi (eqR (b + 8) v1))) (vs := [.int (xs (Int32.toNatClampNeg (nI i + 1)))]) (r := 47) (rest := [.int v1]) f199_748 rfl rfl pq188 pq199 rfl (Nat.le_of_ble_eq_true rfl) (Nat.le_of_ble_eq_true rfl) hnc hns (hQ L xs) (fun v h2 hQ => ?_)
  obtain ⟨s3, i3, l3, r3⟩ := h2
  obtain ⟨e1, e2, v2, rfl, hE, hR3⟩ := hQ
  cases e1; cases e2
  exact go_icmp f199_751 (fun _ => ih i3 l3 hR3) (fun c => absurd hE c)
theorem lc25 {L : Nat} {xs : Nat → Int32} {i b nc ns : Nat} {mi : Mi} {ml : Ml} (hL : L ≤ 3072) (hi : i + 6 ≤ L) (hb : b + 8 < 2 ^ 31) (hnc : nc ≤ 600000) (hns : ns ≤ 7302250) (hR : Rel b mi ml) (ih : ∀ m l, Rel (b + 8) m l → Go L xs 199 1051 (lsL i) [] (SH, m, l, MR) nc ns (fun v _ => v = .int 1)) : Go L xs 199 756 (lsL i) [] (SH, mi, ml, MR) nc ns (fun v _ => v = .int 1) := by
  refine go_ld f199_756 (v := .ref 0) rfl rfl ?_
  refine go_ld f199_757 (v := .retAddr 0) rfl rfl ?_
  refine go_ld f199_758 (v := .int (nI i)) rfl rfl ?_
  refine go_psh f199_759 (v := .int 1) (by decide) ?_
  refine go_bin f199_760 rfl ?_
  refine go_sld f199_761 (pk_in (i + 1) L (by omega) (nI_add i 1)) ?_
  refine go_ld f199_762 (v := .retAddr 0) rfl rfl ?_
  refine go_ld f199_763 (v := .int (nI i)) rfl rfl ?_
  refine go_psh f199_764 (v := .int 2) (by decide) ?_
  refine go_bin f199_765 rfl ?_
  refine go_sld f199_766 (pk_in (i + 2) L (by omega) (nI_add i 2)) ?_
  refine go_ld f199_767 (v := .retAddr 0) rfl rfl ?_
  refine go_ld f199_768 (v := .int (nI i)) rfl rfl ?_
  refine go_psh f199_769 (v := .int 3) (by decide) ?_
  refine go_bin f199_770 rfl ?_
  refine go_sld f199_771 (pk_in (i + 3) L (by omega) (nI_add i 3)) ?_
  refine go_cV (R := gm_w (qi fun v m l => Sg 122 0 [some (.ref 47), some (.int (xs (Int32.toNatClampNeg (nI i + 1)))), some (.int (xs (Int32.toNatClampNeg (nI i + 2)))), some (.int (xs (Int32.toNatClampNeg (nI i + 3)))), none] [] m l (qi (eqR (b + 8) v)))) (vs := [.int (xs (Int32.toNatClampNeg (nI i + 1))), .int (xs (Int32.toNatClampNeg (nI i + 2))), .int (xs (Int32.toNatClampNeg (nI i + 3)))]) (r := 0) (rest := []) f199_772 rfl rfl pq96 pq199 rfl (Nat.le_of_ble_eq_true rfl) (Nat.le_of_ble_eq_true rfl) hnc hns ((p96 (hR.mono (Nat.le_add_right b 8))) L xs) (fun v h2 hQ => ?_)
  obtain ⟨s2, i2, l2, r2⟩ := h2
  obtain ⟨e1, e2, v1, rfl, hQ⟩ := hQ
  cases e1; cases e2
  refine go_ld f199_775 (v := .ref 47) rfl rfl ?_
  refine go_ld f199_776 (v := .retAddr 0) rfl rfl ?_
  refine go_ld f199_777 (v := .int (nI i)) rfl rfl ?_
  refine go_psh f199_778 (v := .int 1) (by decide) ?_
  refine go_bin f199_779 rfl ?_
  refine go_sld f199_780 (pk_in (i + 1) L (by omega) (nI_add i 1)) ?_
  refine go_ld f199_781 (v := .retAddr 0) rfl rfl ?_
  refine go_ld f199_782 (v := .int (nI i)) rfl rfl ?_
  refine go_psh f199_783 (v := .int 2) (by decide) ?_
  refine go_bin f199_784 rfl ?_
  refine go_sld f199_785 (pk_in (i + 2) L (by omega) (nI_add i 2)) ?_
  refine go_ld f199_786 (v := .retAddr 0) rfl rfl ?_
  refine go_ld f199_787 (v := .int (nI i)) rfl rfl ?_
  refine go_psh f199_788 (v := .int 3) (by decide) ?_
  refine go_bin f199_789 rfl ?_
  refine go_sld f199_790 (pk_in (i + 3) L (by omega) (nI_add i 3)) ?_
  refine go_cV (R := gm_w (qi (eqR (b + 8) v1))) (vs := [.int (xs (Int32.toNatClampNeg (nI i + 1))), .int (xs (Int32.toNatClampNeg (nI i + 2))), .int (xs (Int32.toNatClampNeg (nI i + 3)))]) (r := 47) (rest := [.int v1]) f199_791 rfl rfl pq122 pq199 rfl (Nat.le_of_ble_eq_true rfl) (Nat.le_of_ble_eq_true rfl) hnc hns (hQ L xs) (fun v h2 hQ => ?_)
  obtain ⟨s3, i3, l3, r3⟩ := h2
  obtain ⟨e1, e2, v2, rfl, hE, hR3⟩ := hQ
  cases e1; cases e2
  exact go_icmp f199_794 (fun _ => ih i3 l3 hR3) (fun c => absurd hE c)
theorem lc26 {L : Nat} {xs : Nat → Int32} {i b nc ns : Nat} {mi : Mi} {ml : Ml} (hL : L ≤ 3072) (hi : i + 6 ≤ L) (hb : b + 8 < 2 ^ 31) (hnc : nc ≤ 600000) (hns : ns ≤ 7302250) (hR : Rel b mi ml) (ih : ∀ m l, Rel (b + 8) m l → Go L xs 199 1051 (lsL i) [] (SH, m, l, MR) nc ns (fun v _ => v = .int 1)) : Go L xs 199 799 (lsL i) [] (SH, mi, ml, MR) nc ns (fun v _ => v = .int 1) := by
  refine go_ld f199_799 (v := .ref 0) rfl rfl ?_
  refine go_ld f199_800 (v := .retAddr 0) rfl rfl ?_
  refine go_ld f199_801 (v := .int (nI i)) rfl rfl ?_
  refine go_psh f199_802 (v := .int 1) (by decide) ?_
  refine go_bin f199_803 rfl ?_
  refine go_sld f199_804 (pk_in (i + 1) L (by omega) (nI_add i 1)) ?_
  refine go_cV (R := gm_w (qi fun v m l => Sg 123 0 [some (.ref 47), some (.int (xs (Int32.toNatClampNeg (nI i + 1))))] [] m l (qi (eqR (b + 8) v)))) (vs := [.int (xs (Int32.toNatClampNeg (nI i + 1)))]) (r := 0) (rest := []) f199_805 rfl rfl pq97 pq199 rfl (Nat.le_of_ble_eq_true rfl) (Nat.le_of_ble_eq_true rfl) hnc hns ((p97 (hR.mono (Nat.le_add_right b 8))) L xs) (fun v h2 hQ => ?_)
  obtain ⟨s2, i2, l2, r2⟩ := h2
  obtain ⟨e1, e2, v1, rfl, hQ⟩ := hQ
  cases e1; cases e2
  refine go_ld f199_808 (v := .ref 47) rfl rfl ?_
  refine go_ld f199_809 (v := .retAddr 0) rfl rfl ?_
  refine go_ld f199_810 (v := .int (nI i)) rfl rfl ?_
  refine go_psh f199_811 (v := .int 1) (by decide) ?_
  refine go_bin f199_812 rfl ?_
  refine go_sld f199_813 (pk_in (i + 1) L (by omega) (nI_add i 1)) ?_
  refine go_cV (R := gm_w (qi (eqR (b + 8) v1))) (vs := [.int (xs (Int32.toNatClampNeg (nI i + 1)))]) (r := 47) (rest := [.int v1]) f199_814 rfl rfl pq123 pq199 rfl (Nat.le_of_ble_eq_true rfl) (Nat.le_of_ble_eq_true rfl) hnc hns (hQ L xs) (fun v h2 hQ => ?_)
  obtain ⟨s3, i3, l3, r3⟩ := h2
  obtain ⟨e1, e2, v2, rfl, hE, hR3⟩ := hQ
  cases e1; cases e2
  exact go_icmp f199_817 (fun _ => ih i3 l3 hR3) (fun c => absurd hE c)
theorem lc27 {L : Nat} {xs : Nat → Int32} {i b nc ns : Nat} {mi : Mi} {ml : Ml} (hL : L ≤ 3072) (hi : i + 6 ≤ L) (hb : b + 8 < 2 ^ 31) (hnc : nc ≤ 600000) (hns : ns ≤ 7302250) (hR : Rel b mi ml) (ih : ∀ m l, Rel (b + 8) m l → Go L xs 199 1051 (lsL i) [] (SH, m, l, MR) nc ns (fun v _ => v = .int 1)) : Go L xs 199 822 (lsL i) [] (SH, mi, ml, MR) nc ns (fun v _ => v = .int 1) := by
  refine go_ld f199_822 (v := .ref 0) rfl rfl ?_
  refine go_ld f199_823 (v := .retAddr 0) rfl rfl ?_
  refine go_ld f199_824 (v := .int (nI i)) rfl rfl ?_
  refine go_psh f199_825 (v := .int 1) (by decide) ?_
  refine go_bin f199_826 rfl ?_
  refine go_sld f199_827 (pk_in (i + 1) L (by omega) (nI_add i 1)) ?_
  refine go_ld f199_828 (v := .retAddr 0) rfl rfl ?_
  refine go_ld f199_829 (v := .int (nI i)) rfl rfl ?_
  refine go_psh f199_830 (v := .int 2) (by decide) ?_
  refine go_bin f199_831 rfl ?_
  refine go_sld f199_832 (pk_in (i + 2) L (by omega) (nI_add i 2)) ?_
  refine go_ld f199_833 (v := .retAddr 0) rfl rfl ?_
  refine go_ld f199_834 (v := .int (nI i)) rfl rfl ?_
  refine go_psh f199_835 (v := .int 3) (by decide) ?_
  refine go_bin f199_836 rfl ?_
  refine go_sld f199_837 (pk_in (i + 3) L (by omega) (nI_add i 3)) ?_
  refine go_ld f199_838 (v := .retAddr 0) rfl rfl ?_
  refine go_ld f199_839 (v := .int (nI i)) rfl rfl ?_
  refine go_psh f199_840 (v := .int 4) (by decide) ?_
  refine go_bin f199_841 rfl ?_
  refine go_sld f199_842 (pk_in (i + 4) L (by omega) (nI_add i 4)) ?_
  refine go_cV (R := gm_w (qi fun v m l => Sg 126 0 [some (.ref 47), some (.int (xs (Int32.toNatClampNeg (nI i + 1)))), some (.int (xs (Int32.toNatClampNeg (nI i + 2)))), some (.int (xs (Int32.toNatClampNeg (nI i + 3)))), some (.int (xs (Int32.toNatClampNeg (nI i + 4)))), none] [] m l (qi (eqR (b + 8) v)))) (vs := [.int (xs (Int32.toNatClampNeg (nI i + 1))), .int (xs (Int32.toNatClampNeg (nI i + 2))), .int (xs (Int32.toNatClampNeg (nI i + 3))), .int (xs (Int32.toNatClampNeg (nI i + 4)))]) (r := 0) (rest := []) f199_843 rfl rfl pq98 pq199 rfl (Nat.le_of_ble_eq_true rfl) (Nat.le_of_ble_eq_true rfl) hnc hns ((p98 (hR.mono (Nat.le_add_right b 8))) L xs) (fun v h2 hQ => ?_)
  obtain ⟨s2, i2, l2, r2⟩ := h2
  obtain ⟨e1, e2, v1, rfl, hQ⟩ := hQ
  cases e1; cases e2
  refine go_ld f199_846 (v := .ref 47) rfl rfl ?_
  refine go_ld f199_847 (v := .retAddr 0) rfl rfl ?_
  refine go_ld f199_848 (v := .int (nI i)) rfl rfl ?_
  refine go_psh f199_849 (v := .int 1) (by decide) ?_
  refine go_bin f199_850 rfl ?_
  refine go_sld f199_851 (pk_in (i + 1) L (by omega) (nI_add i 1)) ?_
  refine go_ld f199_852 (v := .retAddr 0) rfl rfl ?_
  refine go_ld f199_853 (v := .int (nI i)) rfl rfl ?_
  refine go_psh f199_854 (v := .int 2) (by decide) ?_
  refine go_bin f199_855 rfl ?_
  refine go_sld f199_856 (pk_in (i + 2) L (by omega) (nI_add i 2)) ?_
  refine go_ld f199_857 (v := .retAddr 0) rfl rfl ?_
  refine go_ld f199_858 (v := .int (nI i)) rfl rfl ?_
  refine go_psh f199_859 (v := .int 3) (by decide) ?_
  refine go_bin f199_860 rfl ?_
  refine go_sld f199_861 (pk_in (i + 3) L (by omega) (nI_add i 3)) ?_
  refine go_ld f199_862 (v := .retAddr 0) rfl rfl ?_
  refine go_ld f199_863 (v := .int (nI i)) rfl rfl ?_
  refine go_psh f199_864 (v := .int 4) (by decide) ?_
  refine go_bin f199_865 rfl ?_
  refine go_sld f199_866 (pk_in (i + 4) L (by omega) (nI_add i 4)) ?_
  refine go_cV (R := gm_w (qi (eqR (b + 8) v1))) (vs := [.int (xs (Int32.toNatClampNeg (nI i + 1))), .int (xs (Int32.toNatClampNeg (nI i + 2))), .int (xs (Int32.toNatClampNeg (nI i + 3))), .int (xs (Int32.toNatClampNeg (nI i + 4)))]) (r := 47) (rest := [.int v1]) f199_867 rfl rfl pq126 pq199 rfl (Nat.le_of_ble_eq_true rfl) (Nat.le_of_ble_eq_true rfl) hnc hns (hQ L xs) (fun v h2 hQ => ?_)
  obtain ⟨s3, i3, l3, r3⟩ := h2
  obtain ⟨e1, e2, v2, rfl, hE, hR3⟩ := hQ
  cases e1; cases e2
  exact go_icmp f199_870 (fun _ => ih i3 l3 hR3) (fun c => absurd hE c)
theorem lc28 {L : Nat} {xs : Nat → Int32} {i b nc ns : Nat} {mi : Mi} {ml : Ml} (hL : L ≤ 3072) (hi : i + 6 ≤ L) (hb : b + 8 < 2 ^ 31) (hnc : nc ≤ 600000) (hns : ns ≤ 7302250) (hR : Rel b mi ml) (ih : ∀ m l, Rel (b + 8) m l → Go L xs 199 1051 (lsL i) [] (SH, m, l, MR) nc ns (fun v _ => v = .int 1)) : Go L xs 199 875 (lsL i) [] (SH, mi, ml, MR) nc ns (fun v _ => v = .int 1) := by
  refine go_ld f199_875 (v := .ref 0) rfl rfl ?_
  refine go_ld f199_876 (v := .retAddr 0) rfl rfl ?_
  refine go_ld f199_877 (v := .int (nI i)) rfl rfl ?_
  refine go_psh f199_878 (v := .int 1) (by decide) ?_
  refine go_bin f199_879 rfl ?_
  refine go_sld f199_880 (pk_in (i + 1) L (by omega) (nI_add i 1)) ?_
  refine go_ld f199_881 (v := .retAddr 0) rfl rfl ?_
  refine go_ld f199_882 (v := .int (nI i)) rfl rfl ?_
  refine go_psh f199_883 (v := .int 2) (by decide) ?_
  refine go_bin f199_884 rfl ?_
  refine go_sld f199_885 (pk_in (i + 2) L (by omega) (nI_add i 2)) ?_
  refine go_ld f199_886 (v := .retAddr 0) rfl rfl ?_
  refine go_ld f199_887 (v := .int (nI i)) rfl rfl ?_
  refine go_psh f199_888 (v := .int 3) (by decide) ?_
  refine go_bin f199_889 rfl ?_
  refine go_sld f199_890 (pk_in (i + 3) L (by omega) (nI_add i 3)) ?_
  refine go_cV (R := gm_w (qi fun v m l => Sg 127 0 [some (.ref 47), some (.int (xs (Int32.toNatClampNeg (nI i + 1)))), some (.int (xs (Int32.toNatClampNeg (nI i + 2)))), some (.int (xs (Int32.toNatClampNeg (nI i + 3))))] [] m l (qi (eqR (b + 8) v)))) (vs := [.int (xs (Int32.toNatClampNeg (nI i + 1))), .int (xs (Int32.toNatClampNeg (nI i + 2))), .int (xs (Int32.toNatClampNeg (nI i + 3)))]) (r := 0) (rest := []) f199_891 rfl rfl pq99 pq199 rfl (Nat.le_of_ble_eq_true rfl) (Nat.le_of_ble_eq_true rfl) hnc hns ((p99 (hR.mono (Nat.le_add_right b 8))) L xs) (fun v h2 hQ => ?_)
  obtain ⟨s2, i2, l2, r2⟩ := h2
  obtain ⟨e1, e2, v1, rfl, hQ⟩ := hQ
  cases e1; cases e2
  refine go_ld f199_894 (v := .ref 47) rfl rfl ?_
  refine go_ld f199_895 (v := .retAddr 0) rfl rfl ?_
  refine go_ld f199_896 (v := .int (nI i)) rfl rfl ?_
  refine go_psh f199_897 (v := .int 1) (by decide) ?_
  refine go_bin f199_898 rfl ?_
  refine go_sld f199_899 (pk_in (i + 1) L (by omega) (nI_add i 1)) ?_
  refine go_ld f199_900 (v := .retAddr 0) rfl rfl ?_
  refine go_ld f199_901 (v := .int (nI i)) rfl rfl ?_
  refine go_psh f199_902 (v := .int 2) (by decide) ?_
  refine go_bin f199_903 rfl ?_
  refine go_sld f199_904 (pk_in (i + 2) L (by omega) (nI_add i 2)) ?_
  refine go_ld f199_905 (v := .retAddr 0) rfl rfl ?_
  refine go_ld f199_906 (v := .int (nI i)) rfl rfl ?_
  refine go_psh f199_907 (v := .int 3) (by decide) ?_
  refine go_bin f199_908 rfl ?_
  refine go_sld f199_909 (pk_in (i + 3) L (by omega) (nI_add i 3)) ?_
  refine go_cV (R := gm_w (qi (eqR (b + 8) v1))) (vs := [.int (xs (Int32.toNatClampNeg (nI i + 1))), .int (xs (Int32.toNatClampNeg (nI i + 2))), .int (xs (Int32.toNatClampNeg (nI i + 3)))]) (r := 47) (rest := [.int v1]) f199_910 rfl rfl pq127 pq199 rfl (Nat.le_of_ble_eq_true rfl) (Nat.le_of_ble_eq_true rfl) hnc hns (hQ L xs) (fun v h2 hQ => ?_)
  obtain ⟨s3, i3, l3, r3⟩ := h2
  obtain ⟨e1, e2, v2, rfl, hE, hR3⟩ := hQ
  cases e1; cases e2
  exact go_icmp f199_913 (fun _ => ih i3 l3 hR3) (fun c => absurd hE c)
theorem lc29 {L : Nat} {xs : Nat → Int32} {i b nc ns : Nat} {mi : Mi} {ml : Ml} (hL : L ≤ 3072) (hi : i + 6 ≤ L) (hb : b + 8 < 2 ^ 31) (hnc : nc ≤ 600000) (hns : ns ≤ 7302250) (hR : Rel b mi ml) (ih : ∀ m l, Rel (b + 8) m l → Go L xs 199 1051 (lsL i) [] (SH, m, l, MR) nc ns (fun v _ => v = .int 1)) : Go L xs 199 918 (lsL i) [] (SH, mi, ml, MR) nc ns (fun v _ => v = .int 1) := by
  refine go_ld f199_918 (v := .ref 0) rfl rfl ?_
  refine go_ld f199_919 (v := .retAddr 0) rfl rfl ?_
  refine go_ld f199_920 (v := .int (nI i)) rfl rfl ?_
  refine go_psh f199_921 (v := .int 1) (by decide) ?_
  refine go_bin f199_922 rfl ?_
  refine go_sld f199_923 (pk_in (i + 1) L (by omega) (nI_add i 1)) ?_
  refine go_ld f199_924 (v := .retAddr 0) rfl rfl ?_
  refine go_ld f199_925 (v := .int (nI i)) rfl rfl ?_
  refine go_psh f199_926 (v := .int 2) (by decide) ?_
  refine go_bin f199_927 rfl ?_
  refine go_sld f199_928 (pk_in (i + 2) L (by omega) (nI_add i 2)) ?_
  refine go_ld f199_929 (v := .retAddr 0) rfl rfl ?_
  refine go_ld f199_930 (v := .int (nI i)) rfl rfl ?_
  refine go_psh f199_931 (v := .int 3) (by decide) ?_
  refine go_bin f199_932 rfl ?_
  refine go_sld f199_933 (pk_in (i + 3) L (by omega) (nI_add i 3)) ?_
  refine go_ld f199_934 (v := .retAddr 0) rfl rfl ?_
  refine go_ld f199_935 (v := .int (nI i)) rfl rfl ?_
  refine go_psh f199_936 (v := .int 4) (by decide) ?_
  refine go_bin f199_937 rfl ?_
  refine go_sld f199_938 (pk_in (i + 4) L (by omega) (nI_add i 4)) ?_
  refine go_ld f199_939 (v := .retAddr 0) rfl rfl ?_
  refine go_ld f199_940 (v := .int (nI i)) rfl rfl ?_
  refine go_psh f199_941 (v := .int 5) (by decide) ?_
  refine go_bin f199_942 rfl ?_
  refine go_sld f199_943 (pk_in (i + 5) L (by omega) (nI_add i 5)) ?_
  refine go_cV (R := gm_w (qi fun v m l => Sg 128 0 [some (.ref 47), some (.int (xs (Int32.toNatClampNeg (nI i + 1)))), some (.int (xs (Int32.toNatClampNeg (nI i + 2)))), some (.int (xs (Int32.toNatClampNeg (nI i + 3)))), some (.int (xs (Int32.toNatClampNeg (nI i + 4)))), some (.int (xs (Int32.toNatClampNeg (nI i + 5)))), none] [] m l (qi (eqR (b + 8) v)))) (vs := [.int (xs (Int32.toNatClampNeg (nI i + 1))), .int (xs (Int32.toNatClampNeg (nI i + 2))), .int (xs (Int32.toNatClampNeg (nI i + 3))), .int (xs (Int32.toNatClampNeg (nI i + 4))), .int (xs (Int32.toNatClampNeg (nI i + 5)))]) (r := 0) (rest := []) f199_944 rfl rfl pq100 pq199 rfl (Nat.le_of_ble_eq_true rfl) (Nat.le_of_ble_eq_true rfl) hnc hns ((p100 (hR.mono (Nat.le_add_right b 8))) L xs) (fun v h2 hQ => ?_)
  obtain ⟨s2, i2, l2, r2⟩ := h2
  obtain ⟨e1, e2, v1, rfl, hQ⟩ := hQ
  cases e1; cases e2
  refine go_ld f199_947 (v := .ref 47) rfl rfl ?_
  refine go_ld f199_948 (v := .retAddr 0) rfl rfl ?_
  refine go_ld f199_949 (v := .int (nI i)) rfl rfl ?_
  refine go_psh f199_950 (v := .int 1) (by decide) ?_
  refine go_bin f199_951 rfl ?_
  refine go_sld f199_952 (pk_in (i + 1) L (by omega) (nI_add i 1)) ?_
  refine go_ld f199_953 (v := .retAddr 0) rfl rfl ?_
  refine go_ld f199_954 (v := .int (nI i)) rfl rfl ?_
  refine go_psh f199_955 (v := .int 2) (by decide) ?_
  refine go_bin f199_956 rfl ?_
  refine go_sld f199_957 (pk_in (i + 2) L (by omega) (nI_add i 2)) ?_
  refine go_ld f199_958 (v := .retAddr 0) rfl rfl ?_
  refine go_ld f199_959 (v := .int (nI i)) rfl rfl ?_
  refine go_psh f199_960 (v := .int 3) (by decide) ?_
  refine go_bin f199_961 rfl ?_
  refine go_sld f199_962 (pk_in (i + 3) L (by omega) (nI_add i 3)) ?_
  refine go_ld f199_963 (v := .retAddr 0) rfl rfl ?_
  refine go_ld f199_964 (v := .int (nI i)) rfl rfl ?_
  refine go_psh f199_965 (v := .int 4) (by decide) ?_
  refine go_bin f199_966 rfl ?_
  refine go_sld f199_967 (pk_in (i + 4) L (by omega) (nI_add i 4)) ?_
  refine go_ld f199_968 (v := .retAddr 0) rfl rfl ?_
  refine go_ld f199_969 (v := .int (nI i)) rfl rfl ?_
  refine go_psh f199_970 (v := .int 5) (by decide) ?_
  refine go_bin f199_971 rfl ?_
  refine go_sld f199_972 (pk_in (i + 5) L (by omega) (nI_add i 5)) ?_
  refine go_cV (R := gm_w (qi (eqR (b + 8) v1))) (vs := [.int (xs (Int32.toNatClampNeg (nI i + 1))), .int (xs (Int32.toNatClampNeg (nI i + 2))), .int (xs (Int32.toNatClampNeg (nI i + 3))), .int (xs (Int32.toNatClampNeg (nI i + 4))), .int (xs (Int32.toNatClampNeg (nI i + 5)))]) (r := 47) (rest := [.int v1]) f199_973 rfl rfl pq128 pq199 rfl (Nat.le_of_ble_eq_true rfl) (Nat.le_of_ble_eq_true rfl) hnc hns (hQ L xs) (fun v h2 hQ => ?_)
  obtain ⟨s3, i3, l3, r3⟩ := h2
  obtain ⟨e1, e2, v2, rfl, hE, hR3⟩ := hQ
  cases e1; cases e2
  exact go_icmp f199_976 (fun _ => ih i3 l3 hR3) (fun c => absurd hE c)
theorem lc30 {L : Nat} {xs : Nat → Int32} {i b nc ns : Nat} {mi : Mi} {ml : Ml} (hL : L ≤ 3072) (hi : i + 6 ≤ L) (hb : b + 8 < 2 ^ 31) (hnc : nc ≤ 600000) (hns : ns ≤ 7302250) (hR : Rel b mi ml) (ih : ∀ m l, Rel (b + 8) m l → Go L xs 199 1051 (lsL i) [] (SH, m, l, MR) nc ns (fun v _ => v = .int 1)) : Go L xs 199 981 (lsL i) [] (SH, mi, ml, MR) nc ns (fun v _ => v = .int 1) := by
  refine go_ld f199_981 (v := .ref 0) rfl rfl ?_
  refine go_ld f199_982 (v := .retAddr 0) rfl rfl ?_
  refine go_ld f199_983 (v := .int (nI i)) rfl rfl ?_
  refine go_psh f199_984 (v := .int 1) (by decide) ?_
  refine go_bin f199_985 rfl ?_
  refine go_sld f199_986 (pk_in (i + 1) L (by omega) (nI_add i 1)) ?_
  refine go_ld f199_987 (v := .retAddr 0) rfl rfl ?_
  refine go_ld f199_988 (v := .int (nI i)) rfl rfl ?_
  refine go_psh f199_989 (v := .int 2) (by decide) ?_
  refine go_bin f199_990 rfl ?_
  refine go_sld f199_991 (pk_in (i + 2) L (by omega) (nI_add i 2)) ?_
  refine go_cV (R := gm_w (qi fun v m l => Sg 189 0 [some (.ref 47), some (.int (xs (Int32.toNatClampNeg (nI i + 1)))), some (.int (xs (Int32.toNatClampNeg (nI i + 2)))), none, none] [] m l (qi (eqR (b + 8) v)))) (vs := [.int (xs (Int32.toNatClampNeg (nI i + 1))), .int (xs (Int32.toNatClampNeg (nI i + 2)))]) (r := 0) (rest := []) f199_992 rfl rfl pq101 pq199 rfl (Nat.le_of_ble_eq_true rfl) (Nat.le_of_ble_eq_true rfl) hnc hns ((p101 (hR.mono (Nat.le_add_right b 8))) L xs) (fun v h2 hQ => ?_)
  obtain ⟨s2, i2, l2, r2⟩ := h2
  obtain ⟨e1, e2, v1, rfl, hQ⟩ := hQ
  cases e1; cases e2
  refine go_ld f199_995 (v := .ref 47) rfl rfl ?_
  refine go_ld f199_996 (v := .retAddr 0) rfl rfl ?_
  refine go_ld f199_997 (v := .int (nI i)) rfl rfl ?_
  refine go_psh f199_998 (v := .int 1) (by decide) ?_
  refine go_bin f199_999 rfl ?_
  refine go_sld f199_1000 (pk_in (i + 1) L (by omega) (nI_add i 1)) ?_
  refine go_ld f199_1001 (v := .retAddr 0) rfl rfl ?_
  refine go_ld f199_1002 (v := .int (nI i)) rfl rfl ?_
  refine go_psh f199_1003 (v := .int 2) (by decide) ?_
  refine go_bin f199_1004 rfl ?_
  refine go_sld f199_1005 (pk_in (i + 2) L (by omega) (nI_add i 2)) ?_
  refine go_cV (R := gm_w (qi (eqR (b + 8) v1))) (vs := [.int (xs (Int32.toNatClampNeg (nI i + 1))), .int (xs (Int32.toNatClampNeg (nI i + 2)))]) (r := 47) (rest := [.int v1]) f199_1006 rfl rfl pq189 pq199 rfl (Nat.le_of_ble_eq_true rfl) (Nat.le_of_ble_eq_true rfl) hnc hns (hQ L xs) (fun v h2 hQ => ?_)
  obtain ⟨s3, i3, l3, r3⟩ := h2
  obtain ⟨e1, e2, v2, rfl, hE, hR3⟩ := hQ
  cases e1; cases e2
  exact go_icmp f199_1009 (fun _ => ih i3 l3 hR3) (fun c => absurd hE c)
theorem lc31 {L : Nat} {xs : Nat → Int32} {i b nc ns : Nat} {mi : Mi} {ml : Ml} (hL : L ≤ 3072) (hi : i + 6 ≤ L) (hb : b + 8 < 2 ^ 31) (hnc : nc ≤ 600000) (hns : ns ≤ 7302250) (hR : Rel b mi ml) (ih : ∀ m l, Rel (b + 8) m l → Go L xs 199 1051 (lsL i) [] (SH, m, l, MR) nc ns (fun v _ => v = .int 1)) : Go L xs 199 1014 (lsL i) [] (SH, mi, ml, MR) nc ns (fun v _ => v = .int 1) := by
  refine go_ld f199_1014 (v := .ref 0) rfl rfl ?_
  refine go_ld f199_1015 (v := .retAddr 0) rfl rfl ?_
  refine go_ld f199_1016 (v := .int (nI i)) rfl rfl ?_
  refine go_psh f199_1017 (v := .int 1) (by decide) ?_
  refine go_bin f199_1018 rfl ?_
  refine go_sld f199_1019 (pk_in (i + 1) L (by omega) (nI_add i 1)) ?_
  refine go_cV (R := gm_w (qi fun v m l => Sg 192 0 [some (.ref 47), some (.int (xs (Int32.toNatClampNeg (nI i + 1))))] [] m l (qi (eqR (b + 8) v)))) (vs := [.int (xs (Int32.toNatClampNeg (nI i + 1)))]) (r := 0) (rest := []) f199_1020 rfl rfl pq102 pq199 rfl (Nat.le_of_ble_eq_true rfl) (Nat.le_of_ble_eq_true rfl) hnc hns ((p102 (hR.mono (Nat.le_add_right b 8))) L xs) (fun v h2 hQ => ?_)
  obtain ⟨s2, i2, l2, r2⟩ := h2
  obtain ⟨e1, e2, v1, rfl, hQ⟩ := hQ
  cases e1; cases e2
  refine go_ld f199_1023 (v := .ref 47) rfl rfl ?_
  refine go_ld f199_1024 (v := .retAddr 0) rfl rfl ?_
  refine go_ld f199_1025 (v := .int (nI i)) rfl rfl ?_
  refine go_psh f199_1026 (v := .int 1) (by decide) ?_
  refine go_bin f199_1027 rfl ?_
  refine go_sld f199_1028 (pk_in (i + 1) L (by omega) (nI_add i 1)) ?_
  refine go_cV (R := gm_w (qi (eqR (b + 8) v1))) (vs := [.int (xs (Int32.toNatClampNeg (nI i + 1)))]) (r := 47) (rest := [.int v1]) f199_1029 rfl rfl pq192 pq199 rfl (Nat.le_of_ble_eq_true rfl) (Nat.le_of_ble_eq_true rfl) hnc hns (hQ L xs) (fun v h2 hQ => ?_)
  obtain ⟨s3, i3, l3, r3⟩ := h2
  obtain ⟨e1, e2, v2, rfl, hE, hR3⟩ := hQ
  cases e1; cases e2
  exact go_icmp f199_1032 (fun _ => ih i3 l3 hR3) (fun c => absurd hE c)
theorem lc32 {L : Nat} {xs : Nat → Int32} {i b nc ns : Nat} {mi : Mi} {ml : Ml} (hL : L ≤ 3072) (hi : i + 6 ≤ L) (hb : b + 8 < 2 ^ 31) (hnc : nc ≤ 600000) (hns : ns ≤ 7302250) (hR : Rel b mi ml) (ih : ∀ m l, Rel (b + 8) m l → Go L xs 199 1051 (lsL i) [] (SH, m, l, MR) nc ns (fun v _ => v = .int 1)) : Go L xs 199 1037 (lsL i) [] (SH, mi, ml, MR) nc ns (fun v _ => v = .int 1) := by
  refine go_ld f199_1037 (v := .ref 0) rfl rfl ?_
  refine go_cV (R := gm_w (ql fun v m l => Sg 193 0 [some (.ref 47), none, none, none, none, none, none, none, none, none, none] [] m l (ql (eqR (b + 8) v)))) (vs := []) (r := 0) (rest := []) f199_1038 rfl rfl pq103 pq199 rfl (Nat.le_of_ble_eq_true rfl) (Nat.le_of_ble_eq_true rfl) hnc hns ((p103 (hR.mono (Nat.le_add_right b 8))) L xs) (fun v h2 hQ => ?_)
  obtain ⟨s2, i2, l2, r2⟩ := h2
  obtain ⟨e1, e2, v1, rfl, hQ⟩ := hQ
  cases e1; cases e2
  refine go_ld f199_1041 (v := .ref 47) rfl rfl ?_
  refine go_cV (R := gm_w (ql (eqR (b + 8) v1))) (vs := []) (r := 47) (rest := [.long v1]) f199_1042 rfl rfl pq193 pq199 rfl (Nat.le_of_ble_eq_true rfl) (Nat.le_of_ble_eq_true rfl) hnc hns (hQ L xs) (fun v h2 hQ => ?_)
  obtain ⟨s3, i3, l3, r3⟩ := h2
  obtain ⟨e1, e2, v2, rfl, hE, hR3⟩ := hQ
  cases e1; cases e2
  refine go_lcmp f199_1045 ?_
  exact go_if f199_1046 (fun _ => ih i3 l3 hR3) (fun c => absurd ((lgE v1 v2).mpr hE) c)
