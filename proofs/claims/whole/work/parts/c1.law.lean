/-! THE LAW's CASES. -/
abbrev mLw : z_M := (x, code, 8, (some .boolean), { frames := 13, cells := 177, slots := 7302250, locals := 482 })
abbrev z_LL (i : Int) : List (Nat × z_V) := [(3, z_i i), (2, z_r 161), (1, z_r 0), (0, z_r 1000)]
def z_J (X : Int → Int) (n : Int) (w : z_Mm) : Prop := ∃ (A : z_A) (H : List z_A) (T : z_T) (er : Int) (s : Nat → Option z_A), z_JC w A H T er s ∧ z_JM w A H T er s ∧ w 1000 = X ∧ w 1001 0 = n
theorem z_rngs {M : z_M} {nz : Nat × Nat} {pc : Nat} {L : List (Nat × z_V)} {st : List z_V} {σ : z_S} {Q : Option z_V → z_S → Prop} (k : (∀ (a : Nat) (i : Int), z_R (σ.2 a i)) → z_Sem M nz pc L st σ Q) : z_Sem M nz pc L st σ Q := fun G p l e s m args below meth c Z H locs ls hX hZ hP hL hS hl hc => k hP.1.2.2.1 G p l e s m args below meth c Z H locs ls hX hZ hP hL hS hl hc
theorem z_arg {M : z_M} {nz : Nat × Nat} {pc : Nat} {L : List (Nat × z_V)} {st : List z_V} {sh : List z_C} {w : z_Mm} {Q : Option z_V → z_S → Prop} {X : Int → Int} {n i k : Int} (d0 : decode M.2.1 pc = .ok (.aload_n 0, 1)) (d1 : decode M.2.1 (pc + 1) = .ok (.iload_n 3, 1)) (d2 : decode M.2.1 (pc + 2) = .ok (.iconst k, 1)) (d3 : decode M.2.1 (pc + 3) = .ok (.iadd, 1)) (d4 : decode M.2.1 (pc + 4) = .ok (.iaload, 1)) (hL0 : L[3]? = some (0, z_r 1000)) (hL3 : L[0]? = some (3, z_i i)) (hX : w 1000 = X) (hn : w 1001 0 = n) (hk : 1 ≤ k ∧ k ≤ 5) (hi : 0 ≤ i ∧ i + 6 ≤ n ∧ n ≤ 3072)
    (kk : z_Sem M nz (pc + 5) L (z_i (X (i + k)) :: st) (sh, w) Q) : z_Sem M nz pc L st (sh, w) Q := by
  refine z_aload_n 3 d0 rfl hL0 ?_
  refine z_iload_n 0 d1 rfl hL3 ?_
  refine z_iconst d2 ⟨by omega, by omega⟩ ?_
  refine z_iadd d3 ⟨by omega, by omega⟩ ?_
  refine z_sald d4 ⟨by omega, by show i + k < w 1001 0; omega⟩ ?_
  show z_Sem M nz (pc + 5) L (z_i (w 1000 (i + k)) :: st) (sh, w) Q
  rw [hX]
  exact kk
theorem z_JC.tbt {w : z_Mm} {A : z_A} {H : List z_A} {T : z_T} {er : Int} {s : Nat → Option z_A} (h : z_JC w A H T er s) : z_tbt T := ⟨h.2.1.1, fun i i0 i1 => (h.2.1.2.2 i i0 i1).2⟩
theorem z_Jfin {X : Int → Int} {n : Int} {w1 w2 : z_Mm} {A : z_A} {H : List z_A} {T : z_T} {er : Int} {s : Nat → Option z_A} (j1 : z_JC w1 A H T er s) (j2 : z_JM w2 A H T er s) (f : ∀ a : Nat, (a < 161 ∨ 176 < a) → w2 a = w1 a) (hX : w1 1000 = X) (hn : w1 1001 0 = n) : z_J X n w2 := ⟨A, H, T, er, s, j1.fr (fun a ha _ => f a (by omega)), j2, by rw [f 1000 (by omega)]; exact hX, by rw [f 1001 (by omega)]; exact hn⟩
theorem z_CFm {M' : z_M} {vs : List z_V} {sh : List z_C} {w : z_Mm} {K : UInt32 → z_Mm → Prop} {Q' : Option z_V → z_S → Prop} (h : z_CF M' vs sh w K) (k : ∀ x w', K x w' → Q' (some (z_f x)) (sh, w')) : z_Sem M' (sh.length, 0) 0 (z_la 0 vs) [] (sh, w) Q' := by
  refine z_Sem.mono h (fun v σ' hQ => ?_)
  obtain ⟨x, w', rfl, rfl, hk⟩ := hQ
  exact k x w' hk
theorem z_CDm {M' : z_M} {vs : List z_V} {sh : List z_C} {w : z_Mm} {K : UInt64 → z_Mm → Prop} {Q' : Option z_V → z_S → Prop} (h : z_CD M' vs sh w K) (k : ∀ x w', K x w' → Q' (some (z_d x)) (sh, w')) : z_Sem M' (sh.length, 0) 0 (z_la 0 vs) [] (sh, w) Q' := by
  refine z_Sem.mono h (fun v σ' hQ => ?_)
  obtain ⟨x, w', rfl, rfl, hk⟩ := hQ
  exact k x w' hk
section ZLAW
variable {Q : Option z_V → z_S → Prop} {X : Int → Int} {n i : Int} {w : z_Mm} {z : Nat}
theorem z_case0 (hw : z_J X n w) (hi : 0 ≤ i ∧ i + 6 ≤ n ∧ n ≤ 3072) (hR : ∀ j : Int, z_R (X j)) (hz : z ≤ 7302250) (kk : ∀ w', z_J X n w' → z_Sem mLw (0, z) 1905 (z_LL i) [] (z_shs, w') Q) : z_Sem mLw (0, z) 276 (z_LL i) [] (z_shs, w) Q := by
  obtain ⟨A, H, T, er, s, jc, jm, hX, hn⟩ := hw
  refine z_aload_n 2 dL_law_276 rfl rfl ?_
  refine z_arg dL_law_277 dL_law_278 dL_law_279 dL_law_280 dL_law_281 rfl rfl hX hn (by decide) hi ?_
  refine z_arg dL_law_282 dL_law_283 dL_law_284 dL_law_285 dL_law_286 rfl rfl hX hn (by decide) hi ?_
  refine z_arg dL_law_287 dL_law_288 dL_law_289 dL_law_290 dL_law_291 rfl rfl hX hn (by decide) hi ?_
  refine z_arg dL_law_292 dL_law_293 dL_law_294 dL_law_295 dL_law_296 rfl rfl hX hn (by decide) hi ?_
  refine z_arg dL_law_297 dL_law_298 dL_law_299 dL_law_300 dL_law_301 rfl rfl hX hn (by decide) hi ?_
  refine z_callV (As := [z_i (X (i + 1)), z_i (X (i + 2)), z_i (X (i + 3)), z_i (X (i + 4)), z_i (X (i + 5))]) (rest := []) zmX8_append znX8_append zsX8_append (show vwCl[8]? = some (RX8, TX8, 9) from rfl) zlRL_13 ⟨Nat.le_of_ble_eq_true rfl, Nat.le_of_ble_eq_true rfl⟩ dL_law_302 z_shs_TG.1 rfl rfl (z_ai (z_ai (z_ai (z_ai (z_ai z_a0))))) (Nat.le_of_ble_eq_true rfl) (Nat.le_of_ble_eq_true rfl) ⟨by show z_shs.length + 0 ≤ 0 + 177; rw [z_shs_len]; decide, hz⟩ ?_
  refine z_CIm (K := fun x w1 => z_Sem mLw (0, z) 305 (z_LL i) [z_i x] (z_shs, w1) Q) (uc_append (hR _) (hR _) (hR _) (hR _) (hR _) _ _ _ z_shs_TG jc (fun w1 j1 f1 => ?_)) (fun x w1 h => h)
  have hX1 : w1 1000 = X := (f1 1000 (by decide)).trans hX
  have hn1 : w1 1001 0 = n := by rw [f1 1001 (by decide)]; exact hn
  have jm1 := jm.fr f1
  show z_Sem mLw (0, z) 305 (z_LL i) [z_i (z_dap T (X (i + 1)) (X (i + 2)) (X (i + 3)) (X (i + 4)) (X (i + 5))).1] (z_shs, w1) Q
  refine z_aload_n 1 dL_law_305 rfl rfl ?_
  refine z_arg dL_law_306 dL_law_307 dL_law_308 dL_law_309 dL_law_310 rfl rfl hX1 hn1 (by decide) hi ?_
  refine z_arg dL_law_311 dL_law_312 dL_law_313 dL_law_314 dL_law_315 rfl rfl hX1 hn1 (by decide) hi ?_
  refine z_arg dL_law_316 dL_law_317 dL_law_318 dL_law_319 dL_law_320 rfl rfl hX1 hn1 (by decide) hi ?_
  refine z_arg dL_law_321 dL_law_322 dL_law_323 dL_law_324 dL_law_325 rfl rfl hX1 hn1 (by decide) hi ?_
  refine z_arg dL_law_326 dL_law_327 dL_law_328 dL_law_329 dL_law_330 rfl rfl hX1 hn1 (by decide) hi ?_
  refine z_callV (As := [z_i (X (i + 1)), z_i (X (i + 2)), z_i (X (i + 3)), z_i (X (i + 4)), z_i (X (i + 5))]) (rest := [z_i (z_dap T (X (i + 1)) (X (i + 2)) (X (i + 3)) (X (i + 4)) (X (i + 5))).1]) zmX9_append znX9_append zsX9_append (show vwCl[9]? = some (RX9, TX9, 29) from rfl) zlRL_17 ⟨Nat.le_of_ble_eq_true rfl, Nat.le_of_ble_eq_true rfl⟩ dL_law_331 z_shs_is.1 rfl rfl (z_ai (z_ai (z_ai (z_ai (z_ai z_a0))))) (Nat.le_of_ble_eq_true rfl) (Nat.le_of_ble_eq_true rfl) ⟨by show z_shs.length + 0 ≤ 0 + 177; rw [z_shs_len]; decide, hz⟩ ?_
  refine z_CIm (K := fun x w2 => z_Sem mLw (0, z) 334 (z_LL i) [z_i x, z_i (z_dap T (X (i + 1)) (X (i + 2)) (X (i + 3)) (X (i + 4)) (X (i + 5))).1] (z_shs, w2) Q) (um_append (hR _) (hR _) (hR _) (hR _) (hR _) _ _ _ z_shs_is jc.1.1 jc.1.2.2.2.1 jc.tbt jm1 (fun w2 j2 f2 => ?_)) (fun x w2 h => h)
  show z_Sem mLw (0, z) 334 (z_LL i) [z_i (z_dap T (X (i + 1)) (X (i + 2)) (X (i + 3)) (X (i + 4)) (X (i + 5))).1, z_i (z_dap T (X (i + 1)) (X (i + 2)) (X (i + 3)) (X (i + 4)) (X (i + 5))).1] (z_shs, w2) Q
  refine z_icmp_eq (tgt := 1905) dL_law_334 (by decide) (fun _ => ?_) (fun c => absurd rfl c)
  exact kk w2 (z_Jfin j1 j2 f2 hX1 hn1)
theorem z_case1 (hw : z_J X n w) (hi : 0 ≤ i ∧ i + 6 ≤ n ∧ n ≤ 3072) (hR : ∀ j : Int, z_R (X j)) (hz : z ≤ 7302250) (kk : ∀ w', z_J X n w' → z_Sem mLw (0, z) 1905 (z_LL i) [] (z_shs, w') Q) : z_Sem mLw (0, z) 339 (z_LL i) [] (z_shs, w) Q := by
  obtain ⟨A, H, T, er, s, jc, jm, hX, hn⟩ := hw
  refine z_aload_n 2 dL_law_339 rfl rfl ?_
  refine z_arg dL_law_340 dL_law_341 dL_law_342 dL_law_343 dL_law_344 rfl rfl hX hn (by decide) hi ?_
  refine z_callV (As := [z_i (X (i + 1))]) (rest := []) zmX8_truncate znX8_truncate zsX8_truncate (show vwCl[8]? = some (RX8, TX8, 9) from rfl) zlRL_18 ⟨Nat.le_of_ble_eq_true rfl, Nat.le_of_ble_eq_true rfl⟩ dL_law_345 z_shs_TG.1 rfl rfl (z_ai z_a0) (Nat.le_of_ble_eq_true rfl) (Nat.le_of_ble_eq_true rfl) ⟨by show z_shs.length + 0 ≤ 0 + 177; rw [z_shs_len]; decide, hz⟩ ?_
  refine z_CIm (K := fun x w1 => z_Sem mLw (0, z) 348 (z_LL i) [z_i x] (z_shs, w1) Q) (uc_truncate _ _ _ z_shs_TG jc (fun w1 j1 f1 => ?_)) (fun x w1 h => h)
  have hX1 : w1 1000 = X := (f1 1000 (by decide)).trans hX
  have hn1 : w1 1001 0 = n := by rw [f1 1001 (by decide)]; exact hn
  have jm1 := jm.fr f1
  show z_Sem mLw (0, z) 348 (z_LL i) [z_i (z_dtr T (X (i + 1))).1] (z_shs, w1) Q
  refine z_aload_n 1 dL_law_348 rfl rfl ?_
  refine z_arg dL_law_349 dL_law_350 dL_law_351 dL_law_352 dL_law_353 rfl rfl hX1 hn1 (by decide) hi ?_
  refine z_callV (As := [z_i (X (i + 1))]) (rest := [z_i (z_dtr T (X (i + 1))).1]) zmX9_truncate znX9_truncate zsX9_truncate (show vwCl[9]? = some (RX9, TX9, 29) from rfl) zlRL_22 ⟨Nat.le_of_ble_eq_true rfl, Nat.le_of_ble_eq_true rfl⟩ dL_law_354 z_shs_is.1 rfl rfl (z_ai z_a0) (Nat.le_of_ble_eq_true rfl) (Nat.le_of_ble_eq_true rfl) ⟨by show z_shs.length + 0 ≤ 0 + 177; rw [z_shs_len]; decide, hz⟩ ?_
  refine z_CIm (K := fun x w2 => z_Sem mLw (0, z) 357 (z_LL i) [z_i x, z_i (z_dtr T (X (i + 1))).1] (z_shs, w2) Q) (um_truncate _ _ _ z_shs_is jc.1.1 jc.1.2.2.2.1 jc.tbt jm1 (fun w2 j2 f2 => ?_)) (fun x w2 h => h)
  show z_Sem mLw (0, z) 357 (z_LL i) [z_i (z_dtr T (X (i + 1))).1, z_i (z_dtr T (X (i + 1))).1] (z_shs, w2) Q
  refine z_icmp_eq (tgt := 1905) dL_law_357 (by decide) (fun _ => ?_) (fun c => absurd rfl c)
  exact kk w2 (z_Jfin j1 j2 f2 hX1 hn1)
theorem z_case2 (hw : z_J X n w) (hi : 0 ≤ i ∧ i + 6 ≤ n ∧ n ≤ 3072) (hR : ∀ j : Int, z_R (X j)) (hz : z ≤ 7302250) (kk : ∀ w', z_J X n w' → z_Sem mLw (0, z) 1905 (z_LL i) [] (z_shs, w') Q) : z_Sem mLw (0, z) 362 (z_LL i) [] (z_shs, w) Q := by
  obtain ⟨A, H, T, er, s, jc, jm, hX, hn⟩ := hw
  refine z_aload_n 2 dL_law_362 rfl rfl ?_
  refine z_callV (As := []) (rest := []) zmX8_load znX8_load zsX8_load (show vwCl[8]? = some (RX8, TX8, 9) from rfl) zlRL_23 ⟨Nat.le_of_ble_eq_true rfl, Nat.le_of_ble_eq_true rfl⟩ dL_law_363 z_shs_TG.1 rfl rfl z_a0 (Nat.le_of_ble_eq_true rfl) (Nat.le_of_ble_eq_true rfl) ⟨by show z_shs.length + 0 ≤ 0 + 177; rw [z_shs_len]; decide, hz⟩ ?_
  refine z_CIm (K := fun x w1 => z_Sem mLw (0, z) 366 (z_LL i) [z_i x] (z_shs, w1) Q) (uc_load _ _ _ z_shs_TG jc (fun w1 j1 f1 => ?_)) (fun x w1 h => h)
  have hX1 : w1 1000 = X := (f1 1000 (by decide)).trans hX
  have hn1 : w1 1001 0 = n := by rw [f1 1001 (by decide)]; exact hn
  have jm1 := jm.fr f1
  show z_Sem mLw (0, z) 366 (z_LL i) [z_i (z_dld A H T s).1] (z_shs, w1) Q
  refine z_aload_n 1 dL_law_366 rfl rfl ?_
  refine z_callV (As := []) (rest := [z_i (z_dld A H T s).1]) zmX9_load znX9_load zsX9_load (show vwCl[9]? = some (RX9, TX9, 29) from rfl) zlRL_27 ⟨Nat.le_of_ble_eq_true rfl, Nat.le_of_ble_eq_true rfl⟩ dL_law_367 z_shs_is.1 rfl rfl z_a0 (Nat.le_of_ble_eq_true rfl) (Nat.le_of_ble_eq_true rfl) ⟨by show z_shs.length + 0 ≤ 0 + 177; rw [z_shs_len]; decide, hz⟩ ?_
  refine z_CIm (K := fun x w2 => z_Sem mLw (0, z) 370 (z_LL i) [z_i x, z_i (z_dld A H T s).1] (z_shs, w2) Q) (um_load _ _ _ z_shs_is jc.1.1 jc.1.2.2.2.1 jc.tbt jm1 (fun w2 j2 f2 => ?_)) (fun x w2 h => h)
  show z_Sem mLw (0, z) 370 (z_LL i) [z_i (z_dld A H T s).1, z_i (z_dld A H T s).1] (z_shs, w2) Q
  refine z_icmp_eq (tgt := 1905) dL_law_370 (by decide) (fun _ => ?_) (fun c => absurd rfl c)
  exact kk w2 (z_Jfin j1 j2 f2 hX1 hn1)
theorem z_case3 (hw : z_J X n w) (hi : 0 ≤ i ∧ i + 6 ≤ n ∧ n ≤ 3072) (hR : ∀ j : Int, z_R (X j)) (hz : z ≤ 7302250) (kk : ∀ w', z_J X n w' → z_Sem mLw (0, z) 1905 (z_LL i) [] (z_shs, w') Q) : z_Sem mLw (0, z) 375 (z_LL i) [] (z_shs, w) Q := by
  obtain ⟨A, H, T, er, s, jc, jm, hX, hn⟩ := hw
  refine z_aload_n 2 dL_law_375 rfl rfl ?_
  refine z_callV (As := []) (rest := []) zmX8_errorPosition znX8_errorPosition zsX8_errorPosition (show vwCl[8]? = some (RX8, TX8, 9) from rfl) zlRL_28 ⟨Nat.le_of_ble_eq_true rfl, Nat.le_of_ble_eq_true rfl⟩ dL_law_376 z_shs_TG.1 rfl rfl z_a0 (Nat.le_of_ble_eq_true rfl) (Nat.le_of_ble_eq_true rfl) ⟨by show z_shs.length + 0 ≤ 0 + 177; rw [z_shs_len]; decide, hz⟩ ?_
  refine z_CIm (K := fun x w1 => z_Sem mLw (0, z) 379 (z_LL i) [z_i x] (z_shs, w1) Q) (uc_errorPosition _ _ _ z_shs_TG jc (fun w1 j1 f1 => ?_)) (fun x w1 h => h)
  have hX1 : w1 1000 = X := (f1 1000 (by decide)).trans hX
  have hn1 : w1 1001 0 = n := by rw [f1 1001 (by decide)]; exact hn
  have jm1 := jm.fr f1
  show z_Sem mLw (0, z) 379 (z_LL i) [z_i er] (z_shs, w1) Q
  refine z_aload_n 1 dL_law_379 rfl rfl ?_
  refine z_callV (As := []) (rest := [z_i er]) zmX9_errorPosition znX9_errorPosition zsX9_errorPosition (show vwCl[9]? = some (RX9, TX9, 29) from rfl) zlRL_31 ⟨Nat.le_of_ble_eq_true rfl, Nat.le_of_ble_eq_true rfl⟩ dL_law_380 z_shs_is.1 rfl rfl z_a0 (Nat.le_of_ble_eq_true rfl) (Nat.le_of_ble_eq_true rfl) ⟨by show z_shs.length + 0 ≤ 0 + 177; rw [z_shs_len]; decide, hz⟩ ?_
  refine z_CIm (K := fun x w2 => z_Sem mLw (0, z) 383 (z_LL i) [z_i x, z_i er] (z_shs, w2) Q) (um_errorPosition _ _ _ z_shs_is jc.1.1 jc.1.2.2.2.1 jc.tbt jm1 (fun w2 j2 f2 => ?_)) (fun x w2 h => h)
  show z_Sem mLw (0, z) 383 (z_LL i) [z_i er, z_i er] (z_shs, w2) Q
  refine z_icmp_eq (tgt := 1905) dL_law_383 (by decide) (fun _ => ?_) (fun c => absurd rfl c)
  exact kk w2 (z_Jfin j1 j2 f2 hX1 hn1)
theorem z_case4 (hw : z_J X n w) (hi : 0 ≤ i ∧ i + 6 ≤ n ∧ n ≤ 3072) (hR : ∀ j : Int, z_R (X j)) (hz : z ≤ 7302250) (kk : ∀ w', z_J X n w' → z_Sem mLw (0, z) 1905 (z_LL i) [] (z_shs, w') Q) : z_Sem mLw (0, z) 388 (z_LL i) [] (z_shs, w) Q := by
  obtain ⟨A, H, T, er, s, jc, jm, hX, hn⟩ := hw
  refine z_aload_n 2 dL_law_388 rfl rfl ?_
  refine z_callV (As := []) (rest := []) zmX8_open znX8_open zsX8_open (show vwCl[8]? = some (RX8, TX8, 9) from rfl) zlRL_32 ⟨Nat.le_of_ble_eq_true rfl, Nat.le_of_ble_eq_true rfl⟩ dL_law_389 z_shs_TG.1 rfl rfl z_a0 (Nat.le_of_ble_eq_true rfl) (Nat.le_of_ble_eq_true rfl) ⟨by show z_shs.length + 0 ≤ 0 + 177; rw [z_shs_len]; decide, hz⟩ ?_
  refine z_CIm (K := fun x w1 => z_Sem mLw (0, z) 392 (z_LL i) [z_i x] (z_shs, w1) Q) (uc_open _ _ _ z_shs_TG jc (fun w1 j1 f1 => ?_)) (fun x w1 h => h)
  have hX1 : w1 1000 = X := (f1 1000 (by decide)).trans hX
  have hn1 : w1 1001 0 = n := by rw [f1 1001 (by decide)]; exact hn
  have jm1 := jm.fr f1
  show z_Sem mLw (0, z) 392 (z_LL i) [z_i (z_dopen A H T).1] (z_shs, w1) Q
  refine z_aload_n 1 dL_law_392 rfl rfl ?_
  refine z_callV (As := []) (rest := [z_i (z_dopen A H T).1]) zmX9_open znX9_open zsX9_open (show vwCl[9]? = some (RX9, TX9, 29) from rfl) zlRL_35 ⟨Nat.le_of_ble_eq_true rfl, Nat.le_of_ble_eq_true rfl⟩ dL_law_393 z_shs_is.1 rfl rfl z_a0 (Nat.le_of_ble_eq_true rfl) (Nat.le_of_ble_eq_true rfl) ⟨by show z_shs.length + 0 ≤ 0 + 177; rw [z_shs_len]; decide, hz⟩ ?_
  refine z_CIm (K := fun x w2 => z_Sem mLw (0, z) 396 (z_LL i) [z_i x, z_i (z_dopen A H T).1] (z_shs, w2) Q) (um_open _ _ _ z_shs_is jc.1.1 jc.1.2.2.2.1 jc.tbt jm1 (fun w2 j2 f2 => ?_)) (fun x w2 h => h)
  show z_Sem mLw (0, z) 396 (z_LL i) [z_i (z_dopen A H T).1, z_i (z_dopen A H T).1] (z_shs, w2) Q
  refine z_icmp_eq (tgt := 1905) dL_law_396 (by decide) (fun _ => ?_) (fun c => absurd rfl c)
  exact kk w2 (z_Jfin j1 j2 f2 hX1 hn1)
theorem z_case5 (hw : z_J X n w) (hi : 0 ≤ i ∧ i + 6 ≤ n ∧ n ≤ 3072) (hR : ∀ j : Int, z_R (X j)) (hz : z ≤ 7302250) (kk : ∀ w', z_J X n w' → z_Sem mLw (0, z) 1905 (z_LL i) [] (z_shs, w') Q) : z_Sem mLw (0, z) 401 (z_LL i) [] (z_shs, w) Q := by
  obtain ⟨A, H, T, er, s, jc, jm, hX, hn⟩ := hw
  refine z_aload_n 2 dL_law_401 rfl rfl ?_
  refine z_arg dL_law_402 dL_law_403 dL_law_404 dL_law_405 dL_law_406 rfl rfl hX hn (by decide) hi ?_
  refine z_arg dL_law_407 dL_law_408 dL_law_409 dL_law_410 dL_law_411 rfl rfl hX hn (by decide) hi ?_
  refine z_arg dL_law_412 dL_law_413 dL_law_414 dL_law_415 dL_law_416 rfl rfl hX hn (by decide) hi ?_
  refine z_arg dL_law_417 dL_law_418 dL_law_419 dL_law_420 dL_law_421 rfl rfl hX hn (by decide) hi ?_
  refine z_callV (As := [z_i (X (i + 1)), z_i (X (i + 2)), z_i (X (i + 3)), z_i (X (i + 4))]) (rest := []) zmX8_tell znX8_tell zsX8_tell (show vwCl[8]? = some (RX8, TX8, 9) from rfl) zlRL_36 ⟨Nat.le_of_ble_eq_true rfl, Nat.le_of_ble_eq_true rfl⟩ dL_law_422 z_shs_TG.1 rfl rfl (z_ai (z_ai (z_ai (z_ai z_a0)))) (Nat.le_of_ble_eq_true rfl) (Nat.le_of_ble_eq_true rfl) ⟨by show z_shs.length + 0 ≤ 0 + 177; rw [z_shs_len]; decide, hz⟩ ?_
  refine z_CIm (K := fun x w1 => z_Sem mLw (0, z) 425 (z_LL i) [z_i x] (z_shs, w1) Q) (uc_tell _ _ _ z_shs_TG jc (fun w1 j1 f1 => ?_)) (fun x w1 h => h)
  have hX1 : w1 1000 = X := (f1 1000 (by decide)).trans hX
  have hn1 : w1 1001 0 = n := by rw [f1 1001 (by decide)]; exact hn
  have jm1 := jm.fr f1
  show z_Sem mLw (0, z) 425 (z_LL i) [z_i (z_dtell A H (X (i + 1)) (X (i + 2)) (X (i + 3)) (X (i + 4))).1] (z_shs, w1) Q
  refine z_aload_n 1 dL_law_425 rfl rfl ?_
  refine z_arg dL_law_426 dL_law_427 dL_law_428 dL_law_429 dL_law_430 rfl rfl hX1 hn1 (by decide) hi ?_
  refine z_arg dL_law_431 dL_law_432 dL_law_433 dL_law_434 dL_law_435 rfl rfl hX1 hn1 (by decide) hi ?_
  refine z_arg dL_law_436 dL_law_437 dL_law_438 dL_law_439 dL_law_440 rfl rfl hX1 hn1 (by decide) hi ?_
  refine z_arg dL_law_441 dL_law_442 dL_law_443 dL_law_444 dL_law_445 rfl rfl hX1 hn1 (by decide) hi ?_
  refine z_callV (As := [z_i (X (i + 1)), z_i (X (i + 2)), z_i (X (i + 3)), z_i (X (i + 4))]) (rest := [z_i (z_dtell A H (X (i + 1)) (X (i + 2)) (X (i + 3)) (X (i + 4))).1]) zmX9_tell znX9_tell zsX9_tell (show vwCl[9]? = some (RX9, TX9, 29) from rfl) zlRL_40 ⟨Nat.le_of_ble_eq_true rfl, Nat.le_of_ble_eq_true rfl⟩ dL_law_446 z_shs_is.1 rfl rfl (z_ai (z_ai (z_ai (z_ai z_a0)))) (Nat.le_of_ble_eq_true rfl) (Nat.le_of_ble_eq_true rfl) ⟨by show z_shs.length + 0 ≤ 0 + 177; rw [z_shs_len]; decide, hz⟩ ?_
  refine z_CIm (K := fun x w2 => z_Sem mLw (0, z) 449 (z_LL i) [z_i x, z_i (z_dtell A H (X (i + 1)) (X (i + 2)) (X (i + 3)) (X (i + 4))).1] (z_shs, w2) Q) (um_tell _ _ _ z_shs_is jc.1.1 jc.1.2.2.2.1 jc.tbt jm1 (fun w2 j2 f2 => ?_)) (fun x w2 h => h)
  show z_Sem mLw (0, z) 449 (z_LL i) [z_i (z_dtell A H (X (i + 1)) (X (i + 2)) (X (i + 3)) (X (i + 4))).1, z_i (z_dtell A H (X (i + 1)) (X (i + 2)) (X (i + 3)) (X (i + 4))).1] (z_shs, w2) Q
  refine z_icmp_eq (tgt := 1905) dL_law_449 (by decide) (fun _ => ?_) (fun c => absurd rfl c)
  exact kk w2 (z_Jfin j1 j2 f2 hX1 hn1)
theorem z_case6 (hw : z_J X n w) (hi : 0 ≤ i ∧ i + 6 ≤ n ∧ n ≤ 3072) (hR : ∀ j : Int, z_R (X j)) (hz : z ≤ 7302250) (kk : ∀ w', z_J X n w' → z_Sem mLw (0, z) 1905 (z_LL i) [] (z_shs, w') Q) : z_Sem mLw (0, z) 454 (z_LL i) [] (z_shs, w) Q := by
  obtain ⟨A, H, T, er, s, jc, jm, hX, hn⟩ := hw
  refine z_aload_n 2 dL_law_454 rfl rfl ?_
  refine z_arg dL_law_455 dL_law_456 dL_law_457 dL_law_458 dL_law_459 rfl rfl hX hn (by decide) hi ?_
  refine z_callV (As := [z_i (X (i + 1))]) (rest := []) zmX8_drop znX8_drop zsX8_drop (show vwCl[8]? = some (RX8, TX8, 9) from rfl) zlRL_41 ⟨Nat.le_of_ble_eq_true rfl, Nat.le_of_ble_eq_true rfl⟩ dL_law_460 z_shs_TG.1 rfl rfl (z_ai z_a0) (Nat.le_of_ble_eq_true rfl) (Nat.le_of_ble_eq_true rfl) ⟨by show z_shs.length + 0 ≤ 0 + 177; rw [z_shs_len]; decide, hz⟩ ?_
  refine z_CIm (K := fun x w1 => z_Sem mLw (0, z) 463 (z_LL i) [z_i x] (z_shs, w1) Q) (uc_drop _ _ _ z_shs_TG jc (fun w1 j1 f1 => ?_)) (fun x w1 h => h)
  have hX1 : w1 1000 = X := (f1 1000 (by decide)).trans hX
  have hn1 : w1 1001 0 = n := by rw [f1 1001 (by decide)]; exact hn
  have jm1 := jm.fr f1
  show z_Sem mLw (0, z) 463 (z_LL i) [z_i (z_ddrop A H (X (i + 1))).1] (z_shs, w1) Q
  refine z_aload_n 1 dL_law_463 rfl rfl ?_
  refine z_arg dL_law_464 dL_law_465 dL_law_466 dL_law_467 dL_law_468 rfl rfl hX1 hn1 (by decide) hi ?_
  refine z_callV (As := [z_i (X (i + 1))]) (rest := [z_i (z_ddrop A H (X (i + 1))).1]) zmX9_drop znX9_drop zsX9_drop (show vwCl[9]? = some (RX9, TX9, 29) from rfl) zlRL_44 ⟨Nat.le_of_ble_eq_true rfl, Nat.le_of_ble_eq_true rfl⟩ dL_law_469 z_shs_is.1 rfl rfl (z_ai z_a0) (Nat.le_of_ble_eq_true rfl) (Nat.le_of_ble_eq_true rfl) ⟨by show z_shs.length + 0 ≤ 0 + 177; rw [z_shs_len]; decide, hz⟩ ?_
  refine z_CIm (K := fun x w2 => z_Sem mLw (0, z) 472 (z_LL i) [z_i x, z_i (z_ddrop A H (X (i + 1))).1] (z_shs, w2) Q) (um_drop _ _ _ z_shs_is jc.1.1 jc.1.2.2.2.1 jc.tbt jm1 (fun w2 j2 f2 => ?_)) (fun x w2 h => h)
  show z_Sem mLw (0, z) 472 (z_LL i) [z_i (z_ddrop A H (X (i + 1))).1, z_i (z_ddrop A H (X (i + 1))).1] (z_shs, w2) Q
  refine z_icmp_eq (tgt := 1905) dL_law_472 (by decide) (fun _ => ?_) (fun c => absurd rfl c)
  exact kk w2 (z_Jfin j1 j2 f2 hX1 hn1)
theorem z_case7 (hw : z_J X n w) (hi : 0 ≤ i ∧ i + 6 ≤ n ∧ n ≤ 3072) (hR : ∀ j : Int, z_R (X j)) (hz : z ≤ 7302250) (kk : ∀ w', z_J X n w' → z_Sem mLw (0, z) 1905 (z_LL i) [] (z_shs, w') Q) : z_Sem mLw (0, z) 477 (z_LL i) [] (z_shs, w) Q := by
  obtain ⟨A, H, T, er, s, jc, jm, hX, hn⟩ := hw
  refine z_aload_n 2 dL_law_477 rfl rfl ?_
  refine z_arg dL_law_478 dL_law_479 dL_law_480 dL_law_481 dL_law_482 rfl rfl hX hn (by decide) hi ?_
  refine z_arg dL_law_483 dL_law_484 dL_law_485 dL_law_486 dL_law_487 rfl rfl hX hn (by decide) hi ?_
  refine z_callV (As := [z_i (X (i + 1)), z_i (X (i + 2))]) (rest := []) zmX8_set znX8_set zsX8_set (show vwCl[8]? = some (RX8, TX8, 9) from rfl) zlRL_45 ⟨Nat.le_of_ble_eq_true rfl, Nat.le_of_ble_eq_true rfl⟩ dL_law_488 z_shs_TG.1 rfl rfl (z_ai (z_ai z_a0)) (Nat.le_of_ble_eq_true rfl) (Nat.le_of_ble_eq_true rfl) ⟨by show z_shs.length + 0 ≤ 0 + 177; rw [z_shs_len]; decide, hz⟩ ?_
  refine z_CIm (K := fun x w1 => z_Sem mLw (0, z) 491 (z_LL i) [z_i x] (z_shs, w1) Q) (uc_set _ _ _ z_shs_TG jc (fun w1 j1 f1 => ?_)) (fun x w1 h => h)
  have hX1 : w1 1000 = X := (f1 1000 (by decide)).trans hX
  have hn1 : w1 1001 0 = n := by rw [f1 1001 (by decide)]; exact hn
  have jm1 := jm.fr f1
  show z_Sem mLw (0, z) 491 (z_LL i) [z_i (z_dset A H (X (i + 1)) (X (i + 2))).1] (z_shs, w1) Q
  refine z_aload_n 1 dL_law_491 rfl rfl ?_
  refine z_arg dL_law_492 dL_law_493 dL_law_494 dL_law_495 dL_law_496 rfl rfl hX1 hn1 (by decide) hi ?_
  refine z_arg dL_law_497 dL_law_498 dL_law_499 dL_law_500 dL_law_501 rfl rfl hX1 hn1 (by decide) hi ?_
  refine z_callV (As := [z_i (X (i + 1)), z_i (X (i + 2))]) (rest := [z_i (z_dset A H (X (i + 1)) (X (i + 2))).1]) zmX9_set znX9_set zsX9_set (show vwCl[9]? = some (RX9, TX9, 29) from rfl) zlRL_49 ⟨Nat.le_of_ble_eq_true rfl, Nat.le_of_ble_eq_true rfl⟩ dL_law_502 z_shs_is.1 rfl rfl (z_ai (z_ai z_a0)) (Nat.le_of_ble_eq_true rfl) (Nat.le_of_ble_eq_true rfl) ⟨by show z_shs.length + 0 ≤ 0 + 177; rw [z_shs_len]; decide, hz⟩ ?_
  refine z_CIm (K := fun x w2 => z_Sem mLw (0, z) 505 (z_LL i) [z_i x, z_i (z_dset A H (X (i + 1)) (X (i + 2))).1] (z_shs, w2) Q) (um_set _ _ _ z_shs_is jc.1.1 jc.1.2.2.2.1 jc.tbt jm1 (fun w2 j2 f2 => ?_)) (fun x w2 h => h)
  show z_Sem mLw (0, z) 505 (z_LL i) [z_i (z_dset A H (X (i + 1)) (X (i + 2))).1, z_i (z_dset A H (X (i + 1)) (X (i + 2))).1] (z_shs, w2) Q
  refine z_icmp_eq (tgt := 1905) dL_law_505 (by decide) (fun _ => ?_) (fun c => absurd rfl c)
  exact kk w2 (z_Jfin j1 j2 f2 hX1 hn1)
theorem z_case8 (hw : z_J X n w) (hi : 0 ≤ i ∧ i + 6 ≤ n ∧ n ≤ 3072) (hR : ∀ j : Int, z_R (X j)) (hz : z ≤ 7302250) (kk : ∀ w', z_J X n w' → z_Sem mLw (0, z) 1905 (z_LL i) [] (z_shs, w') Q) : z_Sem mLw (0, z) 510 (z_LL i) [] (z_shs, w) Q := by
  obtain ⟨A, H, T, er, s, jc, jm, hX, hn⟩ := hw
  refine z_aload_n 2 dL_law_510 rfl rfl ?_
  refine z_arg dL_law_511 dL_law_512 dL_law_513 dL_law_514 dL_law_515 rfl rfl hX hn (by decide) hi ?_
  refine z_callV (As := [z_i (X (i + 1))]) (rest := []) zmX8_turn znX8_turn zsX8_turn (show vwCl[8]? = some (RX8, TX8, 9) from rfl) zlRL_50 ⟨Nat.le_of_ble_eq_true rfl, Nat.le_of_ble_eq_true rfl⟩ dL_law_516 z_shs_TG.1 rfl rfl (z_ai z_a0) (Nat.le_of_ble_eq_true rfl) (Nat.le_of_ble_eq_true rfl) ⟨by show z_shs.length + 0 ≤ 0 + 177; rw [z_shs_len]; decide, hz⟩ ?_
  refine z_CIm (K := fun x w1 => z_Sem mLw (0, z) 519 (z_LL i) [z_i x] (z_shs, w1) Q) (uc_turn _ _ _ z_shs_TG jc (fun w1 j1 f1 => ?_)) (fun x w1 h => h)
  have hX1 : w1 1000 = X := (f1 1000 (by decide)).trans hX
  have hn1 : w1 1001 0 = n := by rw [f1 1001 (by decide)]; exact hn
  have jm1 := jm.fr f1
  show z_Sem mLw (0, z) 519 (z_LL i) [z_i (z_dturn A H (X (i + 1))).1] (z_shs, w1) Q
  refine z_aload_n 1 dL_law_519 rfl rfl ?_
  refine z_arg dL_law_520 dL_law_521 dL_law_522 dL_law_523 dL_law_524 rfl rfl hX1 hn1 (by decide) hi ?_
  refine z_callV (As := [z_i (X (i + 1))]) (rest := [z_i (z_dturn A H (X (i + 1))).1]) zmX9_turn znX9_turn zsX9_turn (show vwCl[9]? = some (RX9, TX9, 29) from rfl) zlRL_53 ⟨Nat.le_of_ble_eq_true rfl, Nat.le_of_ble_eq_true rfl⟩ dL_law_525 z_shs_is.1 rfl rfl (z_ai z_a0) (Nat.le_of_ble_eq_true rfl) (Nat.le_of_ble_eq_true rfl) ⟨by show z_shs.length + 0 ≤ 0 + 177; rw [z_shs_len]; decide, hz⟩ ?_
  refine z_CIm (K := fun x w2 => z_Sem mLw (0, z) 528 (z_LL i) [z_i x, z_i (z_dturn A H (X (i + 1))).1] (z_shs, w2) Q) (um_turn _ _ _ z_shs_is jc.1.1 jc.1.2.2.2.1 jc.tbt jm1 (fun w2 j2 f2 => ?_)) (fun x w2 h => h)
  show z_Sem mLw (0, z) 528 (z_LL i) [z_i (z_dturn A H (X (i + 1))).1, z_i (z_dturn A H (X (i + 1))).1] (z_shs, w2) Q
  refine z_icmp_eq (tgt := 1905) dL_law_528 (by decide) (fun _ => ?_) (fun c => absurd rfl c)
  exact kk w2 (z_Jfin j1 j2 f2 hX1 hn1)
theorem z_case9 (hw : z_J X n w) (hi : 0 ≤ i ∧ i + 6 ≤ n ∧ n ≤ 3072) (hR : ∀ j : Int, z_R (X j)) (hz : z ≤ 7302250) (kk : ∀ w', z_J X n w' → z_Sem mLw (0, z) 1905 (z_LL i) [] (z_shs, w') Q) : z_Sem mLw (0, z) 533 (z_LL i) [] (z_shs, w) Q := by
  obtain ⟨A, H, T, er, s, jc, jm, hX, hn⟩ := hw
  refine z_aload_n 2 dL_law_533 rfl rfl ?_
  refine z_arg dL_law_534 dL_law_535 dL_law_536 dL_law_537 dL_law_538 rfl rfl hX hn (by decide) hi ?_
  refine z_arg dL_law_539 dL_law_540 dL_law_541 dL_law_542 dL_law_543 rfl rfl hX hn (by decide) hi ?_
  refine z_callV (As := [z_i (X (i + 1)), z_i (X (i + 2))]) (rest := []) zmX8_pin znX8_pin zsX8_pin (show vwCl[8]? = some (RX8, TX8, 9) from rfl) zlRL_54 ⟨Nat.le_of_ble_eq_true rfl, Nat.le_of_ble_eq_true rfl⟩ dL_law_544 z_shs_TG.1 rfl rfl (z_ai (z_ai z_a0)) (Nat.le_of_ble_eq_true rfl) (Nat.le_of_ble_eq_true rfl) ⟨by show z_shs.length + 0 ≤ 0 + 177; rw [z_shs_len]; decide, hz⟩ ?_
  refine z_CIm (K := fun x w1 => z_Sem mLw (0, z) 547 (z_LL i) [z_i x] (z_shs, w1) Q) (uc_pin _ _ _ z_shs_TG jc (fun w1 j1 f1 => ?_)) (fun x w1 h => h)
  have hX1 : w1 1000 = X := (f1 1000 (by decide)).trans hX
  have hn1 : w1 1001 0 = n := by rw [f1 1001 (by decide)]; exact hn
  have jm1 := jm.fr f1
  show z_Sem mLw (0, z) 547 (z_LL i) [z_i (z_dpin A H (X (i + 1)) (X (i + 2))).1] (z_shs, w1) Q
  refine z_aload_n 1 dL_law_547 rfl rfl ?_
  refine z_arg dL_law_548 dL_law_549 dL_law_550 dL_law_551 dL_law_552 rfl rfl hX1 hn1 (by decide) hi ?_
  refine z_arg dL_law_553 dL_law_554 dL_law_555 dL_law_556 dL_law_557 rfl rfl hX1 hn1 (by decide) hi ?_
  refine z_callV (As := [z_i (X (i + 1)), z_i (X (i + 2))]) (rest := [z_i (z_dpin A H (X (i + 1)) (X (i + 2))).1]) zmX9_pin znX9_pin zsX9_pin (show vwCl[9]? = some (RX9, TX9, 29) from rfl) zlRL_57 ⟨Nat.le_of_ble_eq_true rfl, Nat.le_of_ble_eq_true rfl⟩ dL_law_558 z_shs_is.1 rfl rfl (z_ai (z_ai z_a0)) (Nat.le_of_ble_eq_true rfl) (Nat.le_of_ble_eq_true rfl) ⟨by show z_shs.length + 0 ≤ 0 + 177; rw [z_shs_len]; decide, hz⟩ ?_
  refine z_CIm (K := fun x w2 => z_Sem mLw (0, z) 561 (z_LL i) [z_i x, z_i (z_dpin A H (X (i + 1)) (X (i + 2))).1] (z_shs, w2) Q) (um_pin _ _ _ z_shs_is jc.1.1 jc.1.2.2.2.1 jc.tbt jm1 (fun w2 j2 f2 => ?_)) (fun x w2 h => h)
  show z_Sem mLw (0, z) 561 (z_LL i) [z_i (z_dpin A H (X (i + 1)) (X (i + 2))).1, z_i (z_dpin A H (X (i + 1)) (X (i + 2))).1] (z_shs, w2) Q
  refine z_icmp_eq (tgt := 1905) dL_law_561 (by decide) (fun _ => ?_) (fun c => absurd rfl c)
  exact kk w2 (z_Jfin j1 j2 f2 hX1 hn1)
theorem z_case10 (hw : z_J X n w) (hi : 0 ≤ i ∧ i + 6 ≤ n ∧ n ≤ 3072) (hR : ∀ j : Int, z_R (X j)) (hz : z ≤ 7302250) (kk : ∀ w', z_J X n w' → z_Sem mLw (0, z) 1905 (z_LL i) [] (z_shs, w') Q) : z_Sem mLw (0, z) 566 (z_LL i) [] (z_shs, w) Q := by
  obtain ⟨A, H, T, er, s, jc, jm, hX, hn⟩ := hw
  refine z_aload_n 2 dL_law_566 rfl rfl ?_
  refine z_arg dL_law_567 dL_law_568 dL_law_569 dL_law_570 dL_law_571 rfl rfl hX hn (by decide) hi ?_
  refine z_callV (As := [z_i (X (i + 1))]) (rest := []) zmX8_unpin znX8_unpin zsX8_unpin (show vwCl[8]? = some (RX8, TX8, 9) from rfl) zlRL_58 ⟨Nat.le_of_ble_eq_true rfl, Nat.le_of_ble_eq_true rfl⟩ dL_law_572 z_shs_TG.1 rfl rfl (z_ai z_a0) (Nat.le_of_ble_eq_true rfl) (Nat.le_of_ble_eq_true rfl) ⟨by show z_shs.length + 0 ≤ 0 + 177; rw [z_shs_len]; decide, hz⟩ ?_
  refine z_CIm (K := fun x w1 => z_Sem mLw (0, z) 575 (z_LL i) [z_i x] (z_shs, w1) Q) (uc_unpin _ _ _ z_shs_TG jc (fun w1 j1 f1 => ?_)) (fun x w1 h => h)
  have hX1 : w1 1000 = X := (f1 1000 (by decide)).trans hX
  have hn1 : w1 1001 0 = n := by rw [f1 1001 (by decide)]; exact hn
  have jm1 := jm.fr f1
  show z_Sem mLw (0, z) 575 (z_LL i) [z_i (z_dunpin A H (X (i + 1))).1] (z_shs, w1) Q
  refine z_aload_n 1 dL_law_575 rfl rfl ?_
  refine z_arg dL_law_576 dL_law_577 dL_law_578 dL_law_579 dL_law_580 rfl rfl hX1 hn1 (by decide) hi ?_
  refine z_callV (As := [z_i (X (i + 1))]) (rest := [z_i (z_dunpin A H (X (i + 1))).1]) zmX9_unpin znX9_unpin zsX9_unpin (show vwCl[9]? = some (RX9, TX9, 29) from rfl) zlRL_61 ⟨Nat.le_of_ble_eq_true rfl, Nat.le_of_ble_eq_true rfl⟩ dL_law_581 z_shs_is.1 rfl rfl (z_ai z_a0) (Nat.le_of_ble_eq_true rfl) (Nat.le_of_ble_eq_true rfl) ⟨by show z_shs.length + 0 ≤ 0 + 177; rw [z_shs_len]; decide, hz⟩ ?_
  refine z_CIm (K := fun x w2 => z_Sem mLw (0, z) 584 (z_LL i) [z_i x, z_i (z_dunpin A H (X (i + 1))).1] (z_shs, w2) Q) (um_unpin _ _ _ z_shs_is jc.1.1 jc.1.2.2.2.1 jc.tbt jm1 (fun w2 j2 f2 => ?_)) (fun x w2 h => h)
  show z_Sem mLw (0, z) 584 (z_LL i) [z_i (z_dunpin A H (X (i + 1))).1, z_i (z_dunpin A H (X (i + 1))).1] (z_shs, w2) Q
  refine z_icmp_eq (tgt := 1905) dL_law_584 (by decide) (fun _ => ?_) (fun c => absurd rfl c)
  exact kk w2 (z_Jfin j1 j2 f2 hX1 hn1)
theorem z_case11 (hw : z_J X n w) (hi : 0 ≤ i ∧ i + 6 ≤ n ∧ n ≤ 3072) (hR : ∀ j : Int, z_R (X j)) (hz : z ≤ 7302250) (kk : ∀ w', z_J X n w' → z_Sem mLw (0, z) 1905 (z_LL i) [] (z_shs, w') Q) : z_Sem mLw (0, z) 589 (z_LL i) [] (z_shs, w) Q := by
  obtain ⟨A, H, T, er, s, jc, jm, hX, hn⟩ := hw
  refine z_aload_n 2 dL_law_589 rfl rfl ?_
  refine z_arg dL_law_590 dL_law_591 dL_law_592 dL_law_593 dL_law_594 rfl rfl hX hn (by decide) hi ?_
  refine z_callV (As := [z_i (X (i + 1))]) (rest := []) zmX8_end znX8_end zsX8_end (show vwCl[8]? = some (RX8, TX8, 9) from rfl) zlRL_62 ⟨Nat.le_of_ble_eq_true rfl, Nat.le_of_ble_eq_true rfl⟩ dL_law_595 z_shs_TG.1 rfl rfl (z_ai z_a0) (Nat.le_of_ble_eq_true rfl) (Nat.le_of_ble_eq_true rfl) ⟨by show z_shs.length + 0 ≤ 0 + 177; rw [z_shs_len]; decide, hz⟩ ?_
  refine z_CIm (K := fun x w1 => z_Sem mLw (0, z) 598 (z_LL i) [z_i x] (z_shs, w1) Q) (uc_end _ _ _ z_shs_TG jc (fun w1 j1 f1 => ?_)) (fun x w1 h => h)
  have hX1 : w1 1000 = X := (f1 1000 (by decide)).trans hX
  have hn1 : w1 1001 0 = n := by rw [f1 1001 (by decide)]; exact hn
  have jm1 := jm.fr f1
  show z_Sem mLw (0, z) 598 (z_LL i) [z_i (z_dend A H (X (i + 1))).1] (z_shs, w1) Q
  refine z_aload_n 1 dL_law_598 rfl rfl ?_
  refine z_arg dL_law_599 dL_law_600 dL_law_601 dL_law_602 dL_law_603 rfl rfl hX1 hn1 (by decide) hi ?_
  refine z_callV (As := [z_i (X (i + 1))]) (rest := [z_i (z_dend A H (X (i + 1))).1]) zmX9_end znX9_end zsX9_end (show vwCl[9]? = some (RX9, TX9, 29) from rfl) zlRL_65 ⟨Nat.le_of_ble_eq_true rfl, Nat.le_of_ble_eq_true rfl⟩ dL_law_604 z_shs_is.1 rfl rfl (z_ai z_a0) (Nat.le_of_ble_eq_true rfl) (Nat.le_of_ble_eq_true rfl) ⟨by show z_shs.length + 0 ≤ 0 + 177; rw [z_shs_len]; decide, hz⟩ ?_
  refine z_CIm (K := fun x w2 => z_Sem mLw (0, z) 607 (z_LL i) [z_i x, z_i (z_dend A H (X (i + 1))).1] (z_shs, w2) Q) (um_end _ _ _ z_shs_is jc.1.1 jc.1.2.2.2.1 jc.tbt jm1 (fun w2 j2 f2 => ?_)) (fun x w2 h => h)
  show z_Sem mLw (0, z) 607 (z_LL i) [z_i (z_dend A H (X (i + 1))).1, z_i (z_dend A H (X (i + 1))).1] (z_shs, w2) Q
  refine z_icmp_eq (tgt := 1905) dL_law_607 (by decide) (fun _ => ?_) (fun c => absurd rfl c)
  exact kk w2 (z_Jfin j1 j2 f2 hX1 hn1)
theorem z_case12 (hw : z_J X n w) (hi : 0 ≤ i ∧ i + 6 ≤ n ∧ n ≤ 3072) (hR : ∀ j : Int, z_R (X j)) (hz : z ≤ 7302250) (kk : ∀ w', z_J X n w' → z_Sem mLw (0, z) 1905 (z_LL i) [] (z_shs, w') Q) : z_Sem mLw (0, z) 612 (z_LL i) [] (z_shs, w) Q := by
  obtain ⟨A, H, T, er, s, jc, jm, hX, hn⟩ := hw
  refine z_aload_n 2 dL_law_612 rfl rfl ?_
  refine z_arg dL_law_613 dL_law_614 dL_law_615 dL_law_616 dL_law_617 rfl rfl hX hn (by decide) hi ?_
  refine z_callV (As := [z_i (X (i + 1))]) (rest := []) zmX8_rename znX8_rename zsX8_rename (show vwCl[8]? = some (RX8, TX8, 9) from rfl) zlRL_66 ⟨Nat.le_of_ble_eq_true rfl, Nat.le_of_ble_eq_true rfl⟩ dL_law_618 z_shs_TG.1 rfl rfl (z_ai z_a0) (Nat.le_of_ble_eq_true rfl) (Nat.le_of_ble_eq_true rfl) ⟨by show z_shs.length + 0 ≤ 0 + 177; rw [z_shs_len]; decide, hz⟩ ?_
  refine z_CIm (K := fun x w1 => z_Sem mLw (0, z) 621 (z_LL i) [z_i x] (z_shs, w1) Q) (uc_rename _ _ _ z_shs_TG jc (fun w1 j1 f1 => ?_)) (fun x w1 h => h)
  have hX1 : w1 1000 = X := (f1 1000 (by decide)).trans hX
  have hn1 : w1 1001 0 = n := by rw [f1 1001 (by decide)]; exact hn
  have jm1 := jm.fr f1
  show z_Sem mLw (0, z) 621 (z_LL i) [z_i (z_dren A H T (X (i + 1))).1] (z_shs, w1) Q
  refine z_aload_n 1 dL_law_621 rfl rfl ?_
  refine z_arg dL_law_622 dL_law_623 dL_law_624 dL_law_625 dL_law_626 rfl rfl hX1 hn1 (by decide) hi ?_
  refine z_callV (As := [z_i (X (i + 1))]) (rest := [z_i (z_dren A H T (X (i + 1))).1]) zmX9_rename znX9_rename zsX9_rename (show vwCl[9]? = some (RX9, TX9, 29) from rfl) zlRL_69 ⟨Nat.le_of_ble_eq_true rfl, Nat.le_of_ble_eq_true rfl⟩ dL_law_627 z_shs_is.1 rfl rfl (z_ai z_a0) (Nat.le_of_ble_eq_true rfl) (Nat.le_of_ble_eq_true rfl) ⟨by show z_shs.length + 0 ≤ 0 + 177; rw [z_shs_len]; decide, hz⟩ ?_
  refine z_CIm (K := fun x w2 => z_Sem mLw (0, z) 630 (z_LL i) [z_i x, z_i (z_dren A H T (X (i + 1))).1] (z_shs, w2) Q) (um_rename _ _ _ z_shs_is jc.1.1 jc.1.2.2.2.1 jc.tbt jm1 (fun w2 j2 f2 => ?_)) (fun x w2 h => h)
  show z_Sem mLw (0, z) 630 (z_LL i) [z_i (z_dren A H T (X (i + 1))).1, z_i (z_dren A H T (X (i + 1))).1] (z_shs, w2) Q
  refine z_icmp_eq (tgt := 1905) dL_law_630 (by decide) (fun _ => ?_) (fun c => absurd rfl c)
  exact kk w2 (z_Jfin j1 j2 f2 hX1 hn1)
theorem z_case13 (hw : z_J X n w) (hi : 0 ≤ i ∧ i + 6 ≤ n ∧ n ≤ 3072) (hR : ∀ j : Int, z_R (X j)) (hz : z ≤ 7302250) (kk : ∀ w', z_J X n w' → z_Sem mLw (0, z) 1905 (z_LL i) [] (z_shs, w') Q) : z_Sem mLw (0, z) 635 (z_LL i) [] (z_shs, w) Q := by
  obtain ⟨A, H, T, er, s, jc, jm, hX, hn⟩ := hw
  refine z_aload_n 2 dL_law_635 rfl rfl ?_
  refine z_arg dL_law_636 dL_law_637 dL_law_638 dL_law_639 dL_law_640 rfl rfl hX hn (by decide) hi ?_
  refine z_callV (As := [z_i (X (i + 1))]) (rest := []) zmX8_reverse znX8_reverse zsX8_reverse (show vwCl[8]? = some (RX8, TX8, 9) from rfl) zlRL_70 ⟨Nat.le_of_ble_eq_true rfl, Nat.le_of_ble_eq_true rfl⟩ dL_law_641 z_shs_TG.1 rfl rfl (z_ai z_a0) (Nat.le_of_ble_eq_true rfl) (Nat.le_of_ble_eq_true rfl) ⟨by show z_shs.length + 0 ≤ 0 + 177; rw [z_shs_len]; decide, hz⟩ ?_
  refine z_CIm (K := fun x w1 => z_Sem mLw (0, z) 644 (z_LL i) [z_i x] (z_shs, w1) Q) (uc_reverse _ _ _ z_shs_TG jc (fun w1 j1 f1 => ?_)) (fun x w1 h => h)
  have hX1 : w1 1000 = X := (f1 1000 (by decide)).trans hX
  have hn1 : w1 1001 0 = n := by rw [f1 1001 (by decide)]; exact hn
  have jm1 := jm.fr f1
  show z_Sem mLw (0, z) 644 (z_LL i) [z_i (z_drev A H (X (i + 1))).1] (z_shs, w1) Q
  refine z_aload_n 1 dL_law_644 rfl rfl ?_
  refine z_arg dL_law_645 dL_law_646 dL_law_647 dL_law_648 dL_law_649 rfl rfl hX1 hn1 (by decide) hi ?_
  refine z_callV (As := [z_i (X (i + 1))]) (rest := [z_i (z_drev A H (X (i + 1))).1]) zmX9_reverse znX9_reverse zsX9_reverse (show vwCl[9]? = some (RX9, TX9, 29) from rfl) zlRL_73 ⟨Nat.le_of_ble_eq_true rfl, Nat.le_of_ble_eq_true rfl⟩ dL_law_650 z_shs_is.1 rfl rfl (z_ai z_a0) (Nat.le_of_ble_eq_true rfl) (Nat.le_of_ble_eq_true rfl) ⟨by show z_shs.length + 0 ≤ 0 + 177; rw [z_shs_len]; decide, hz⟩ ?_
  refine z_CIm (K := fun x w2 => z_Sem mLw (0, z) 653 (z_LL i) [z_i x, z_i (z_drev A H (X (i + 1))).1] (z_shs, w2) Q) (um_reverse _ _ _ z_shs_is jc.1.1 jc.1.2.2.2.1 jc.tbt jm1 (fun w2 j2 f2 => ?_)) (fun x w2 h => h)
  show z_Sem mLw (0, z) 653 (z_LL i) [z_i (z_drev A H (X (i + 1))).1, z_i (z_drev A H (X (i + 1))).1] (z_shs, w2) Q
  refine z_icmp_eq (tgt := 1905) dL_law_653 (by decide) (fun _ => ?_) (fun c => absurd rfl c)
  exact kk w2 (z_Jfin j1 j2 f2 hX1 hn1)
theorem z_case14 (hw : z_J X n w) (hi : 0 ≤ i ∧ i + 6 ≤ n ∧ n ≤ 3072) (hR : ∀ j : Int, z_R (X j)) (hz : z ≤ 7302250) (kk : ∀ w', z_J X n w' → z_Sem mLw (0, z) 1905 (z_LL i) [] (z_shs, w') Q) : z_Sem mLw (0, z) 658 (z_LL i) [] (z_shs, w) Q := by
  obtain ⟨A, H, T, er, s, jc, jm, hX, hn⟩ := hw
  refine z_aload_n 2 dL_law_658 rfl rfl ?_
  refine z_callV (As := []) (rest := []) zmX8_tighten znX8_tighten zsX8_tighten (show vwCl[8]? = some (RX8, TX8, 9) from rfl) zlRL_74 ⟨Nat.le_of_ble_eq_true rfl, Nat.le_of_ble_eq_true rfl⟩ dL_law_659 z_shs_TG.1 rfl rfl z_a0 (Nat.le_of_ble_eq_true rfl) (Nat.le_of_ble_eq_true rfl) ⟨by show z_shs.length + 0 ≤ 0 + 177; rw [z_shs_len]; decide, hz⟩ ?_
  refine z_CIm (K := fun x w1 => z_Sem mLw (0, z) 662 (z_LL i) [z_i x] (z_shs, w1) Q) (uc_tighten _ _ _ z_shs_TG jc (fun w1 j1 f1 => ?_)) (fun x w1 h => h)
  have hX1 : w1 1000 = X := (f1 1000 (by decide)).trans hX
  have hn1 : w1 1001 0 = n := by rw [f1 1001 (by decide)]; exact hn
  have jm1 := jm.fr f1
  show z_Sem mLw (0, z) 662 (z_LL i) [z_i (z_dtight A H).1] (z_shs, w1) Q
  refine z_aload_n 1 dL_law_662 rfl rfl ?_
  refine z_callV (As := []) (rest := [z_i (z_dtight A H).1]) zmX9_tighten znX9_tighten zsX9_tighten (show vwCl[9]? = some (RX9, TX9, 29) from rfl) zlRL_77 ⟨Nat.le_of_ble_eq_true rfl, Nat.le_of_ble_eq_true rfl⟩ dL_law_663 z_shs_is.1 rfl rfl z_a0 (Nat.le_of_ble_eq_true rfl) (Nat.le_of_ble_eq_true rfl) ⟨by show z_shs.length + 0 ≤ 0 + 177; rw [z_shs_len]; decide, hz⟩ ?_
  refine z_CIm (K := fun x w2 => z_Sem mLw (0, z) 666 (z_LL i) [z_i x, z_i (z_dtight A H).1] (z_shs, w2) Q) (um_tighten _ _ _ z_shs_is jc.1.1 jc.1.2.2.2.1 jc.tbt jm1 (fun w2 j2 f2 => ?_)) (fun x w2 h => h)
  show z_Sem mLw (0, z) 666 (z_LL i) [z_i (z_dtight A H).1, z_i (z_dtight A H).1] (z_shs, w2) Q
  refine z_icmp_eq (tgt := 1905) dL_law_666 (by decide) (fun _ => ?_) (fun c => absurd rfl c)
  exact kk w2 (z_Jfin j1 j2 f2 hX1 hn1)
theorem z_case15 (hw : z_J X n w) (hi : 0 ≤ i ∧ i + 6 ≤ n ∧ n ≤ 3072) (hR : ∀ j : Int, z_R (X j)) (hz : z ≤ 7302250) (kk : ∀ w', z_J X n w' → z_Sem mLw (0, z) 1905 (z_LL i) [] (z_shs, w') Q) : z_Sem mLw (0, z) 671 (z_LL i) [] (z_shs, w) Q := by
  obtain ⟨A, H, T, er, s, jc, jm, hX, hn⟩ := hw
  refine z_aload_n 2 dL_law_671 rfl rfl ?_
  refine z_callV (As := []) (rest := []) zmX8_thin znX8_thin zsX8_thin (show vwCl[8]? = some (RX8, TX8, 9) from rfl) zlRL_78 ⟨Nat.le_of_ble_eq_true rfl, Nat.le_of_ble_eq_true rfl⟩ dL_law_672 z_shs_TG.1 rfl rfl z_a0 (Nat.le_of_ble_eq_true rfl) (Nat.le_of_ble_eq_true rfl) ⟨by show z_shs.length + 0 ≤ 0 + 177; rw [z_shs_len]; decide, hz⟩ ?_
  refine z_CIm (K := fun x w1 => z_Sem mLw (0, z) 675 (z_LL i) [z_i x] (z_shs, w1) Q) (uc_thin _ _ _ z_shs_TG jc (fun w1 j1 f1 => ?_)) (fun x w1 h => h)
  have hX1 : w1 1000 = X := (f1 1000 (by decide)).trans hX
  have hn1 : w1 1001 0 = n := by rw [f1 1001 (by decide)]; exact hn
  have jm1 := jm.fr f1
  show z_Sem mLw (0, z) 675 (z_LL i) [z_i (z_dthin A H).1] (z_shs, w1) Q
  refine z_aload_n 1 dL_law_675 rfl rfl ?_
  refine z_callV (As := []) (rest := [z_i (z_dthin A H).1]) zmX9_thin znX9_thin zsX9_thin (show vwCl[9]? = some (RX9, TX9, 29) from rfl) zlRL_81 ⟨Nat.le_of_ble_eq_true rfl, Nat.le_of_ble_eq_true rfl⟩ dL_law_676 z_shs_is.1 rfl rfl z_a0 (Nat.le_of_ble_eq_true rfl) (Nat.le_of_ble_eq_true rfl) ⟨by show z_shs.length + 0 ≤ 0 + 177; rw [z_shs_len]; decide, hz⟩ ?_
  refine z_CIm (K := fun x w2 => z_Sem mLw (0, z) 679 (z_LL i) [z_i x, z_i (z_dthin A H).1] (z_shs, w2) Q) (um_thin _ _ _ z_shs_is jc.1.1 jc.1.2.2.2.1 jc.tbt jm1 (fun w2 j2 f2 => ?_)) (fun x w2 h => h)
  show z_Sem mLw (0, z) 679 (z_LL i) [z_i (z_dthin A H).1, z_i (z_dthin A H).1] (z_shs, w2) Q
  refine z_icmp_eq (tgt := 1905) dL_law_679 (by decide) (fun _ => ?_) (fun c => absurd rfl c)
  exact kk w2 (z_Jfin j1 j2 f2 hX1 hn1)
theorem z_case16 (hw : z_J X n w) (hi : 0 ≤ i ∧ i + 6 ≤ n ∧ n ≤ 3072) (hR : ∀ j : Int, z_R (X j)) (hz : z ≤ 7302250) (kk : ∀ w', z_J X n w' → z_Sem mLw (0, z) 1905 (z_LL i) [] (z_shs, w') Q) : z_Sem mLw (0, z) 684 (z_LL i) [] (z_shs, w) Q := by
  obtain ⟨A, H, T, er, s, jc, jm, hX, hn⟩ := hw
  refine z_aload_n 2 dL_law_684 rfl rfl ?_
  refine z_callV (As := []) (rest := []) zmX8_pinAll znX8_pinAll zsX8_pinAll (show vwCl[8]? = some (RX8, TX8, 9) from rfl) zlRL_82 ⟨Nat.le_of_ble_eq_true rfl, Nat.le_of_ble_eq_true rfl⟩ dL_law_685 z_shs_TG.1 rfl rfl z_a0 (Nat.le_of_ble_eq_true rfl) (Nat.le_of_ble_eq_true rfl) ⟨by show z_shs.length + 0 ≤ 0 + 177; rw [z_shs_len]; decide, hz⟩ ?_
  refine z_CIm (K := fun x w1 => z_Sem mLw (0, z) 688 (z_LL i) [z_i x] (z_shs, w1) Q) (uc_pinAll _ _ _ z_shs_TG jc (fun w1 j1 f1 => ?_)) (fun x w1 h => h)
  have hX1 : w1 1000 = X := (f1 1000 (by decide)).trans hX
  have hn1 : w1 1001 0 = n := by rw [f1 1001 (by decide)]; exact hn
  have jm1 := jm.fr f1
  show z_Sem mLw (0, z) 688 (z_LL i) [z_i (z_dpall A H).1] (z_shs, w1) Q
  refine z_aload_n 1 dL_law_688 rfl rfl ?_
  refine z_callV (As := []) (rest := [z_i (z_dpall A H).1]) zmX9_pinAll znX9_pinAll zsX9_pinAll (show vwCl[9]? = some (RX9, TX9, 29) from rfl) zlRL_85 ⟨Nat.le_of_ble_eq_true rfl, Nat.le_of_ble_eq_true rfl⟩ dL_law_689 z_shs_is.1 rfl rfl z_a0 (Nat.le_of_ble_eq_true rfl) (Nat.le_of_ble_eq_true rfl) ⟨by show z_shs.length + 0 ≤ 0 + 177; rw [z_shs_len]; decide, hz⟩ ?_
  refine z_CIm (K := fun x w2 => z_Sem mLw (0, z) 692 (z_LL i) [z_i x, z_i (z_dpall A H).1] (z_shs, w2) Q) (um_pinAll _ _ _ z_shs_is jc.1.1 jc.1.2.2.2.1 jc.tbt jm1 (fun w2 j2 f2 => ?_)) (fun x w2 h => h)
  show z_Sem mLw (0, z) 692 (z_LL i) [z_i (z_dpall A H).1, z_i (z_dpall A H).1] (z_shs, w2) Q
  refine z_icmp_eq (tgt := 1905) dL_law_692 (by decide) (fun _ => ?_) (fun c => absurd rfl c)
  exact kk w2 (z_Jfin j1 j2 f2 hX1 hn1)
theorem z_case17 (hw : z_J X n w) (hi : 0 ≤ i ∧ i + 6 ≤ n ∧ n ≤ 3072) (hR : ∀ j : Int, z_R (X j)) (hz : z ≤ 7302250) (kk : ∀ w', z_J X n w' → z_Sem mLw (0, z) 1905 (z_LL i) [] (z_shs, w') Q) : z_Sem mLw (0, z) 697 (z_LL i) [] (z_shs, w) Q := by
  obtain ⟨A, H, T, er, s, jc, jm, hX, hn⟩ := hw
  refine z_aload_n 2 dL_law_697 rfl rfl ?_
  refine z_arg dL_law_698 dL_law_699 dL_law_700 dL_law_701 dL_law_702 rfl rfl hX hn (by decide) hi ?_
  refine z_callV (As := [z_i (X (i + 1))]) (rest := []) zmX8_keep znX8_keep zsX8_keep (show vwCl[8]? = some (RX8, TX8, 9) from rfl) zlRL_86 ⟨Nat.le_of_ble_eq_true rfl, Nat.le_of_ble_eq_true rfl⟩ dL_law_703 z_shs_TG.1 rfl rfl (z_ai z_a0) (Nat.le_of_ble_eq_true rfl) (Nat.le_of_ble_eq_true rfl) ⟨by show z_shs.length + 0 ≤ 0 + 177; rw [z_shs_len]; decide, hz⟩ ?_
  refine z_CIm (K := fun x w1 => z_Sem mLw (0, z) 706 (z_LL i) [z_i x] (z_shs, w1) Q) (uc_keep _ _ _ z_shs_TG jc (fun w1 j1 f1 => ?_)) (fun x w1 h => h)
  have hX1 : w1 1000 = X := (f1 1000 (by decide)).trans hX
  have hn1 : w1 1001 0 = n := by rw [f1 1001 (by decide)]; exact hn
  have jm1 := jm.fr f1
  show z_Sem mLw (0, z) 706 (z_LL i) [z_i (if 0 ≤ (X (i + 1)) ∧ (X (i + 1)) ≤ 1 then A 2 0 else -1)] (z_shs, w1) Q
  refine z_aload_n 1 dL_law_706 rfl rfl ?_
  refine z_arg dL_law_707 dL_law_708 dL_law_709 dL_law_710 dL_law_711 rfl rfl hX1 hn1 (by decide) hi ?_
  refine z_callV (As := [z_i (X (i + 1))]) (rest := [z_i (if 0 ≤ (X (i + 1)) ∧ (X (i + 1)) ≤ 1 then A 2 0 else -1)]) zmX9_keep znX9_keep zsX9_keep (show vwCl[9]? = some (RX9, TX9, 29) from rfl) zlRL_89 ⟨Nat.le_of_ble_eq_true rfl, Nat.le_of_ble_eq_true rfl⟩ dL_law_712 z_shs_is.1 rfl rfl (z_ai z_a0) (Nat.le_of_ble_eq_true rfl) (Nat.le_of_ble_eq_true rfl) ⟨by show z_shs.length + 0 ≤ 0 + 177; rw [z_shs_len]; decide, hz⟩ ?_
  refine z_CIm (K := fun x w2 => z_Sem mLw (0, z) 715 (z_LL i) [z_i x, z_i (if 0 ≤ (X (i + 1)) ∧ (X (i + 1)) ≤ 1 then A 2 0 else -1)] (z_shs, w2) Q) (um_keep _ _ _ z_shs_is jc.1.1 jc.1.2.2.2.1 jc.tbt jm1 (fun w2 j2 f2 => ?_)) (fun x w2 h => h)
  show z_Sem mLw (0, z) 715 (z_LL i) [z_i (if 0 ≤ (X (i + 1)) ∧ (X (i + 1)) ≤ 1 then A 2 0 else -1), z_i (if 0 ≤ (X (i + 1)) ∧ (X (i + 1)) ≤ 1 then A 2 0 else -1)] (z_shs, w2) Q
  refine z_icmp_eq (tgt := 1905) dL_law_715 (by decide) (fun _ => ?_) (fun c => absurd rfl c)
  exact kk w2 (z_Jfin j1 j2 f2 hX1 hn1)
theorem z_case18 (hw : z_J X n w) (hi : 0 ≤ i ∧ i + 6 ≤ n ∧ n ≤ 3072) (hR : ∀ j : Int, z_R (X j)) (hz : z ≤ 7302250) (kk : ∀ w', z_J X n w' → z_Sem mLw (0, z) 1905 (z_LL i) [] (z_shs, w') Q) : z_Sem mLw (0, z) 720 (z_LL i) [] (z_shs, w) Q := by
  obtain ⟨A, H, T, er, s, jc, jm, hX, hn⟩ := hw
  refine z_aload_n 2 dL_law_720 rfl rfl ?_
  refine z_arg dL_law_721 dL_law_722 dL_law_723 dL_law_724 dL_law_725 rfl rfl hX hn (by decide) hi ?_
  refine z_callV (As := [z_i (X (i + 1))]) (rest := []) zmX8_restore znX8_restore zsX8_restore (show vwCl[8]? = some (RX8, TX8, 9) from rfl) zlRL_90 ⟨Nat.le_of_ble_eq_true rfl, Nat.le_of_ble_eq_true rfl⟩ dL_law_726 z_shs_TG.1 rfl rfl (z_ai z_a0) (Nat.le_of_ble_eq_true rfl) (Nat.le_of_ble_eq_true rfl) ⟨by show z_shs.length + 0 ≤ 0 + 177; rw [z_shs_len]; decide, hz⟩ ?_
  refine z_CIm (K := fun x w1 => z_Sem mLw (0, z) 729 (z_LL i) [z_i x] (z_shs, w1) Q) (uc_restore _ _ _ z_shs_TG jc (fun w1 j1 f1 => ?_)) (fun x w1 h => h)
  have hX1 : w1 1000 = X := (f1 1000 (by decide)).trans hX
  have hn1 : w1 1001 0 = n := by rw [f1 1001 (by decide)]; exact hn
  have jm1 := jm.fr f1
  show z_Sem mLw (0, z) 729 (z_LL i) [z_i (z_drest A H s (X (i + 1))).1] (z_shs, w1) Q
  refine z_aload_n 1 dL_law_729 rfl rfl ?_
  refine z_arg dL_law_730 dL_law_731 dL_law_732 dL_law_733 dL_law_734 rfl rfl hX1 hn1 (by decide) hi ?_
  refine z_callV (As := [z_i (X (i + 1))]) (rest := [z_i (z_drest A H s (X (i + 1))).1]) zmX9_restore znX9_restore zsX9_restore (show vwCl[9]? = some (RX9, TX9, 29) from rfl) zlRL_93 ⟨Nat.le_of_ble_eq_true rfl, Nat.le_of_ble_eq_true rfl⟩ dL_law_735 z_shs_is.1 rfl rfl (z_ai z_a0) (Nat.le_of_ble_eq_true rfl) (Nat.le_of_ble_eq_true rfl) ⟨by show z_shs.length + 0 ≤ 0 + 177; rw [z_shs_len]; decide, hz⟩ ?_
  refine z_CIm (K := fun x w2 => z_Sem mLw (0, z) 738 (z_LL i) [z_i x, z_i (z_drest A H s (X (i + 1))).1] (z_shs, w2) Q) (um_restore _ _ _ z_shs_is jc.1.1 jc.1.2.2.2.1 jc.tbt jm1 (fun w2 j2 f2 => ?_)) (fun x w2 h => h)
  show z_Sem mLw (0, z) 738 (z_LL i) [z_i (z_drest A H s (X (i + 1))).1, z_i (z_drest A H s (X (i + 1))).1] (z_shs, w2) Q
  refine z_icmp_eq (tgt := 1905) dL_law_738 (by decide) (fun _ => ?_) (fun c => absurd rfl c)
  exact kk w2 (z_Jfin j1 j2 f2 hX1 hn1)
theorem z_case19 (hw : z_J X n w) (hi : 0 ≤ i ∧ i + 6 ≤ n ∧ n ≤ 3072) (hR : ∀ j : Int, z_R (X j)) (hz : z ≤ 7302250) (kk : ∀ w', z_J X n w' → z_Sem mLw (0, z) 1905 (z_LL i) [] (z_shs, w') Q) : z_Sem mLw (0, z) 743 (z_LL i) [] (z_shs, w) Q := by
  obtain ⟨A, H, T, er, s, jc, jm, hX, hn⟩ := hw
  refine z_aload_n 2 dL_law_743 rfl rfl ?_
  refine z_callV (As := []) (rest := []) zmX8_undo znX8_undo zsX8_undo (show vwCl[8]? = some (RX8, TX8, 9) from rfl) zlRL_94 ⟨Nat.le_of_ble_eq_true rfl, Nat.le_of_ble_eq_true rfl⟩ dL_law_744 z_shs_TG.1 rfl rfl z_a0 (Nat.le_of_ble_eq_true rfl) (Nat.le_of_ble_eq_true rfl) ⟨by show z_shs.length + 0 ≤ 0 + 177; rw [z_shs_len]; decide, hz⟩ ?_
  refine z_CIm (K := fun x w1 => z_Sem mLw (0, z) 747 (z_LL i) [z_i x] (z_shs, w1) Q) (uc_undo _ _ _ z_shs_TG jc (fun w1 j1 f1 => ?_)) (fun x w1 h => h)
  have hX1 : w1 1000 = X := (f1 1000 (by decide)).trans hX
  have hn1 : w1 1001 0 = n := by rw [f1 1001 (by decide)]; exact hn
  have jm1 := jm.fr f1
  show z_Sem mLw (0, z) 747 (z_LL i) [z_i (z_dundo A H).1] (z_shs, w1) Q
  refine z_aload_n 1 dL_law_747 rfl rfl ?_
  refine z_callV (As := []) (rest := [z_i (z_dundo A H).1]) zmX9_undo znX9_undo zsX9_undo (show vwCl[9]? = some (RX9, TX9, 29) from rfl) zlRL_97 ⟨Nat.le_of_ble_eq_true rfl, Nat.le_of_ble_eq_true rfl⟩ dL_law_748 z_shs_is.1 rfl rfl z_a0 (Nat.le_of_ble_eq_true rfl) (Nat.le_of_ble_eq_true rfl) ⟨by show z_shs.length + 0 ≤ 0 + 177; rw [z_shs_len]; decide, hz⟩ ?_
  refine z_CIm (K := fun x w2 => z_Sem mLw (0, z) 751 (z_LL i) [z_i x, z_i (z_dundo A H).1] (z_shs, w2) Q) (um_undo _ _ _ z_shs_is jc.1.1 jc.1.2.2.2.1 jc.tbt jm1 (fun w2 j2 f2 => ?_)) (fun x w2 h => h)
  show z_Sem mLw (0, z) 751 (z_LL i) [z_i (z_dundo A H).1, z_i (z_dundo A H).1] (z_shs, w2) Q
  refine z_icmp_eq (tgt := 1905) dL_law_751 (by decide) (fun _ => ?_) (fun c => absurd rfl c)
  exact kk w2 (z_Jfin j1 j2 f2 hX1 hn1)
theorem z_case20 (hw : z_J X n w) (hi : 0 ≤ i ∧ i + 6 ≤ n ∧ n ≤ 3072) (hR : ∀ j : Int, z_R (X j)) (hz : z ≤ 7302250) (kk : ∀ w', z_J X n w' → z_Sem mLw (0, z) 1905 (z_LL i) [] (z_shs, w') Q) : z_Sem mLw (0, z) 756 (z_LL i) [] (z_shs, w) Q := by
  obtain ⟨A, H, T, er, s, jc, jm, hX, hn⟩ := hw
  refine z_aload_n 2 dL_law_756 rfl rfl ?_
  refine z_arg dL_law_757 dL_law_758 dL_law_759 dL_law_760 dL_law_761 rfl rfl hX hn (by decide) hi ?_
  refine z_callV (As := [z_i (X (i + 1))]) (rest := []) zmX8_value znX8_value zsX8_value (show vwCl[8]? = some (RX8, TX8, 9) from rfl) zlRL_98 ⟨Nat.le_of_ble_eq_true rfl, Nat.le_of_ble_eq_true rfl⟩ dL_law_762 z_shs_TG.1 rfl rfl (z_ai z_a0) (Nat.le_of_ble_eq_true rfl) (Nat.le_of_ble_eq_true rfl) ⟨by show z_shs.length + 0 ≤ 0 + 177; rw [z_shs_len]; decide, hz⟩ ?_
  refine z_CIm (K := fun x w1 => z_Sem mLw (0, z) 765 (z_LL i) [z_i x] (z_shs, w1) Q) (uc_value _ _ _ z_shs_TG jc (fun w1 j1 f1 => ?_)) (fun x w1 h => h)
  have hX1 : w1 1000 = X := (f1 1000 (by decide)).trans hX
  have hn1 : w1 1001 0 = n := by rw [f1 1001 (by decide)]; exact hn
  have jm1 := jm.fr f1
  show z_Sem mLw (0, z) 765 (z_LL i) [z_i (z_qv A H (X (i + 1)))] (z_shs, w1) Q
  refine z_aload_n 1 dL_law_765 rfl rfl ?_
  refine z_arg dL_law_766 dL_law_767 dL_law_768 dL_law_769 dL_law_770 rfl rfl hX1 hn1 (by decide) hi ?_
  refine z_callV (As := [z_i (X (i + 1))]) (rest := [z_i (z_qv A H (X (i + 1)))]) zmX9_value znX9_value zsX9_value (show vwCl[9]? = some (RX9, TX9, 29) from rfl) zlRL_101 ⟨Nat.le_of_ble_eq_true rfl, Nat.le_of_ble_eq_true rfl⟩ dL_law_771 z_shs_is.1 rfl rfl (z_ai z_a0) (Nat.le_of_ble_eq_true rfl) (Nat.le_of_ble_eq_true rfl) ⟨by show z_shs.length + 0 ≤ 0 + 177; rw [z_shs_len]; decide, hz⟩ ?_
  refine z_CIm (K := fun x w2 => z_Sem mLw (0, z) 774 (z_LL i) [z_i x, z_i (z_qv A H (X (i + 1)))] (z_shs, w2) Q) (um_value _ _ _ z_shs_is jc.1.1 jc.1.2.2.2.1 jc.tbt jm1 (fun w2 j2 f2 => ?_)) (fun x w2 h => h)
  show z_Sem mLw (0, z) 774 (z_LL i) [z_i (z_qv A H (X (i + 1))), z_i (z_qv A H (X (i + 1)))] (z_shs, w2) Q
  refine z_icmp_eq (tgt := 1905) dL_law_774 (by decide) (fun _ => ?_) (fun c => absurd rfl c)
  exact kk w2 (z_Jfin j1 j2 f2 hX1 hn1)
theorem z_case21 (hw : z_J X n w) (hi : 0 ≤ i ∧ i + 6 ≤ n ∧ n ≤ 3072) (hR : ∀ j : Int, z_R (X j)) (hz : z ≤ 7302250) (kk : ∀ w', z_J X n w' → z_Sem mLw (0, z) 1905 (z_LL i) [] (z_shs, w') Q) : z_Sem mLw (0, z) 779 (z_LL i) [] (z_shs, w) Q := by
  obtain ⟨A, H, T, er, s, jc, jm, hX, hn⟩ := hw
  refine z_aload_n 2 dL_law_779 rfl rfl ?_
  refine z_arg dL_law_780 dL_law_781 dL_law_782 dL_law_783 dL_law_784 rfl rfl hX hn (by decide) hi ?_
  refine z_arg dL_law_785 dL_law_786 dL_law_787 dL_law_788 dL_law_789 rfl rfl hX hn (by decide) hi ?_
  refine z_callV (As := [z_i (X (i + 1)), z_i (X (i + 2))]) (rest := []) zmX8_letter znX8_letter zsX8_letter (show vwCl[8]? = some (RX8, TX8, 9) from rfl) zlRL_102 ⟨Nat.le_of_ble_eq_true rfl, Nat.le_of_ble_eq_true rfl⟩ dL_law_790 z_shs_TG.1 rfl rfl (z_ai (z_ai z_a0)) (Nat.le_of_ble_eq_true rfl) (Nat.le_of_ble_eq_true rfl) ⟨by show z_shs.length + 0 ≤ 0 + 177; rw [z_shs_len]; decide, hz⟩ ?_
  refine z_CIm (K := fun x w1 => z_Sem mLw (0, z) 793 (z_LL i) [z_i x] (z_shs, w1) Q) (uc_letter _ _ _ z_shs_TG jc (fun w1 j1 f1 => ?_)) (fun x w1 h => h)
  have hX1 : w1 1000 = X := (f1 1000 (by decide)).trans hX
  have hn1 : w1 1001 0 = n := by rw [f1 1001 (by decide)]; exact hn
  have jm1 := jm.fr f1
  show z_Sem mLw (0, z) 793 (z_LL i) [z_i (z_qle A (X (i + 1)) (X (i + 2)))] (z_shs, w1) Q
  refine z_aload_n 1 dL_law_793 rfl rfl ?_
  refine z_arg dL_law_794 dL_law_795 dL_law_796 dL_law_797 dL_law_798 rfl rfl hX1 hn1 (by decide) hi ?_
  refine z_arg dL_law_799 dL_law_800 dL_law_801 dL_law_802 dL_law_803 rfl rfl hX1 hn1 (by decide) hi ?_
  refine z_callV (As := [z_i (X (i + 1)), z_i (X (i + 2))]) (rest := [z_i (z_qle A (X (i + 1)) (X (i + 2)))]) zmX9_letter znX9_letter zsX9_letter (show vwCl[9]? = some (RX9, TX9, 29) from rfl) zlRL_105 ⟨Nat.le_of_ble_eq_true rfl, Nat.le_of_ble_eq_true rfl⟩ dL_law_804 z_shs_is.1 rfl rfl (z_ai (z_ai z_a0)) (Nat.le_of_ble_eq_true rfl) (Nat.le_of_ble_eq_true rfl) ⟨by show z_shs.length + 0 ≤ 0 + 177; rw [z_shs_len]; decide, hz⟩ ?_
  refine z_CIm (K := fun x w2 => z_Sem mLw (0, z) 807 (z_LL i) [z_i x, z_i (z_qle A (X (i + 1)) (X (i + 2)))] (z_shs, w2) Q) (um_letter _ _ _ z_shs_is jc.1.1 jc.1.2.2.2.1 jc.tbt jm1 (fun w2 j2 f2 => ?_)) (fun x w2 h => h)
  show z_Sem mLw (0, z) 807 (z_LL i) [z_i (z_qle A (X (i + 1)) (X (i + 2))), z_i (z_qle A (X (i + 1)) (X (i + 2)))] (z_shs, w2) Q
  refine z_icmp_eq (tgt := 1905) dL_law_807 (by decide) (fun _ => ?_) (fun c => absurd rfl c)
  exact kk w2 (z_Jfin j1 j2 f2 hX1 hn1)
theorem z_case22 (hw : z_J X n w) (hi : 0 ≤ i ∧ i + 6 ≤ n ∧ n ≤ 3072) (hR : ∀ j : Int, z_R (X j)) (hz : z ≤ 7302250) (kk : ∀ w', z_J X n w' → z_Sem mLw (0, z) 1905 (z_LL i) [] (z_shs, w') Q) : z_Sem mLw (0, z) 812 (z_LL i) [] (z_shs, w) Q := by
  obtain ⟨A, H, T, er, s, jc, jm, hX, hn⟩ := hw
  refine z_aload_n 2 dL_law_812 rfl rfl ?_
  refine z_arg dL_law_813 dL_law_814 dL_law_815 dL_law_816 dL_law_817 rfl rfl hX hn (by decide) hi ?_
  refine z_arg dL_law_818 dL_law_819 dL_law_820 dL_law_821 dL_law_822 rfl rfl hX hn (by decide) hi ?_
  refine z_callV (As := [z_i (X (i + 1)), z_i (X (i + 2))]) (rest := []) zmX8_gap znX8_gap zsX8_gap (show vwCl[8]? = some (RX8, TX8, 9) from rfl) zlRL_106 ⟨Nat.le_of_ble_eq_true rfl, Nat.le_of_ble_eq_true rfl⟩ dL_law_823 z_shs_TG.1 rfl rfl (z_ai (z_ai z_a0)) (Nat.le_of_ble_eq_true rfl) (Nat.le_of_ble_eq_true rfl) ⟨by show z_shs.length + 0 ≤ 0 + 177; rw [z_shs_len]; decide, hz⟩ ?_
  refine z_CIm (K := fun x w1 => z_Sem mLw (0, z) 826 (z_LL i) [z_i x] (z_shs, w1) Q) (uc_gap _ _ _ z_shs_TG jc (fun w1 j1 f1 => ?_)) (fun x w1 h => h)
  have hX1 : w1 1000 = X := (f1 1000 (by decide)).trans hX
  have hn1 : w1 1001 0 = n := by rw [f1 1001 (by decide)]; exact hn
  have jm1 := jm.fr f1
  show z_Sem mLw (0, z) 826 (z_LL i) [z_i (z_qg A (X (i + 1)) (X (i + 2)))] (z_shs, w1) Q
  refine z_aload_n 1 dL_law_826 rfl rfl ?_
  refine z_arg dL_law_827 dL_law_828 dL_law_829 dL_law_830 dL_law_831 rfl rfl hX1 hn1 (by decide) hi ?_
  refine z_arg dL_law_832 dL_law_833 dL_law_834 dL_law_835 dL_law_836 rfl rfl hX1 hn1 (by decide) hi ?_
  refine z_callV (As := [z_i (X (i + 1)), z_i (X (i + 2))]) (rest := [z_i (z_qg A (X (i + 1)) (X (i + 2)))]) zmX9_gap znX9_gap zsX9_gap (show vwCl[9]? = some (RX9, TX9, 29) from rfl) zlRL_109 ⟨Nat.le_of_ble_eq_true rfl, Nat.le_of_ble_eq_true rfl⟩ dL_law_837 z_shs_is.1 rfl rfl (z_ai (z_ai z_a0)) (Nat.le_of_ble_eq_true rfl) (Nat.le_of_ble_eq_true rfl) ⟨by show z_shs.length + 0 ≤ 0 + 177; rw [z_shs_len]; decide, hz⟩ ?_
  refine z_CIm (K := fun x w2 => z_Sem mLw (0, z) 840 (z_LL i) [z_i x, z_i (z_qg A (X (i + 1)) (X (i + 2)))] (z_shs, w2) Q) (um_gap _ _ _ z_shs_is jc.1.1 jc.1.2.2.2.1 jc.tbt jm1 (fun w2 j2 f2 => ?_)) (fun x w2 h => h)
  show z_Sem mLw (0, z) 840 (z_LL i) [z_i (z_qg A (X (i + 1)) (X (i + 2))), z_i (z_qg A (X (i + 1)) (X (i + 2)))] (z_shs, w2) Q
  refine z_icmp_eq (tgt := 1905) dL_law_840 (by decide) (fun _ => ?_) (fun c => absurd rfl c)
  exact kk w2 (z_Jfin j1 j2 f2 hX1 hn1)
theorem z_case23 (hw : z_J X n w) (hi : 0 ≤ i ∧ i + 6 ≤ n ∧ n ≤ 3072) (hR : ∀ j : Int, z_R (X j)) (hz : z ≤ 7302250) (kk : ∀ w', z_J X n w' → z_Sem mLw (0, z) 1905 (z_LL i) [] (z_shs, w') Q) : z_Sem mLw (0, z) 845 (z_LL i) [] (z_shs, w) Q := by
  obtain ⟨A, H, T, er, s, jc, jm, hX, hn⟩ := hw
  refine z_aload_n 2 dL_law_845 rfl rfl ?_
  refine z_arg dL_law_846 dL_law_847 dL_law_848 dL_law_849 dL_law_850 rfl rfl hX hn (by decide) hi ?_
  refine z_arg dL_law_851 dL_law_852 dL_law_853 dL_law_854 dL_law_855 rfl rfl hX hn (by decide) hi ?_
  refine z_callV (As := [z_i (X (i + 1)), z_i (X (i + 2))]) (rest := []) zmX8_event znX8_event zsX8_event (show vwCl[8]? = some (RX8, TX8, 9) from rfl) zlRL_110 ⟨Nat.le_of_ble_eq_true rfl, Nat.le_of_ble_eq_true rfl⟩ dL_law_856 z_shs_TG.1 rfl rfl (z_ai (z_ai z_a0)) (Nat.le_of_ble_eq_true rfl) (Nat.le_of_ble_eq_true rfl) ⟨by show z_shs.length + 0 ≤ 0 + 177; rw [z_shs_len]; decide, hz⟩ ?_
  refine z_CIm (K := fun x w1 => z_Sem mLw (0, z) 859 (z_LL i) [z_i x] (z_shs, w1) Q) (uc_event _ _ _ z_shs_TG jc (fun w1 j1 f1 => ?_)) (fun x w1 h => h)
  have hX1 : w1 1000 = X := (f1 1000 (by decide)).trans hX
  have hn1 : w1 1001 0 = n := by rw [f1 1001 (by decide)]; exact hn
  have jm1 := jm.fr f1
  show z_Sem mLw (0, z) 859 (z_LL i) [z_i (z_qe A (X (i + 1)) (X (i + 2)))] (z_shs, w1) Q
  refine z_aload_n 1 dL_law_859 rfl rfl ?_
  refine z_arg dL_law_860 dL_law_861 dL_law_862 dL_law_863 dL_law_864 rfl rfl hX1 hn1 (by decide) hi ?_
  refine z_arg dL_law_865 dL_law_866 dL_law_867 dL_law_868 dL_law_869 rfl rfl hX1 hn1 (by decide) hi ?_
  refine z_callV (As := [z_i (X (i + 1)), z_i (X (i + 2))]) (rest := [z_i (z_qe A (X (i + 1)) (X (i + 2)))]) zmX9_event znX9_event zsX9_event (show vwCl[9]? = some (RX9, TX9, 29) from rfl) zlRL_113 ⟨Nat.le_of_ble_eq_true rfl, Nat.le_of_ble_eq_true rfl⟩ dL_law_870 z_shs_is.1 rfl rfl (z_ai (z_ai z_a0)) (Nat.le_of_ble_eq_true rfl) (Nat.le_of_ble_eq_true rfl) ⟨by show z_shs.length + 0 ≤ 0 + 177; rw [z_shs_len]; decide, hz⟩ ?_
  refine z_CIm (K := fun x w2 => z_Sem mLw (0, z) 873 (z_LL i) [z_i x, z_i (z_qe A (X (i + 1)) (X (i + 2)))] (z_shs, w2) Q) (um_event _ _ _ z_shs_is jc.1.1 jc.1.2.2.2.1 jc.tbt jm1 (fun w2 j2 f2 => ?_)) (fun x w2 h => h)
  show z_Sem mLw (0, z) 873 (z_LL i) [z_i (z_qe A (X (i + 1)) (X (i + 2))), z_i (z_qe A (X (i + 1)) (X (i + 2)))] (z_shs, w2) Q
  refine z_icmp_eq (tgt := 1905) dL_law_873 (by decide) (fun _ => ?_) (fun c => absurd rfl c)
  exact kk w2 (z_Jfin j1 j2 f2 hX1 hn1)
theorem z_case24 (hw : z_J X n w) (hi : 0 ≤ i ∧ i + 6 ≤ n ∧ n ≤ 3072) (hR : ∀ j : Int, z_R (X j)) (hz : z ≤ 7302250) (kk : ∀ w', z_J X n w' → z_Sem mLw (0, z) 1905 (z_LL i) [] (z_shs, w') Q) : z_Sem mLw (0, z) 878 (z_LL i) [] (z_shs, w) Q := by
  obtain ⟨A, H, T, er, s, jc, jm, hX, hn⟩ := hw
  refine z_aload_n 2 dL_law_878 rfl rfl ?_
  refine z_arg dL_law_879 dL_law_880 dL_law_881 dL_law_882 dL_law_883 rfl rfl hX hn (by decide) hi ?_
  refine z_arg dL_law_884 dL_law_885 dL_law_886 dL_law_887 dL_law_888 rfl rfl hX hn (by decide) hi ?_
  refine z_callV (As := [z_i (X (i + 1)), z_i (X (i + 2))]) (rest := []) zmX8_bound znX8_bound zsX8_bound (show vwCl[8]? = some (RX8, TX8, 9) from rfl) zlRL_114 ⟨Nat.le_of_ble_eq_true rfl, Nat.le_of_ble_eq_true rfl⟩ dL_law_889 z_shs_TG.1 rfl rfl (z_ai (z_ai z_a0)) (Nat.le_of_ble_eq_true rfl) (Nat.le_of_ble_eq_true rfl) ⟨by show z_shs.length + 0 ≤ 0 + 177; rw [z_shs_len]; decide, hz⟩ ?_
  refine z_CIm (K := fun x w1 => z_Sem mLw (0, z) 892 (z_LL i) [z_i x] (z_shs, w1) Q) (uc_bound _ _ _ z_shs_TG jc (fun w1 j1 f1 => ?_)) (fun x w1 h => h)
  have hX1 : w1 1000 = X := (f1 1000 (by decide)).trans hX
  have hn1 : w1 1001 0 = n := by rw [f1 1001 (by decide)]; exact hn
  have jm1 := jm.fr f1
  show z_Sem mLw (0, z) 892 (z_LL i) [z_i (z_qb A (X (i + 1)) (X (i + 2)))] (z_shs, w1) Q
  refine z_aload_n 1 dL_law_892 rfl rfl ?_
  refine z_arg dL_law_893 dL_law_894 dL_law_895 dL_law_896 dL_law_897 rfl rfl hX1 hn1 (by decide) hi ?_
  refine z_arg dL_law_898 dL_law_899 dL_law_900 dL_law_901 dL_law_902 rfl rfl hX1 hn1 (by decide) hi ?_
  refine z_callV (As := [z_i (X (i + 1)), z_i (X (i + 2))]) (rest := [z_i (z_qb A (X (i + 1)) (X (i + 2)))]) zmX9_bound znX9_bound zsX9_bound (show vwCl[9]? = some (RX9, TX9, 29) from rfl) zlRL_117 ⟨Nat.le_of_ble_eq_true rfl, Nat.le_of_ble_eq_true rfl⟩ dL_law_903 z_shs_is.1 rfl rfl (z_ai (z_ai z_a0)) (Nat.le_of_ble_eq_true rfl) (Nat.le_of_ble_eq_true rfl) ⟨by show z_shs.length + 0 ≤ 0 + 177; rw [z_shs_len]; decide, hz⟩ ?_
  refine z_CIm (K := fun x w2 => z_Sem mLw (0, z) 906 (z_LL i) [z_i x, z_i (z_qb A (X (i + 1)) (X (i + 2)))] (z_shs, w2) Q) (um_bound _ _ _ z_shs_is jc.1.1 jc.1.2.2.2.1 jc.tbt jm1 (fun w2 j2 f2 => ?_)) (fun x w2 h => h)
  show z_Sem mLw (0, z) 906 (z_LL i) [z_i (z_qb A (X (i + 1)) (X (i + 2))), z_i (z_qb A (X (i + 1)) (X (i + 2)))] (z_shs, w2) Q
  refine z_icmp_eq (tgt := 1905) dL_law_906 (by decide) (fun _ => ?_) (fun c => absurd rfl c)
  exact kk w2 (z_Jfin j1 j2 f2 hX1 hn1)
theorem z_case25 (hw : z_J X n w) (hi : 0 ≤ i ∧ i + 6 ≤ n ∧ n ≤ 3072) (hR : ∀ j : Int, z_R (X j)) (hz : z ≤ 7302250) (kk : ∀ w', z_J X n w' → z_Sem mLw (0, z) 1905 (z_LL i) [] (z_shs, w') Q) : z_Sem mLw (0, z) 911 (z_LL i) [] (z_shs, w) Q := by
  obtain ⟨A, H, T, er, s, jc, jm, hX, hn⟩ := hw
  refine z_aload_n 2 dL_law_911 rfl rfl ?_
  refine z_arg dL_law_912 dL_law_913 dL_law_914 dL_law_915 dL_law_916 rfl rfl hX hn (by decide) hi ?_
  refine z_arg dL_law_917 dL_law_918 dL_law_919 dL_law_920 dL_law_921 rfl rfl hX hn (by decide) hi ?_
  refine z_arg dL_law_922 dL_law_923 dL_law_924 dL_law_925 dL_law_926 rfl rfl hX hn (by decide) hi ?_
  refine z_callV (As := [z_i (X (i + 1)), z_i (X (i + 2)), z_i (X (i + 3))]) (rest := []) zmX8_way znX8_way zsX8_way (show vwCl[8]? = some (RX8, TX8, 9) from rfl) zlRL_118 ⟨Nat.le_of_ble_eq_true rfl, Nat.le_of_ble_eq_true rfl⟩ dL_law_927 z_shs_TG.1 rfl rfl (z_ai (z_ai (z_ai z_a0))) (Nat.le_of_ble_eq_true rfl) (Nat.le_of_ble_eq_true rfl) ⟨by show z_shs.length + 0 ≤ 0 + 177; rw [z_shs_len]; decide, hz⟩ ?_
  refine z_CIm (K := fun x w1 => z_Sem mLw (0, z) 930 (z_LL i) [z_i x] (z_shs, w1) Q) (uc_way _ _ _ z_shs_TG jc (fun w1 j1 f1 => ?_)) (fun x w1 h => h)
  have hX1 : w1 1000 = X := (f1 1000 (by decide)).trans hX
  have hn1 : w1 1001 0 = n := by rw [f1 1001 (by decide)]; exact hn
  have jm1 := jm.fr f1
  show z_Sem mLw (0, z) 930 (z_LL i) [z_i (z_qwy A (X (i + 1)) (X (i + 2)) (X (i + 3)))] (z_shs, w1) Q
  refine z_aload_n 1 dL_law_930 rfl rfl ?_
  refine z_arg dL_law_931 dL_law_932 dL_law_933 dL_law_934 dL_law_935 rfl rfl hX1 hn1 (by decide) hi ?_
  refine z_arg dL_law_936 dL_law_937 dL_law_938 dL_law_939 dL_law_940 rfl rfl hX1 hn1 (by decide) hi ?_
  refine z_arg dL_law_941 dL_law_942 dL_law_943 dL_law_944 dL_law_945 rfl rfl hX1 hn1 (by decide) hi ?_
  refine z_callV (As := [z_i (X (i + 1)), z_i (X (i + 2)), z_i (X (i + 3))]) (rest := [z_i (z_qwy A (X (i + 1)) (X (i + 2)) (X (i + 3)))]) zmX9_way znX9_way zsX9_way (show vwCl[9]? = some (RX9, TX9, 29) from rfl) zlRL_122 ⟨Nat.le_of_ble_eq_true rfl, Nat.le_of_ble_eq_true rfl⟩ dL_law_946 z_shs_is.1 rfl rfl (z_ai (z_ai (z_ai z_a0))) (Nat.le_of_ble_eq_true rfl) (Nat.le_of_ble_eq_true rfl) ⟨by show z_shs.length + 0 ≤ 0 + 177; rw [z_shs_len]; decide, hz⟩ ?_
  refine z_CIm (K := fun x w2 => z_Sem mLw (0, z) 949 (z_LL i) [z_i x, z_i (z_qwy A (X (i + 1)) (X (i + 2)) (X (i + 3)))] (z_shs, w2) Q) (um_way _ _ _ z_shs_is jc.1.1 jc.1.2.2.2.1 jc.tbt jm1 (fun w2 j2 f2 => ?_)) (fun x w2 h => h)
  show z_Sem mLw (0, z) 949 (z_LL i) [z_i (z_qwy A (X (i + 1)) (X (i + 2)) (X (i + 3))), z_i (z_qwy A (X (i + 1)) (X (i + 2)) (X (i + 3)))] (z_shs, w2) Q
  refine z_icmp_eq (tgt := 1905) dL_law_949 (by decide) (fun _ => ?_) (fun c => absurd rfl c)
  exact kk w2 (z_Jfin j1 j2 f2 hX1 hn1)
theorem z_case26 (hw : z_J X n w) (hi : 0 ≤ i ∧ i + 6 ≤ n ∧ n ≤ 3072) (hR : ∀ j : Int, z_R (X j)) (hz : z ≤ 7302250) (kk : ∀ w', z_J X n w' → z_Sem mLw (0, z) 1905 (z_LL i) [] (z_shs, w') Q) : z_Sem mLw (0, z) 954 (z_LL i) [] (z_shs, w) Q := by
  obtain ⟨A, H, T, er, s, jc, jm, hX, hn⟩ := hw
  refine z_aload_n 2 dL_law_954 rfl rfl ?_
  refine z_arg dL_law_955 dL_law_956 dL_law_957 dL_law_958 dL_law_959 rfl rfl hX hn (by decide) hi ?_
  refine z_arg dL_law_960 dL_law_961 dL_law_962 dL_law_963 dL_law_964 rfl rfl hX hn (by decide) hi ?_
  refine z_callV (As := [z_i (X (i + 1)), z_i (X (i + 2))]) (rest := []) zmX8_wayLength znX8_wayLength zsX8_wayLength (show vwCl[8]? = some (RX8, TX8, 9) from rfl) zlRL_123 ⟨Nat.le_of_ble_eq_true rfl, Nat.le_of_ble_eq_true rfl⟩ dL_law_965 z_shs_TG.1 rfl rfl (z_ai (z_ai z_a0)) (Nat.le_of_ble_eq_true rfl) (Nat.le_of_ble_eq_true rfl) ⟨by show z_shs.length + 0 ≤ 0 + 177; rw [z_shs_len]; decide, hz⟩ ?_
  refine z_CIm (K := fun x w1 => z_Sem mLw (0, z) 968 (z_LL i) [z_i x] (z_shs, w1) Q) (uc_wayLength _ _ _ z_shs_TG jc (fun w1 j1 f1 => ?_)) (fun x w1 h => h)
  have hX1 : w1 1000 = X := (f1 1000 (by decide)).trans hX
  have hn1 : w1 1001 0 = n := by rw [f1 1001 (by decide)]; exact hn
  have jm1 := jm.fr f1
  show z_Sem mLw (0, z) 968 (z_LL i) [z_i (z_qwl A (X (i + 1)) (X (i + 2)))] (z_shs, w1) Q
  refine z_aload_n 1 dL_law_968 rfl rfl ?_
  refine z_arg dL_law_969 dL_law_970 dL_law_971 dL_law_972 dL_law_973 rfl rfl hX1 hn1 (by decide) hi ?_
  refine z_arg dL_law_974 dL_law_975 dL_law_976 dL_law_977 dL_law_978 rfl rfl hX1 hn1 (by decide) hi ?_
  refine z_callV (As := [z_i (X (i + 1)), z_i (X (i + 2))]) (rest := [z_i (z_qwl A (X (i + 1)) (X (i + 2)))]) zmX9_wayLength znX9_wayLength zsX9_wayLength (show vwCl[9]? = some (RX9, TX9, 29) from rfl) zlRL_126 ⟨Nat.le_of_ble_eq_true rfl, Nat.le_of_ble_eq_true rfl⟩ dL_law_979 z_shs_is.1 rfl rfl (z_ai (z_ai z_a0)) (Nat.le_of_ble_eq_true rfl) (Nat.le_of_ble_eq_true rfl) ⟨by show z_shs.length + 0 ≤ 0 + 177; rw [z_shs_len]; decide, hz⟩ ?_
  refine z_CIm (K := fun x w2 => z_Sem mLw (0, z) 982 (z_LL i) [z_i x, z_i (z_qwl A (X (i + 1)) (X (i + 2)))] (z_shs, w2) Q) (um_wayLength _ _ _ z_shs_is jc.1.1 jc.1.2.2.2.1 jc.tbt jm1 (fun w2 j2 f2 => ?_)) (fun x w2 h => h)
  show z_Sem mLw (0, z) 982 (z_LL i) [z_i (z_qwl A (X (i + 1)) (X (i + 2))), z_i (z_qwl A (X (i + 1)) (X (i + 2)))] (z_shs, w2) Q
  refine z_icmp_eq (tgt := 1905) dL_law_982 (by decide) (fun _ => ?_) (fun c => absurd rfl c)
  exact kk w2 (z_Jfin j1 j2 f2 hX1 hn1)
theorem z_case27 (hw : z_J X n w) (hi : 0 ≤ i ∧ i + 6 ≤ n ∧ n ≤ 3072) (hR : ∀ j : Int, z_R (X j)) (hz : z ≤ 7302250) (kk : ∀ w', z_J X n w' → z_Sem mLw (0, z) 1905 (z_LL i) [] (z_shs, w') Q) : z_Sem mLw (0, z) 987 (z_LL i) [] (z_shs, w) Q := by
  obtain ⟨A, H, T, er, s, jc, jm, hX, hn⟩ := hw
  refine z_aload_n 2 dL_law_987 rfl rfl ?_
  refine z_arg dL_law_988 dL_law_989 dL_law_990 dL_law_991 dL_law_992 rfl rfl hX hn (by decide) hi ?_
  refine z_arg dL_law_993 dL_law_994 dL_law_995 dL_law_996 dL_law_997 rfl rfl hX hn (by decide) hi ?_
  refine z_callV (As := [z_i (X (i + 1)), z_i (X (i + 2))]) (rest := []) zmX8_relation znX8_relation zsX8_relation (show vwCl[8]? = some (RX8, TX8, 9) from rfl) zlRL_127 ⟨Nat.le_of_ble_eq_true rfl, Nat.le_of_ble_eq_true rfl⟩ dL_law_998 z_shs_TG.1 rfl rfl (z_ai (z_ai z_a0)) (Nat.le_of_ble_eq_true rfl) (Nat.le_of_ble_eq_true rfl) ⟨by show z_shs.length + 0 ≤ 0 + 177; rw [z_shs_len]; decide, hz⟩ ?_
  refine z_CIm (K := fun x w1 => z_Sem mLw (0, z) 1001 (z_LL i) [z_i x] (z_shs, w1) Q) (uc_relation _ _ _ z_shs_TG jc (fun w1 j1 f1 => ?_)) (fun x w1 h => h)
  have hX1 : w1 1000 = X := (f1 1000 (by decide)).trans hX
  have hn1 : w1 1001 0 = n := by rw [f1 1001 (by decide)]; exact hn
  have jm1 := jm.fr f1
  show z_Sem mLw (0, z) 1001 (z_LL i) [z_i (z_qr A (X (i + 1)) (X (i + 2)))] (z_shs, w1) Q
  refine z_aload_n 1 dL_law_1001 rfl rfl ?_
  refine z_arg dL_law_1002 dL_law_1003 dL_law_1004 dL_law_1005 dL_law_1006 rfl rfl hX1 hn1 (by decide) hi ?_
  refine z_arg dL_law_1007 dL_law_1008 dL_law_1009 dL_law_1010 dL_law_1011 rfl rfl hX1 hn1 (by decide) hi ?_
  refine z_callV (As := [z_i (X (i + 1)), z_i (X (i + 2))]) (rest := [z_i (z_qr A (X (i + 1)) (X (i + 2)))]) zmX9_relation znX9_relation zsX9_relation (show vwCl[9]? = some (RX9, TX9, 29) from rfl) zlRL_130 ⟨Nat.le_of_ble_eq_true rfl, Nat.le_of_ble_eq_true rfl⟩ dL_law_1012 z_shs_is.1 rfl rfl (z_ai (z_ai z_a0)) (Nat.le_of_ble_eq_true rfl) (Nat.le_of_ble_eq_true rfl) ⟨by show z_shs.length + 0 ≤ 0 + 177; rw [z_shs_len]; decide, hz⟩ ?_
  refine z_CIm (K := fun x w2 => z_Sem mLw (0, z) 1015 (z_LL i) [z_i x, z_i (z_qr A (X (i + 1)) (X (i + 2)))] (z_shs, w2) Q) (um_relation _ _ _ z_shs_is jc.1.1 jc.1.2.2.2.1 jc.tbt jm1 (fun w2 j2 f2 => ?_)) (fun x w2 h => h)
  show z_Sem mLw (0, z) 1015 (z_LL i) [z_i (z_qr A (X (i + 1)) (X (i + 2))), z_i (z_qr A (X (i + 1)) (X (i + 2)))] (z_shs, w2) Q
  refine z_icmp_eq (tgt := 1905) dL_law_1015 (by decide) (fun _ => ?_) (fun c => absurd rfl c)
  exact kk w2 (z_Jfin j1 j2 f2 hX1 hn1)
theorem z_case28 (hw : z_J X n w) (hi : 0 ≤ i ∧ i + 6 ≤ n ∧ n ≤ 3072) (hR : ∀ j : Int, z_R (X j)) (hz : z ≤ 7302250) (kk : ∀ w', z_J X n w' → z_Sem mLw (0, z) 1905 (z_LL i) [] (z_shs, w') Q) : z_Sem mLw (0, z) 1020 (z_LL i) [] (z_shs, w) Q := by
  obtain ⟨A, H, T, er, s, jc, jm, hX, hn⟩ := hw
  refine z_aload_n 2 dL_law_1020 rfl rfl ?_
  refine z_arg dL_law_1021 dL_law_1022 dL_law_1023 dL_law_1024 dL_law_1025 rfl rfl hX hn (by decide) hi ?_
  refine z_arg dL_law_1026 dL_law_1027 dL_law_1028 dL_law_1029 dL_law_1030 rfl rfl hX hn (by decide) hi ?_
  refine z_callV (As := [z_i (X (i + 1)), z_i (X (i + 2))]) (rest := []) zmX8_play znX8_play zsX8_play (show vwCl[8]? = some (RX8, TX8, 9) from rfl) zlRL_131 ⟨Nat.le_of_ble_eq_true rfl, Nat.le_of_ble_eq_true rfl⟩ dL_law_1031 z_shs_TG.1 rfl rfl (z_ai (z_ai z_a0)) (Nat.le_of_ble_eq_true rfl) (Nat.le_of_ble_eq_true rfl) ⟨by show z_shs.length + 0 ≤ 0 + 177; rw [z_shs_len]; decide, hz⟩ ?_
  refine z_CIm (K := fun x w1 => z_Sem mLw (0, z) 1034 (z_LL i) [z_i x] (z_shs, w1) Q) (uc_play _ _ _ z_shs_TG jc (fun w1 j1 f1 => ?_)) (fun x w1 h => h)
  have hX1 : w1 1000 = X := (f1 1000 (by decide)).trans hX
  have hn1 : w1 1001 0 = n := by rw [f1 1001 (by decide)]; exact hn
  have jm1 := jm.fr f1
  show z_Sem mLw (0, z) 1034 (z_LL i) [z_i (z_qp A (X (i + 1)) (X (i + 2)))] (z_shs, w1) Q
  refine z_aload_n 1 dL_law_1034 rfl rfl ?_
  refine z_arg dL_law_1035 dL_law_1036 dL_law_1037 dL_law_1038 dL_law_1039 rfl rfl hX1 hn1 (by decide) hi ?_
  refine z_arg dL_law_1040 dL_law_1041 dL_law_1042 dL_law_1043 dL_law_1044 rfl rfl hX1 hn1 (by decide) hi ?_
  refine z_callV (As := [z_i (X (i + 1)), z_i (X (i + 2))]) (rest := [z_i (z_qp A (X (i + 1)) (X (i + 2)))]) zmX9_play znX9_play zsX9_play (show vwCl[9]? = some (RX9, TX9, 29) from rfl) zlRL_134 ⟨Nat.le_of_ble_eq_true rfl, Nat.le_of_ble_eq_true rfl⟩ dL_law_1045 z_shs_is.1 rfl rfl (z_ai (z_ai z_a0)) (Nat.le_of_ble_eq_true rfl) (Nat.le_of_ble_eq_true rfl) ⟨by show z_shs.length + 0 ≤ 0 + 177; rw [z_shs_len]; decide, hz⟩ ?_
  refine z_CIm (K := fun x w2 => z_Sem mLw (0, z) 1048 (z_LL i) [z_i x, z_i (z_qp A (X (i + 1)) (X (i + 2)))] (z_shs, w2) Q) (um_play _ _ _ z_shs_is jc.1.1 jc.1.2.2.2.1 jc.tbt jm1 (fun w2 j2 f2 => ?_)) (fun x w2 h => h)
  show z_Sem mLw (0, z) 1048 (z_LL i) [z_i (z_qp A (X (i + 1)) (X (i + 2))), z_i (z_qp A (X (i + 1)) (X (i + 2)))] (z_shs, w2) Q
  refine z_icmp_eq (tgt := 1905) dL_law_1048 (by decide) (fun _ => ?_) (fun c => absurd rfl c)
  exact kk w2 (z_Jfin j1 j2 f2 hX1 hn1)
theorem z_case29 (hw : z_J X n w) (hi : 0 ≤ i ∧ i + 6 ≤ n ∧ n ≤ 3072) (hR : ∀ j : Int, z_R (X j)) (hz : z ≤ 7302250) (kk : ∀ w', z_J X n w' → z_Sem mLw (0, z) 1905 (z_LL i) [] (z_shs, w') Q) : z_Sem mLw (0, z) 1053 (z_LL i) [] (z_shs, w) Q := by
  obtain ⟨A, H, T, er, s, jc, jm, hX, hn⟩ := hw
  refine z_aload_n 2 dL_law_1053 rfl rfl ?_
  refine z_arg dL_law_1054 dL_law_1055 dL_law_1056 dL_law_1057 dL_law_1058 rfl rfl hX hn (by decide) hi ?_
  refine z_callV (As := [z_i (X (i + 1))]) (rest := []) zmX8_pairs znX8_pairs zsX8_pairs (show vwCl[8]? = some (RX8, TX8, 9) from rfl) zlRL_135 ⟨Nat.le_of_ble_eq_true rfl, Nat.le_of_ble_eq_true rfl⟩ dL_law_1059 z_shs_TG.1 rfl rfl (z_ai z_a0) (Nat.le_of_ble_eq_true rfl) (Nat.le_of_ble_eq_true rfl) ⟨by show z_shs.length + 0 ≤ 0 + 177; rw [z_shs_len]; decide, hz⟩ ?_
  refine z_CIm (K := fun x w1 => z_Sem mLw (0, z) 1062 (z_LL i) [z_i x] (z_shs, w1) Q) (uc_pairs _ _ _ z_shs_TG jc (fun w1 j1 f1 => ?_)) (fun x w1 h => h)
  have hX1 : w1 1000 = X := (f1 1000 (by decide)).trans hX
  have hn1 : w1 1001 0 = n := by rw [f1 1001 (by decide)]; exact hn
  have jm1 := jm.fr f1
  show z_Sem mLw (0, z) 1062 (z_LL i) [z_i (z_qpr A (X (i + 1)))] (z_shs, w1) Q
  refine z_aload_n 1 dL_law_1062 rfl rfl ?_
  refine z_arg dL_law_1063 dL_law_1064 dL_law_1065 dL_law_1066 dL_law_1067 rfl rfl hX1 hn1 (by decide) hi ?_
  refine z_callV (As := [z_i (X (i + 1))]) (rest := [z_i (z_qpr A (X (i + 1)))]) zmX9_pairs znX9_pairs zsX9_pairs (show vwCl[9]? = some (RX9, TX9, 29) from rfl) zlRL_138 ⟨Nat.le_of_ble_eq_true rfl, Nat.le_of_ble_eq_true rfl⟩ dL_law_1068 z_shs_is.1 rfl rfl (z_ai z_a0) (Nat.le_of_ble_eq_true rfl) (Nat.le_of_ble_eq_true rfl) ⟨by show z_shs.length + 0 ≤ 0 + 177; rw [z_shs_len]; decide, hz⟩ ?_
  refine z_CIm (K := fun x w2 => z_Sem mLw (0, z) 1071 (z_LL i) [z_i x, z_i (z_qpr A (X (i + 1)))] (z_shs, w2) Q) (um_pairs _ _ _ z_shs_is jc.1.1 jc.1.2.2.2.1 jc.tbt jm1 (fun w2 j2 f2 => ?_)) (fun x w2 h => h)
  show z_Sem mLw (0, z) 1071 (z_LL i) [z_i (z_qpr A (X (i + 1))), z_i (z_qpr A (X (i + 1)))] (z_shs, w2) Q
  refine z_icmp_eq (tgt := 1905) dL_law_1071 (by decide) (fun _ => ?_) (fun c => absurd rfl c)
  exact kk w2 (z_Jfin j1 j2 f2 hX1 hn1)
theorem z_case30 (hw : z_J X n w) (hi : 0 ≤ i ∧ i + 6 ≤ n ∧ n ≤ 3072) (hR : ∀ j : Int, z_R (X j)) (hz : z ≤ 7302250) (kk : ∀ w', z_J X n w' → z_Sem mLw (0, z) 1905 (z_LL i) [] (z_shs, w') Q) : z_Sem mLw (0, z) 1076 (z_LL i) [] (z_shs, w) Q := by
  obtain ⟨A, H, T, er, s, jc, jm, hX, hn⟩ := hw
  refine z_aload_n 2 dL_law_1076 rfl rfl ?_
  refine z_arg dL_law_1077 dL_law_1078 dL_law_1079 dL_law_1080 dL_law_1081 rfl rfl hX hn (by decide) hi ?_
  refine z_arg dL_law_1082 dL_law_1083 dL_law_1084 dL_law_1085 dL_law_1086 rfl rfl hX hn (by decide) hi ?_
  refine z_callV (As := [z_i (X (i + 1)), z_i (X (i + 2))]) (rest := []) zmX8_direct znX8_direct zsX8_direct (show vwCl[8]? = some (RX8, TX8, 9) from rfl) zlRL_139 ⟨Nat.le_of_ble_eq_true rfl, Nat.le_of_ble_eq_true rfl⟩ dL_law_1087 z_shs_TG.1 rfl rfl (z_ai (z_ai z_a0)) (Nat.le_of_ble_eq_true rfl) (Nat.le_of_ble_eq_true rfl) ⟨by show z_shs.length + 0 ≤ 0 + 177; rw [z_shs_len]; decide, hz⟩ ?_
  refine z_CIm (K := fun x w1 => z_Sem mLw (0, z) 1090 (z_LL i) [z_i x] (z_shs, w1) Q) (uc_direct _ _ _ z_shs_TG jc (fun w1 j1 f1 => ?_)) (fun x w1 h => h)
  have hX1 : w1 1000 = X := (f1 1000 (by decide)).trans hX
  have hn1 : w1 1001 0 = n := by rw [f1 1001 (by decide)]; exact hn
  have jm1 := jm.fr f1
  show z_Sem mLw (0, z) 1090 (z_LL i) [z_i (z_qd A (X (i + 1)) (X (i + 2)))] (z_shs, w1) Q
  refine z_aload_n 1 dL_law_1090 rfl rfl ?_
  refine z_arg dL_law_1091 dL_law_1092 dL_law_1093 dL_law_1094 dL_law_1095 rfl rfl hX1 hn1 (by decide) hi ?_
  refine z_arg dL_law_1096 dL_law_1097 dL_law_1098 dL_law_1099 dL_law_1100 rfl rfl hX1 hn1 (by decide) hi ?_
  refine z_callV (As := [z_i (X (i + 1)), z_i (X (i + 2))]) (rest := [z_i (z_qd A (X (i + 1)) (X (i + 2)))]) zmX9_direct znX9_direct zsX9_direct (show vwCl[9]? = some (RX9, TX9, 29) from rfl) zlRL_142 ⟨Nat.le_of_ble_eq_true rfl, Nat.le_of_ble_eq_true rfl⟩ dL_law_1101 z_shs_is.1 rfl rfl (z_ai (z_ai z_a0)) (Nat.le_of_ble_eq_true rfl) (Nat.le_of_ble_eq_true rfl) ⟨by show z_shs.length + 0 ≤ 0 + 177; rw [z_shs_len]; decide, hz⟩ ?_
  refine z_CIm (K := fun x w2 => z_Sem mLw (0, z) 1104 (z_LL i) [z_i x, z_i (z_qd A (X (i + 1)) (X (i + 2)))] (z_shs, w2) Q) (um_direct _ _ _ z_shs_is jc.1.1 jc.1.2.2.2.1 jc.tbt jm1 (fun w2 j2 f2 => ?_)) (fun x w2 h => h)
  show z_Sem mLw (0, z) 1104 (z_LL i) [z_i (z_qd A (X (i + 1)) (X (i + 2))), z_i (z_qd A (X (i + 1)) (X (i + 2)))] (z_shs, w2) Q
  refine z_icmp_eq (tgt := 1905) dL_law_1104 (by decide) (fun _ => ?_) (fun c => absurd rfl c)
  exact kk w2 (z_Jfin j1 j2 f2 hX1 hn1)
theorem z_case31 (hw : z_J X n w) (hi : 0 ≤ i ∧ i + 6 ≤ n ∧ n ≤ 3072) (hR : ∀ j : Int, z_R (X j)) (hz : z ≤ 7302250) (kk : ∀ w', z_J X n w' → z_Sem mLw (0, z) 1905 (z_LL i) [] (z_shs, w') Q) : z_Sem mLw (0, z) 1109 (z_LL i) [] (z_shs, w) Q := by
  obtain ⟨A, H, T, er, s, jc, jm, hX, hn⟩ := hw
  refine z_aload_n 2 dL_law_1109 rfl rfl ?_
  refine z_arg dL_law_1110 dL_law_1111 dL_law_1112 dL_law_1113 dL_law_1114 rfl rfl hX hn (by decide) hi ?_
  refine z_callV (As := [z_i (X (i + 1))]) (rest := []) zmX8_ordered znX8_ordered zsX8_ordered (show vwCl[8]? = some (RX8, TX8, 9) from rfl) zlRL_143 ⟨Nat.le_of_ble_eq_true rfl, Nat.le_of_ble_eq_true rfl⟩ dL_law_1115 z_shs_TG.1 rfl rfl (z_ai z_a0) (Nat.le_of_ble_eq_true rfl) (Nat.le_of_ble_eq_true rfl) ⟨by show z_shs.length + 0 ≤ 0 + 177; rw [z_shs_len]; decide, hz⟩ ?_
  refine z_CIm (K := fun x w1 => z_Sem mLw (0, z) 1118 (z_LL i) [z_i x] (z_shs, w1) Q) (uc_ordered _ _ _ z_shs_TG jc (fun w1 j1 f1 => ?_)) (fun x w1 h => h)
  have hX1 : w1 1000 = X := (f1 1000 (by decide)).trans hX
  have hn1 : w1 1001 0 = n := by rw [f1 1001 (by decide)]; exact hn
  have jm1 := jm.fr f1
  show z_Sem mLw (0, z) 1118 (z_LL i) [z_i (z_qo A 1 (X (i + 1)))] (z_shs, w1) Q
  refine z_aload_n 1 dL_law_1118 rfl rfl ?_
  refine z_arg dL_law_1119 dL_law_1120 dL_law_1121 dL_law_1122 dL_law_1123 rfl rfl hX1 hn1 (by decide) hi ?_
  refine z_callV (As := [z_i (X (i + 1))]) (rest := [z_i (z_qo A 1 (X (i + 1)))]) zmX9_ordered znX9_ordered zsX9_ordered (show vwCl[9]? = some (RX9, TX9, 29) from rfl) zlRL_146 ⟨Nat.le_of_ble_eq_true rfl, Nat.le_of_ble_eq_true rfl⟩ dL_law_1124 z_shs_is.1 rfl rfl (z_ai z_a0) (Nat.le_of_ble_eq_true rfl) (Nat.le_of_ble_eq_true rfl) ⟨by show z_shs.length + 0 ≤ 0 + 177; rw [z_shs_len]; decide, hz⟩ ?_
  refine z_CIm (K := fun x w2 => z_Sem mLw (0, z) 1127 (z_LL i) [z_i x, z_i (z_qo A 1 (X (i + 1)))] (z_shs, w2) Q) (um_ordered _ _ _ z_shs_is jc.1.1 jc.1.2.2.2.1 jc.tbt jm1 (fun w2 j2 f2 => ?_)) (fun x w2 h => h)
  show z_Sem mLw (0, z) 1127 (z_LL i) [z_i (z_qo A 1 (X (i + 1))), z_i (z_qo A 1 (X (i + 1)))] (z_shs, w2) Q
  refine z_icmp_eq (tgt := 1905) dL_law_1127 (by decide) (fun _ => ?_) (fun c => absurd rfl c)
  exact kk w2 (z_Jfin j1 j2 f2 hX1 hn1)
theorem z_case32 (hw : z_J X n w) (hi : 0 ≤ i ∧ i + 6 ≤ n ∧ n ≤ 3072) (hR : ∀ j : Int, z_R (X j)) (hz : z ≤ 7302250) (kk : ∀ w', z_J X n w' → z_Sem mLw (0, z) 1905 (z_LL i) [] (z_shs, w') Q) : z_Sem mLw (0, z) 1132 (z_LL i) [] (z_shs, w) Q := by
  obtain ⟨A, H, T, er, s, jc, jm, hX, hn⟩ := hw
  refine z_aload_n 2 dL_law_1132 rfl rfl ?_
  refine z_arg dL_law_1133 dL_law_1134 dL_law_1135 dL_law_1136 dL_law_1137 rfl rfl hX hn (by decide) hi ?_
  refine z_callV (As := [z_i (X (i + 1))]) (rest := []) zmX8_middle znX8_middle zsX8_middle (show vwCl[8]? = some (RX8, TX8, 9) from rfl) zlRL_147 ⟨Nat.le_of_ble_eq_true rfl, Nat.le_of_ble_eq_true rfl⟩ dL_law_1138 z_shs_TG.1 rfl rfl (z_ai z_a0) (Nat.le_of_ble_eq_true rfl) (Nat.le_of_ble_eq_true rfl) ⟨by show z_shs.length + 0 ≤ 0 + 177; rw [z_shs_len]; decide, hz⟩ ?_
  refine z_CIm (K := fun x w1 => z_Sem mLw (0, z) 1141 (z_LL i) [z_i x] (z_shs, w1) Q) (uc_middle _ _ _ z_shs_TG jc (fun w1 j1 f1 => ?_)) (fun x w1 h => h)
  have hX1 : w1 1000 = X := (f1 1000 (by decide)).trans hX
  have hn1 : w1 1001 0 = n := by rw [f1 1001 (by decide)]; exact hn
  have jm1 := jm.fr f1
  show z_Sem mLw (0, z) 1141 (z_LL i) [z_i (z_qm A (X (i + 1)))] (z_shs, w1) Q
  refine z_aload_n 1 dL_law_1141 rfl rfl ?_
  refine z_arg dL_law_1142 dL_law_1143 dL_law_1144 dL_law_1145 dL_law_1146 rfl rfl hX1 hn1 (by decide) hi ?_
  refine z_callV (As := [z_i (X (i + 1))]) (rest := [z_i (z_qm A (X (i + 1)))]) zmX9_middle znX9_middle zsX9_middle (show vwCl[9]? = some (RX9, TX9, 29) from rfl) zlRL_150 ⟨Nat.le_of_ble_eq_true rfl, Nat.le_of_ble_eq_true rfl⟩ dL_law_1147 z_shs_is.1 rfl rfl (z_ai z_a0) (Nat.le_of_ble_eq_true rfl) (Nat.le_of_ble_eq_true rfl) ⟨by show z_shs.length + 0 ≤ 0 + 177; rw [z_shs_len]; decide, hz⟩ ?_
  refine z_CIm (K := fun x w2 => z_Sem mLw (0, z) 1150 (z_LL i) [z_i x, z_i (z_qm A (X (i + 1)))] (z_shs, w2) Q) (um_middle _ _ _ z_shs_is jc.1.1 jc.1.2.2.2.1 jc.tbt jm1 (fun w2 j2 f2 => ?_)) (fun x w2 h => h)
  show z_Sem mLw (0, z) 1150 (z_LL i) [z_i (z_qm A (X (i + 1))), z_i (z_qm A (X (i + 1)))] (z_shs, w2) Q
  refine z_icmp_eq (tgt := 1905) dL_law_1150 (by decide) (fun _ => ?_) (fun c => absurd rfl c)
  exact kk w2 (z_Jfin j1 j2 f2 hX1 hn1)
theorem z_case33 (hw : z_J X n w) (hi : 0 ≤ i ∧ i + 6 ≤ n ∧ n ≤ 3072) (hR : ∀ j : Int, z_R (X j)) (hz : z ≤ 7302250) (kk : ∀ w', z_J X n w' → z_Sem mLw (0, z) 1905 (z_LL i) [] (z_shs, w') Q) : z_Sem mLw (0, z) 1155 (z_LL i) [] (z_shs, w) Q := by
  obtain ⟨A, H, T, er, s, jc, jm, hX, hn⟩ := hw
  refine z_aload_n 2 dL_law_1155 rfl rfl ?_
  refine z_arg dL_law_1156 dL_law_1157 dL_law_1158 dL_law_1159 dL_law_1160 rfl rfl hX hn (by decide) hi ?_
  refine z_callV (As := [z_i (X (i + 1))]) (rest := []) zmX8_lastly znX8_lastly zsX8_lastly (show vwCl[8]? = some (RX8, TX8, 9) from rfl) zlRL_151 ⟨Nat.le_of_ble_eq_true rfl, Nat.le_of_ble_eq_true rfl⟩ dL_law_1161 z_shs_TG.1 rfl rfl (z_ai z_a0) (Nat.le_of_ble_eq_true rfl) (Nat.le_of_ble_eq_true rfl) ⟨by show z_shs.length + 0 ≤ 0 + 177; rw [z_shs_len]; decide, hz⟩ ?_
  refine z_CIm (K := fun x w1 => z_Sem mLw (0, z) 1164 (z_LL i) [z_i x] (z_shs, w1) Q) (uc_lastly _ _ _ z_shs_TG jc (fun w1 j1 f1 => ?_)) (fun x w1 h => h)
  have hX1 : w1 1000 = X := (f1 1000 (by decide)).trans hX
  have hn1 : w1 1001 0 = n := by rw [f1 1001 (by decide)]; exact hn
  have jm1 := jm.fr f1
  show z_Sem mLw (0, z) 1164 (z_LL i) [z_i (z_qo A 0 (X (i + 1)))] (z_shs, w1) Q
  refine z_aload_n 1 dL_law_1164 rfl rfl ?_
  refine z_arg dL_law_1165 dL_law_1166 dL_law_1167 dL_law_1168 dL_law_1169 rfl rfl hX1 hn1 (by decide) hi ?_
  refine z_callV (As := [z_i (X (i + 1))]) (rest := [z_i (z_qo A 0 (X (i + 1)))]) zmX9_lastly znX9_lastly zsX9_lastly (show vwCl[9]? = some (RX9, TX9, 29) from rfl) zlRL_154 ⟨Nat.le_of_ble_eq_true rfl, Nat.le_of_ble_eq_true rfl⟩ dL_law_1170 z_shs_is.1 rfl rfl (z_ai z_a0) (Nat.le_of_ble_eq_true rfl) (Nat.le_of_ble_eq_true rfl) ⟨by show z_shs.length + 0 ≤ 0 + 177; rw [z_shs_len]; decide, hz⟩ ?_
  refine z_CIm (K := fun x w2 => z_Sem mLw (0, z) 1173 (z_LL i) [z_i x, z_i (z_qo A 0 (X (i + 1)))] (z_shs, w2) Q) (um_lastly _ _ _ z_shs_is jc.1.1 jc.1.2.2.2.1 jc.tbt jm1 (fun w2 j2 f2 => ?_)) (fun x w2 h => h)
  show z_Sem mLw (0, z) 1173 (z_LL i) [z_i (z_qo A 0 (X (i + 1))), z_i (z_qo A 0 (X (i + 1)))] (z_shs, w2) Q
  refine z_icmp_eq (tgt := 1905) dL_law_1173 (by decide) (fun _ => ?_) (fun c => absurd rfl c)
  exact kk w2 (z_Jfin j1 j2 f2 hX1 hn1)
theorem z_case34 (hw : z_J X n w) (hi : 0 ≤ i ∧ i + 6 ≤ n ∧ n ≤ 3072) (hR : ∀ j : Int, z_R (X j)) (hz : z ≤ 7302250) (kk : ∀ w', z_J X n w' → z_Sem mLw (0, z) 1905 (z_LL i) [] (z_shs, w') Q) : z_Sem mLw (0, z) 1178 (z_LL i) [] (z_shs, w) Q := by
  obtain ⟨A, H, T, er, s, jc, jm, hX, hn⟩ := hw
  refine z_aload_n 2 dL_law_1178 rfl rfl ?_
  refine z_arg dL_law_1179 dL_law_1180 dL_law_1181 dL_law_1182 dL_law_1183 rfl rfl hX hn (by decide) hi ?_
  refine z_arg dL_law_1184 dL_law_1185 dL_law_1186 dL_law_1187 dL_law_1188 rfl rfl hX hn (by decide) hi ?_
  refine z_callV (As := [z_i (X (i + 1)), z_i (X (i + 2))]) (rest := []) zmX8_can znX8_can zsX8_can (show vwCl[8]? = some (RX8, TX8, 9) from rfl) zlRL_155 ⟨Nat.le_of_ble_eq_true rfl, Nat.le_of_ble_eq_true rfl⟩ dL_law_1189 z_shs_TG.1 rfl rfl (z_ai (z_ai z_a0)) (Nat.le_of_ble_eq_true rfl) (Nat.le_of_ble_eq_true rfl) ⟨by show z_shs.length + 0 ≤ 0 + 177; rw [z_shs_len]; decide, hz⟩ ?_
  refine z_CIm (K := fun x w1 => z_Sem mLw (0, z) 1192 (z_LL i) [z_i x] (z_shs, w1) Q) (uc_can _ _ _ z_shs_TG jc (fun w1 j1 f1 => ?_)) (fun x w1 h => h)
  have hX1 : w1 1000 = X := (f1 1000 (by decide)).trans hX
  have hn1 : w1 1001 0 = n := by rw [f1 1001 (by decide)]; exact hn
  have jm1 := jm.fr f1
  show z_Sem mLw (0, z) 1192 (z_LL i) [z_i (z_qc A (X (i + 1)) (X (i + 2)))] (z_shs, w1) Q
  refine z_aload_n 1 dL_law_1192 rfl rfl ?_
  refine z_arg dL_law_1193 dL_law_1194 dL_law_1195 dL_law_1196 dL_law_1197 rfl rfl hX1 hn1 (by decide) hi ?_
  refine z_arg dL_law_1198 dL_law_1199 dL_law_1200 dL_law_1201 dL_law_1202 rfl rfl hX1 hn1 (by decide) hi ?_
  refine z_callV (As := [z_i (X (i + 1)), z_i (X (i + 2))]) (rest := [z_i (z_qc A (X (i + 1)) (X (i + 2)))]) zmX9_can znX9_can zsX9_can (show vwCl[9]? = some (RX9, TX9, 29) from rfl) zlRL_158 ⟨Nat.le_of_ble_eq_true rfl, Nat.le_of_ble_eq_true rfl⟩ dL_law_1203 z_shs_is.1 rfl rfl (z_ai (z_ai z_a0)) (Nat.le_of_ble_eq_true rfl) (Nat.le_of_ble_eq_true rfl) ⟨by show z_shs.length + 0 ≤ 0 + 177; rw [z_shs_len]; decide, hz⟩ ?_
  refine z_CIm (K := fun x w2 => z_Sem mLw (0, z) 1206 (z_LL i) [z_i x, z_i (z_qc A (X (i + 1)) (X (i + 2)))] (z_shs, w2) Q) (um_can _ _ _ z_shs_is jc.1.1 jc.1.2.2.2.1 jc.tbt jm1 (fun w2 j2 f2 => ?_)) (fun x w2 h => h)
  show z_Sem mLw (0, z) 1206 (z_LL i) [z_i (z_qc A (X (i + 1)) (X (i + 2))), z_i (z_qc A (X (i + 1)) (X (i + 2)))] (z_shs, w2) Q
  refine z_icmp_eq (tgt := 1905) dL_law_1206 (by decide) (fun _ => ?_) (fun c => absurd rfl c)
  exact kk w2 (z_Jfin j1 j2 f2 hX1 hn1)
theorem z_case35 (hw : z_J X n w) (hi : 0 ≤ i ∧ i + 6 ≤ n ∧ n ≤ 3072) (hR : ∀ j : Int, z_R (X j)) (hz : z ≤ 7302250) (kk : ∀ w', z_J X n w' → z_Sem mLw (0, z) 1905 (z_LL i) [] (z_shs, w') Q) : z_Sem mLw (0, z) 1211 (z_LL i) [] (z_shs, w) Q := by
  obtain ⟨A, H, T, er, s, jc, jm, hX, hn⟩ := hw
  refine z_aload_n 2 dL_law_1211 rfl rfl ?_
  refine z_callV (As := []) (rest := []) zmX8_widest znX8_widest zsX8_widest (show vwCl[8]? = some (RX8, TX8, 9) from rfl) zlRL_159 ⟨Nat.le_of_ble_eq_true rfl, Nat.le_of_ble_eq_true rfl⟩ dL_law_1212 z_shs_TG.1 rfl rfl z_a0 (Nat.le_of_ble_eq_true rfl) (Nat.le_of_ble_eq_true rfl) ⟨by show z_shs.length + 0 ≤ 0 + 177; rw [z_shs_len]; decide, hz⟩ ?_
  refine z_CIm (K := fun x w1 => z_Sem mLw (0, z) 1215 (z_LL i) [z_i x] (z_shs, w1) Q) (uc_widest _ _ _ z_shs_TG jc (fun w1 j1 f1 => ?_)) (fun x w1 h => h)
  have hX1 : w1 1000 = X := (f1 1000 (by decide)).trans hX
  have hn1 : w1 1001 0 = n := by rw [f1 1001 (by decide)]; exact hn
  have jm1 := jm.fr f1
  show z_Sem mLw (0, z) 1215 (z_LL i) [z_i (z_qw A)] (z_shs, w1) Q
  refine z_aload_n 1 dL_law_1215 rfl rfl ?_
  refine z_callV (As := []) (rest := [z_i (z_qw A)]) zmX9_widest znX9_widest zsX9_widest (show vwCl[9]? = some (RX9, TX9, 29) from rfl) zlRL_162 ⟨Nat.le_of_ble_eq_true rfl, Nat.le_of_ble_eq_true rfl⟩ dL_law_1216 z_shs_is.1 rfl rfl z_a0 (Nat.le_of_ble_eq_true rfl) (Nat.le_of_ble_eq_true rfl) ⟨by show z_shs.length + 0 ≤ 0 + 177; rw [z_shs_len]; decide, hz⟩ ?_
  refine z_CIm (K := fun x w2 => z_Sem mLw (0, z) 1219 (z_LL i) [z_i x, z_i (z_qw A)] (z_shs, w2) Q) (um_widest _ _ _ z_shs_is jc.1.1 jc.1.2.2.2.1 jc.tbt jm1 (fun w2 j2 f2 => ?_)) (fun x w2 h => h)
  show z_Sem mLw (0, z) 1219 (z_LL i) [z_i (z_qw A), z_i (z_qw A)] (z_shs, w2) Q
  refine z_icmp_eq (tgt := 1905) dL_law_1219 (by decide) (fun _ => ?_) (fun c => absurd rfl c)
  exact kk w2 (z_Jfin j1 j2 f2 hX1 hn1)
theorem z_case36 (hw : z_J X n w) (hi : 0 ≤ i ∧ i + 6 ≤ n ∧ n ≤ 3072) (hR : ∀ j : Int, z_R (X j)) (hz : z ≤ 7302250) (kk : ∀ w', z_J X n w' → z_Sem mLw (0, z) 1905 (z_LL i) [] (z_shs, w') Q) : z_Sem mLw (0, z) 1224 (z_LL i) [] (z_shs, w) Q := by
  obtain ⟨A, H, T, er, s, jc, jm, hX, hn⟩ := hw
  refine z_aload_n 2 dL_law_1224 rfl rfl ?_
  refine z_callV (As := []) (rest := []) zmX8_freest znX8_freest zsX8_freest (show vwCl[8]? = some (RX8, TX8, 9) from rfl) zlRL_163 ⟨Nat.le_of_ble_eq_true rfl, Nat.le_of_ble_eq_true rfl⟩ dL_law_1225 z_shs_TG.1 rfl rfl z_a0 (Nat.le_of_ble_eq_true rfl) (Nat.le_of_ble_eq_true rfl) ⟨by show z_shs.length + 0 ≤ 0 + 177; rw [z_shs_len]; decide, hz⟩ ?_
  refine z_CIm (K := fun x w1 => z_Sem mLw (0, z) 1228 (z_LL i) [z_i x] (z_shs, w1) Q) (uc_freest _ _ _ z_shs_TG jc (fun w1 j1 f1 => ?_)) (fun x w1 h => h)
  have hX1 : w1 1000 = X := (f1 1000 (by decide)).trans hX
  have hn1 : w1 1001 0 = n := by rw [f1 1001 (by decide)]; exact hn
  have jm1 := jm.fr f1
  show z_Sem mLw (0, z) 1228 (z_LL i) [z_i (z_frs A (A 1 0).toNat)] (z_shs, w1) Q
  refine z_aload_n 1 dL_law_1228 rfl rfl ?_
  refine z_callV (As := []) (rest := [z_i (z_frs A (A 1 0).toNat)]) zmX9_freest znX9_freest zsX9_freest (show vwCl[9]? = some (RX9, TX9, 29) from rfl) zlRL_166 ⟨Nat.le_of_ble_eq_true rfl, Nat.le_of_ble_eq_true rfl⟩ dL_law_1229 z_shs_is.1 rfl rfl z_a0 (Nat.le_of_ble_eq_true rfl) (Nat.le_of_ble_eq_true rfl) ⟨by show z_shs.length + 0 ≤ 0 + 177; rw [z_shs_len]; decide, hz⟩ ?_
  refine z_CIm (K := fun x w2 => z_Sem mLw (0, z) 1232 (z_LL i) [z_i x, z_i (z_frs A (A 1 0).toNat)] (z_shs, w2) Q) (um_freest _ _ _ z_shs_is jc.1.1 jc.1.2.2.2.1 jc.tbt jm1 (fun w2 j2 f2 => ?_)) (fun x w2 h => h)
  show z_Sem mLw (0, z) 1232 (z_LL i) [z_i (z_frs A (A 1 0).toNat), z_i (z_frs A (A 1 0).toNat)] (z_shs, w2) Q
  refine z_icmp_eq (tgt := 1905) dL_law_1232 (by decide) (fun _ => ?_) (fun c => absurd rfl c)
  exact kk w2 (z_Jfin j1 j2 f2 hX1 hn1)
theorem z_case37 (hw : z_J X n w) (hi : 0 ≤ i ∧ i + 6 ≤ n ∧ n ≤ 3072) (hR : ∀ j : Int, z_R (X j)) (hz : z ≤ 7302250) (kk : ∀ w', z_J X n w' → z_Sem mLw (0, z) 1905 (z_LL i) [] (z_shs, w') Q) : z_Sem mLw (0, z) 1237 (z_LL i) [] (z_shs, w) Q := by
  obtain ⟨A, H, T, er, s, jc, jm, hX, hn⟩ := hw
  refine z_aload_n 2 dL_law_1237 rfl rfl ?_
  refine z_arg dL_law_1238 dL_law_1239 dL_law_1240 dL_law_1241 dL_law_1242 rfl rfl hX hn (by decide) hi ?_
  refine z_arg dL_law_1243 dL_law_1244 dL_law_1245 dL_law_1246 dL_law_1247 rfl rfl hX hn (by decide) hi ?_
  refine z_arg dL_law_1248 dL_law_1249 dL_law_1250 dL_law_1251 dL_law_1252 rfl rfl hX hn (by decide) hi ?_
  refine z_arg dL_law_1253 dL_law_1254 dL_law_1255 dL_law_1256 dL_law_1257 rfl rfl hX hn (by decide) hi ?_
  refine z_arg dL_law_1258 dL_law_1259 dL_law_1260 dL_law_1261 dL_law_1262 rfl rfl hX hn (by decide) hi ?_
  refine z_callV (As := [z_i (X (i + 1)), z_i (X (i + 2)), z_i (X (i + 3)), z_i (X (i + 4)), z_i (X (i + 5))]) (rest := []) zmX8_why znX8_why zsX8_why (show vwCl[8]? = some (RX8, TX8, 9) from rfl) zlRL_167 ⟨Nat.le_of_ble_eq_true rfl, Nat.le_of_ble_eq_true rfl⟩ dL_law_1263 z_shs_TG.1 rfl rfl (z_ai (z_ai (z_ai (z_ai (z_ai z_a0))))) (Nat.le_of_ble_eq_true rfl) (Nat.le_of_ble_eq_true rfl) ⟨by show z_shs.length + 0 ≤ 0 + 177; rw [z_shs_len]; decide, hz⟩ ?_
  refine z_CIm (K := fun x w1 => z_Sem mLw (0, z) 1266 (z_LL i) [z_i x] (z_shs, w1) Q) (uc_why _ _ _ z_shs_TG jc (fun w1 j1 f1 => ?_)) (fun x w1 h => h)
  have hX1 : w1 1000 = X := (f1 1000 (by decide)).trans hX
  have hn1 : w1 1001 0 = n := by rw [f1 1001 (by decide)]; exact hn
  have jm1 := jm.fr f1
  show z_Sem mLw (0, z) 1266 (z_LL i) [z_i (z_qy A (X (i + 1)) (X (i + 2)) (X (i + 3)) (X (i + 4)) (X (i + 5)))] (z_shs, w1) Q
  refine z_aload_n 1 dL_law_1266 rfl rfl ?_
  refine z_arg dL_law_1267 dL_law_1268 dL_law_1269 dL_law_1270 dL_law_1271 rfl rfl hX1 hn1 (by decide) hi ?_
  refine z_arg dL_law_1272 dL_law_1273 dL_law_1274 dL_law_1275 dL_law_1276 rfl rfl hX1 hn1 (by decide) hi ?_
  refine z_arg dL_law_1277 dL_law_1278 dL_law_1279 dL_law_1280 dL_law_1281 rfl rfl hX1 hn1 (by decide) hi ?_
  refine z_arg dL_law_1282 dL_law_1283 dL_law_1284 dL_law_1285 dL_law_1286 rfl rfl hX1 hn1 (by decide) hi ?_
  refine z_arg dL_law_1287 dL_law_1288 dL_law_1289 dL_law_1290 dL_law_1291 rfl rfl hX1 hn1 (by decide) hi ?_
  refine z_callV (As := [z_i (X (i + 1)), z_i (X (i + 2)), z_i (X (i + 3)), z_i (X (i + 4)), z_i (X (i + 5))]) (rest := [z_i (z_qy A (X (i + 1)) (X (i + 2)) (X (i + 3)) (X (i + 4)) (X (i + 5)))]) zmX9_why znX9_why zsX9_why (show vwCl[9]? = some (RX9, TX9, 29) from rfl) zlRL_170 ⟨Nat.le_of_ble_eq_true rfl, Nat.le_of_ble_eq_true rfl⟩ dL_law_1292 z_shs_is.1 rfl rfl (z_ai (z_ai (z_ai (z_ai (z_ai z_a0))))) (Nat.le_of_ble_eq_true rfl) (Nat.le_of_ble_eq_true rfl) ⟨by show z_shs.length + 0 ≤ 0 + 177; rw [z_shs_len]; decide, hz⟩ ?_
  refine z_CIm (K := fun x w2 => z_Sem mLw (0, z) 1295 (z_LL i) [z_i x, z_i (z_qy A (X (i + 1)) (X (i + 2)) (X (i + 3)) (X (i + 4)) (X (i + 5)))] (z_shs, w2) Q) (um_why _ _ _ z_shs_is jc.1.1 jc.1.2.2.2.1 jc.tbt jm1 (fun w2 j2 f2 => ?_)) (fun x w2 h => h)
  show z_Sem mLw (0, z) 1295 (z_LL i) [z_i (z_qy A (X (i + 1)) (X (i + 2)) (X (i + 3)) (X (i + 4)) (X (i + 5))), z_i (z_qy A (X (i + 1)) (X (i + 2)) (X (i + 3)) (X (i + 4)) (X (i + 5)))] (z_shs, w2) Q
  refine z_icmp_eq (tgt := 1905) dL_law_1295 (by decide) (fun _ => ?_) (fun c => absurd rfl c)
  exact kk w2 (z_Jfin j1 j2 f2 hX1 hn1)
theorem z_case38 (hw : z_J X n w) (hi : 0 ≤ i ∧ i + 6 ≤ n ∧ n ≤ 3072) (hR : ∀ j : Int, z_R (X j)) (hz : z ≤ 7302250) (kk : ∀ w', z_J X n w' → z_Sem mLw (0, z) 1905 (z_LL i) [] (z_shs, w') Q) : z_Sem mLw (0, z) 1300 (z_LL i) [] (z_shs, w) Q := by
  obtain ⟨A, H, T, er, s, jc, jm, hX, hn⟩ := hw
  refine z_aload_n 2 dL_law_1300 rfl rfl ?_
  refine z_arg dL_law_1301 dL_law_1302 dL_law_1303 dL_law_1304 dL_law_1305 rfl rfl hX hn (by decide) hi ?_
  refine z_arg dL_law_1306 dL_law_1307 dL_law_1308 dL_law_1309 dL_law_1310 rfl rfl hX hn (by decide) hi ?_
  refine z_arg dL_law_1311 dL_law_1312 dL_law_1313 dL_law_1314 dL_law_1315 rfl rfl hX hn (by decide) hi ?_
  refine z_arg dL_law_1316 dL_law_1317 dL_law_1318 dL_law_1319 dL_law_1320 rfl rfl hX hn (by decide) hi ?_
  refine z_arg dL_law_1321 dL_law_1322 dL_law_1323 dL_law_1324 dL_law_1325 rfl rfl hX hn (by decide) hi ?_
  refine z_callV (As := [z_i (X (i + 1)), z_i (X (i + 2)), z_i (X (i + 3)), z_i (X (i + 4)), z_i (X (i + 5))]) (rest := []) zmX8_ring znX8_ring zsX8_ring (show vwCl[8]? = some (RX8, TX8, 9) from rfl) zlRL_171 ⟨Nat.le_of_ble_eq_true rfl, Nat.le_of_ble_eq_true rfl⟩ dL_law_1326 z_shs_TG.1 rfl rfl (z_ai (z_ai (z_ai (z_ai (z_ai z_a0))))) (Nat.le_of_ble_eq_true rfl) (Nat.le_of_ble_eq_true rfl) ⟨by show z_shs.length + 0 ≤ 0 + 177; rw [z_shs_len]; decide, hz⟩ ?_
  refine z_CIm (K := fun x w1 => z_Sem mLw (0, z) 1329 (z_LL i) [z_i x] (z_shs, w1) Q) (uc_ring _ _ _ z_shs_TG jc (fun w1 j1 f1 => ?_)) (fun x w1 h => h)
  have hX1 : w1 1000 = X := (f1 1000 (by decide)).trans hX
  have hn1 : w1 1001 0 = n := by rw [f1 1001 (by decide)]; exact hn
  have jm1 := jm.fr f1
  show z_Sem mLw (0, z) 1329 (z_LL i) [z_i (z_qri A (X (i + 1)) (X (i + 2)) (X (i + 3)) (X (i + 4)) (X (i + 5)))] (z_shs, w1) Q
  refine z_aload_n 1 dL_law_1329 rfl rfl ?_
  refine z_arg dL_law_1330 dL_law_1331 dL_law_1332 dL_law_1333 dL_law_1334 rfl rfl hX1 hn1 (by decide) hi ?_
  refine z_arg dL_law_1335 dL_law_1336 dL_law_1337 dL_law_1338 dL_law_1339 rfl rfl hX1 hn1 (by decide) hi ?_
  refine z_arg dL_law_1340 dL_law_1341 dL_law_1342 dL_law_1343 dL_law_1344 rfl rfl hX1 hn1 (by decide) hi ?_
  refine z_arg dL_law_1345 dL_law_1346 dL_law_1347 dL_law_1348 dL_law_1349 rfl rfl hX1 hn1 (by decide) hi ?_
  refine z_arg dL_law_1350 dL_law_1351 dL_law_1352 dL_law_1353 dL_law_1354 rfl rfl hX1 hn1 (by decide) hi ?_
  refine z_callV (As := [z_i (X (i + 1)), z_i (X (i + 2)), z_i (X (i + 3)), z_i (X (i + 4)), z_i (X (i + 5))]) (rest := [z_i (z_qri A (X (i + 1)) (X (i + 2)) (X (i + 3)) (X (i + 4)) (X (i + 5)))]) zmX9_ring znX9_ring zsX9_ring (show vwCl[9]? = some (RX9, TX9, 29) from rfl) zlRL_174 ⟨Nat.le_of_ble_eq_true rfl, Nat.le_of_ble_eq_true rfl⟩ dL_law_1355 z_shs_is.1 rfl rfl (z_ai (z_ai (z_ai (z_ai (z_ai z_a0))))) (Nat.le_of_ble_eq_true rfl) (Nat.le_of_ble_eq_true rfl) ⟨by show z_shs.length + 0 ≤ 0 + 177; rw [z_shs_len]; decide, hz⟩ ?_
  refine z_CIm (K := fun x w2 => z_Sem mLw (0, z) 1358 (z_LL i) [z_i x, z_i (z_qri A (X (i + 1)) (X (i + 2)) (X (i + 3)) (X (i + 4)) (X (i + 5)))] (z_shs, w2) Q) (um_ring _ _ _ z_shs_is jc.1.1 jc.1.2.2.2.1 jc.tbt jm1 (fun w2 j2 f2 => ?_)) (fun x w2 h => h)
  show z_Sem mLw (0, z) 1358 (z_LL i) [z_i (z_qri A (X (i + 1)) (X (i + 2)) (X (i + 3)) (X (i + 4)) (X (i + 5))), z_i (z_qri A (X (i + 1)) (X (i + 2)) (X (i + 3)) (X (i + 4)) (X (i + 5)))] (z_shs, w2) Q
  refine z_icmp_eq (tgt := 1905) dL_law_1358 (by decide) (fun _ => ?_) (fun c => absurd rfl c)
  exact kk w2 (z_Jfin j1 j2 f2 hX1 hn1)
theorem z_case39 (hw : z_J X n w) (hi : 0 ≤ i ∧ i + 6 ≤ n ∧ n ≤ 3072) (hR : ∀ j : Int, z_R (X j)) (hz : z ≤ 7302250) (kk : ∀ w', z_J X n w' → z_Sem mLw (0, z) 1905 (z_LL i) [] (z_shs, w') Q) : z_Sem mLw (0, z) 1363 (z_LL i) [] (z_shs, w) Q := by
  obtain ⟨A, H, T, er, s, jc, jm, hX, hn⟩ := hw
  refine z_aload_n 2 dL_law_1363 rfl rfl ?_
  refine z_arg dL_law_1364 dL_law_1365 dL_law_1366 dL_law_1367 dL_law_1368 rfl rfl hX hn (by decide) hi ?_
  refine z_arg dL_law_1369 dL_law_1370 dL_law_1371 dL_law_1372 dL_law_1373 rfl rfl hX hn (by decide) hi ?_
  refine z_arg dL_law_1374 dL_law_1375 dL_law_1376 dL_law_1377 dL_law_1378 rfl rfl hX hn (by decide) hi ?_
  refine z_arg dL_law_1379 dL_law_1380 dL_law_1381 dL_law_1382 dL_law_1383 rfl rfl hX hn (by decide) hi ?_
  refine z_callV (As := [z_i (X (i + 1)), z_i (X (i + 2)), z_i (X (i + 3)), z_i (X (i + 4))]) (rest := []) zmX8_culprit znX8_culprit zsX8_culprit (show vwCl[8]? = some (RX8, TX8, 9) from rfl) zlRL_175 ⟨Nat.le_of_ble_eq_true rfl, Nat.le_of_ble_eq_true rfl⟩ dL_law_1384 z_shs_TG.1 rfl rfl (z_ai (z_ai (z_ai (z_ai z_a0)))) (Nat.le_of_ble_eq_true rfl) (Nat.le_of_ble_eq_true rfl) ⟨by show z_shs.length + 0 ≤ 0 + 177; rw [z_shs_len]; decide, hz⟩ ?_
  refine z_CIm (K := fun x w1 => z_Sem mLw (0, z) 1387 (z_LL i) [z_i x] (z_shs, w1) Q) (uc_culprit _ _ _ z_shs_TG jc (fun w1 j1 f1 => ?_)) (fun x w1 h => h)
  have hX1 : w1 1000 = X := (f1 1000 (by decide)).trans hX
  have hn1 : w1 1001 0 = n := by rw [f1 1001 (by decide)]; exact hn
  have jm1 := jm.fr f1
  show z_Sem mLw (0, z) 1387 (z_LL i) [z_i (z_qcu A (X (i + 1)) (X (i + 2)) (X (i + 3)) (X (i + 4)))] (z_shs, w1) Q
  refine z_aload_n 1 dL_law_1387 rfl rfl ?_
  refine z_arg dL_law_1388 dL_law_1389 dL_law_1390 dL_law_1391 dL_law_1392 rfl rfl hX1 hn1 (by decide) hi ?_
  refine z_arg dL_law_1393 dL_law_1394 dL_law_1395 dL_law_1396 dL_law_1397 rfl rfl hX1 hn1 (by decide) hi ?_
  refine z_arg dL_law_1398 dL_law_1399 dL_law_1400 dL_law_1401 dL_law_1402 rfl rfl hX1 hn1 (by decide) hi ?_
  refine z_arg dL_law_1403 dL_law_1404 dL_law_1405 dL_law_1406 dL_law_1407 rfl rfl hX1 hn1 (by decide) hi ?_
  refine z_callV (As := [z_i (X (i + 1)), z_i (X (i + 2)), z_i (X (i + 3)), z_i (X (i + 4))]) (rest := [z_i (z_qcu A (X (i + 1)) (X (i + 2)) (X (i + 3)) (X (i + 4)))]) zmX9_culprit znX9_culprit zsX9_culprit (show vwCl[9]? = some (RX9, TX9, 29) from rfl) zlRL_178 ⟨Nat.le_of_ble_eq_true rfl, Nat.le_of_ble_eq_true rfl⟩ dL_law_1408 z_shs_is.1 rfl rfl (z_ai (z_ai (z_ai (z_ai z_a0)))) (Nat.le_of_ble_eq_true rfl) (Nat.le_of_ble_eq_true rfl) ⟨by show z_shs.length + 0 ≤ 0 + 177; rw [z_shs_len]; decide, hz⟩ ?_
  refine z_CIm (K := fun x w2 => z_Sem mLw (0, z) 1411 (z_LL i) [z_i x, z_i (z_qcu A (X (i + 1)) (X (i + 2)) (X (i + 3)) (X (i + 4)))] (z_shs, w2) Q) (um_culprit _ _ _ z_shs_is jc.1.1 jc.1.2.2.2.1 jc.tbt jm1 (fun w2 j2 f2 => ?_)) (fun x w2 h => h)
  show z_Sem mLw (0, z) 1411 (z_LL i) [z_i (z_qcu A (X (i + 1)) (X (i + 2)) (X (i + 3)) (X (i + 4))), z_i (z_qcu A (X (i + 1)) (X (i + 2)) (X (i + 3)) (X (i + 4)))] (z_shs, w2) Q
  refine z_icmp_eq (tgt := 1905) dL_law_1411 (by decide) (fun _ => ?_) (fun c => absurd rfl c)
  exact kk w2 (z_Jfin j1 j2 f2 hX1 hn1)
theorem z_case40 (hw : z_J X n w) (hi : 0 ≤ i ∧ i + 6 ≤ n ∧ n ≤ 3072) (hR : ∀ j : Int, z_R (X j)) (hz : z ≤ 7302250) (kk : ∀ w', z_J X n w' → z_Sem mLw (0, z) 1905 (z_LL i) [] (z_shs, w') Q) : z_Sem mLw (0, z) 1416 (z_LL i) [] (z_shs, w) Q := by
  obtain ⟨A, H, T, er, s, jc, jm, hX, hn⟩ := hw
  refine z_aload_n 2 dL_law_1416 rfl rfl ?_
  refine z_arg dL_law_1417 dL_law_1418 dL_law_1419 dL_law_1420 dL_law_1421 rfl rfl hX hn (by decide) hi ?_
  refine z_arg dL_law_1422 dL_law_1423 dL_law_1424 dL_law_1425 dL_law_1426 rfl rfl hX hn (by decide) hi ?_
  refine z_arg dL_law_1427 dL_law_1428 dL_law_1429 dL_law_1430 dL_law_1431 rfl rfl hX hn (by decide) hi ?_
  refine z_callV (As := [z_i (X (i + 1)), z_i (X (i + 2)), z_i (X (i + 3))]) (rest := []) zmX8_tightest znX8_tightest zsX8_tightest (show vwCl[8]? = some (RX8, TX8, 9) from rfl) zlRL_179 ⟨Nat.le_of_ble_eq_true rfl, Nat.le_of_ble_eq_true rfl⟩ dL_law_1432 z_shs_TG.1 rfl rfl (z_ai (z_ai (z_ai z_a0))) (Nat.le_of_ble_eq_true rfl) (Nat.le_of_ble_eq_true rfl) ⟨by show z_shs.length + 0 ≤ 0 + 177; rw [z_shs_len]; decide, hz⟩ ?_
  refine z_CIm (K := fun x w1 => z_Sem mLw (0, z) 1435 (z_LL i) [z_i x] (z_shs, w1) Q) (uc_tightest _ _ _ z_shs_TG jc (fun w1 j1 f1 => ?_)) (fun x w1 h => h)
  have hX1 : w1 1000 = X := (f1 1000 (by decide)).trans hX
  have hn1 : w1 1001 0 = n := by rw [f1 1001 (by decide)]; exact hn
  have jm1 := jm.fr f1
  show z_Sem mLw (0, z) 1435 (z_LL i) [z_i (z_qt A (X (i + 1)) (X (i + 2)) (X (i + 3)))] (z_shs, w1) Q
  refine z_aload_n 1 dL_law_1435 rfl rfl ?_
  refine z_arg dL_law_1436 dL_law_1437 dL_law_1438 dL_law_1439 dL_law_1440 rfl rfl hX1 hn1 (by decide) hi ?_
  refine z_arg dL_law_1441 dL_law_1442 dL_law_1443 dL_law_1444 dL_law_1445 rfl rfl hX1 hn1 (by decide) hi ?_
  refine z_arg dL_law_1446 dL_law_1447 dL_law_1448 dL_law_1449 dL_law_1450 rfl rfl hX1 hn1 (by decide) hi ?_
  refine z_callV (As := [z_i (X (i + 1)), z_i (X (i + 2)), z_i (X (i + 3))]) (rest := [z_i (z_qt A (X (i + 1)) (X (i + 2)) (X (i + 3)))]) zmX9_tightest znX9_tightest zsX9_tightest (show vwCl[9]? = some (RX9, TX9, 29) from rfl) zlRL_182 ⟨Nat.le_of_ble_eq_true rfl, Nat.le_of_ble_eq_true rfl⟩ dL_law_1451 z_shs_is.1 rfl rfl (z_ai (z_ai (z_ai z_a0))) (Nat.le_of_ble_eq_true rfl) (Nat.le_of_ble_eq_true rfl) ⟨by show z_shs.length + 0 ≤ 0 + 177; rw [z_shs_len]; decide, hz⟩ ?_
  refine z_CIm (K := fun x w2 => z_Sem mLw (0, z) 1454 (z_LL i) [z_i x, z_i (z_qt A (X (i + 1)) (X (i + 2)) (X (i + 3)))] (z_shs, w2) Q) (um_tightest _ _ _ z_shs_is jc.1.1 jc.1.2.2.2.1 jc.tbt jm1 (fun w2 j2 f2 => ?_)) (fun x w2 h => h)
  show z_Sem mLw (0, z) 1454 (z_LL i) [z_i (z_qt A (X (i + 1)) (X (i + 2)) (X (i + 3))), z_i (z_qt A (X (i + 1)) (X (i + 2)) (X (i + 3)))] (z_shs, w2) Q
  refine z_icmp_eq (tgt := 1905) dL_law_1454 (by decide) (fun _ => ?_) (fun c => absurd rfl c)
  exact kk w2 (z_Jfin j1 j2 f2 hX1 hn1)
theorem z_case41 (hw : z_J X n w) (hi : 0 ≤ i ∧ i + 6 ≤ n ∧ n ≤ 3072) (hR : ∀ j : Int, z_R (X j)) (hz : z ≤ 7302250) (kk : ∀ w', z_J X n w' → z_Sem mLw (0, z) 1905 (z_LL i) [] (z_shs, w') Q) : z_Sem mLw (0, z) 1459 (z_LL i) [] (z_shs, w) Q := by
  obtain ⟨A, H, T, er, s, jc, jm, hX, hn⟩ := hw
  refine z_aload_n 2 dL_law_1459 rfl rfl ?_
  refine z_arg dL_law_1460 dL_law_1461 dL_law_1462 dL_law_1463 dL_law_1464 rfl rfl hX hn (by decide) hi ?_
  refine z_callV (As := [z_i (X (i + 1))]) (rest := []) zmX8_spare znX8_spare zsX8_spare (show vwCl[8]? = some (RX8, TX8, 9) from rfl) zlRL_183 ⟨Nat.le_of_ble_eq_true rfl, Nat.le_of_ble_eq_true rfl⟩ dL_law_1465 z_shs_TG.1 rfl rfl (z_ai z_a0) (Nat.le_of_ble_eq_true rfl) (Nat.le_of_ble_eq_true rfl) ⟨by show z_shs.length + 0 ≤ 0 + 177; rw [z_shs_len]; decide, hz⟩ ?_
  refine z_CIm (K := fun x w1 => z_Sem mLw (0, z) 1468 (z_LL i) [z_i x] (z_shs, w1) Q) (uc_spare _ _ _ z_shs_TG jc (fun w1 j1 f1 => ?_)) (fun x w1 h => h)
  have hX1 : w1 1000 = X := (f1 1000 (by decide)).trans hX
  have hn1 : w1 1001 0 = n := by rw [f1 1001 (by decide)]; exact hn
  have jm1 := jm.fr f1
  show z_Sem mLw (0, z) 1468 (z_LL i) [z_i (z_qsp A (X (i + 1)))] (z_shs, w1) Q
  refine z_aload_n 1 dL_law_1468 rfl rfl ?_
  refine z_arg dL_law_1469 dL_law_1470 dL_law_1471 dL_law_1472 dL_law_1473 rfl rfl hX1 hn1 (by decide) hi ?_
  refine z_callV (As := [z_i (X (i + 1))]) (rest := [z_i (z_qsp A (X (i + 1)))]) zmX9_spare znX9_spare zsX9_spare (show vwCl[9]? = some (RX9, TX9, 29) from rfl) zlRL_186 ⟨Nat.le_of_ble_eq_true rfl, Nat.le_of_ble_eq_true rfl⟩ dL_law_1474 z_shs_is.1 rfl rfl (z_ai z_a0) (Nat.le_of_ble_eq_true rfl) (Nat.le_of_ble_eq_true rfl) ⟨by show z_shs.length + 0 ≤ 0 + 177; rw [z_shs_len]; decide, hz⟩ ?_
  refine z_CIm (K := fun x w2 => z_Sem mLw (0, z) 1477 (z_LL i) [z_i x, z_i (z_qsp A (X (i + 1)))] (z_shs, w2) Q) (um_spare _ _ _ z_shs_is jc.1.1 jc.1.2.2.2.1 jc.tbt jm1 (fun w2 j2 f2 => ?_)) (fun x w2 h => h)
  show z_Sem mLw (0, z) 1477 (z_LL i) [z_i (z_qsp A (X (i + 1))), z_i (z_qsp A (X (i + 1)))] (z_shs, w2) Q
  refine z_icmp_eq (tgt := 1905) dL_law_1477 (by decide) (fun _ => ?_) (fun c => absurd rfl c)
  exact kk w2 (z_Jfin j1 j2 f2 hX1 hn1)
theorem z_case42 (hw : z_J X n w) (hi : 0 ≤ i ∧ i + 6 ≤ n ∧ n ≤ 3072) (hR : ∀ j : Int, z_R (X j)) (hz : z ≤ 7302250) (kk : ∀ w', z_J X n w' → z_Sem mLw (0, z) 1905 (z_LL i) [] (z_shs, w') Q) : z_Sem mLw (0, z) 1482 (z_LL i) [] (z_shs, w) Q := by
  obtain ⟨A, H, T, er, s, jc, jm, hX, hn⟩ := hw
  refine z_aload_n 2 dL_law_1482 rfl rfl ?_
  refine z_callV (As := []) (rest := []) zmX8_needless znX8_needless zsX8_needless (show vwCl[8]? = some (RX8, TX8, 9) from rfl) zlRL_187 ⟨Nat.le_of_ble_eq_true rfl, Nat.le_of_ble_eq_true rfl⟩ dL_law_1483 z_shs_TG.1 rfl rfl z_a0 (Nat.le_of_ble_eq_true rfl) (Nat.le_of_ble_eq_true rfl) ⟨by show z_shs.length + 0 ≤ 0 + 177; rw [z_shs_len]; decide, hz⟩ ?_
  refine z_CIm (K := fun x w1 => z_Sem mLw (0, z) 1486 (z_LL i) [z_i x] (z_shs, w1) Q) (uc_needless _ _ _ z_shs_TG jc (fun w1 j1 f1 => ?_)) (fun x w1 h => h)
  have hX1 : w1 1000 = X := (f1 1000 (by decide)).trans hX
  have hn1 : w1 1001 0 = n := by rw [f1 1001 (by decide)]; exact hn
  have jm1 := jm.fr f1
  show z_Sem mLw (0, z) 1486 (z_LL i) [z_i (z_fn A)] (z_shs, w1) Q
  refine z_aload_n 1 dL_law_1486 rfl rfl ?_
  refine z_callV (As := []) (rest := [z_i (z_fn A)]) zmX9_needless znX9_needless zsX9_needless (show vwCl[9]? = some (RX9, TX9, 29) from rfl) zlRL_190 ⟨Nat.le_of_ble_eq_true rfl, Nat.le_of_ble_eq_true rfl⟩ dL_law_1487 z_shs_is.1 rfl rfl z_a0 (Nat.le_of_ble_eq_true rfl) (Nat.le_of_ble_eq_true rfl) ⟨by show z_shs.length + 0 ≤ 0 + 177; rw [z_shs_len]; decide, hz⟩ ?_
  refine z_CIm (K := fun x w2 => z_Sem mLw (0, z) 1490 (z_LL i) [z_i x, z_i (z_fn A)] (z_shs, w2) Q) (um_needless _ _ _ z_shs_is jc.1.1 jc.1.2.2.2.1 jc.tbt jm1 (fun w2 j2 f2 => ?_)) (fun x w2 h => h)
  show z_Sem mLw (0, z) 1490 (z_LL i) [z_i (z_fn A), z_i (z_fn A)] (z_shs, w2) Q
  refine z_icmp_eq (tgt := 1905) dL_law_1490 (by decide) (fun _ => ?_) (fun c => absurd rfl c)
  exact kk w2 (z_Jfin j1 j2 f2 hX1 hn1)
theorem z_case43 (hw : z_J X n w) (hi : 0 ≤ i ∧ i + 6 ≤ n ∧ n ≤ 3072) (hR : ∀ j : Int, z_R (X j)) (hz : z ≤ 7302250) (kk : ∀ w', z_J X n w' → z_Sem mLw (0, z) 1905 (z_LL i) [] (z_shs, w') Q) : z_Sem mLw (0, z) 1495 (z_LL i) [] (z_shs, w) Q := by
  obtain ⟨A, H, T, er, s, jc, jm, hX, hn⟩ := hw
  refine z_aload_n 2 dL_law_1495 rfl rfl ?_
  refine z_arg dL_law_1496 dL_law_1497 dL_law_1498 dL_law_1499 dL_law_1500 rfl rfl hX hn (by decide) hi ?_
  refine z_callV (As := [z_i (X (i + 1))]) (rest := []) zmX8_needs znX8_needs zsX8_needs (show vwCl[8]? = some (RX8, TX8, 9) from rfl) zlRL_191 ⟨Nat.le_of_ble_eq_true rfl, Nat.le_of_ble_eq_true rfl⟩ dL_law_1501 z_shs_TG.1 rfl rfl (z_ai z_a0) (Nat.le_of_ble_eq_true rfl) (Nat.le_of_ble_eq_true rfl) ⟨by show z_shs.length + 0 ≤ 0 + 177; rw [z_shs_len]; decide, hz⟩ ?_
  refine z_CIm (K := fun x w1 => z_Sem mLw (0, z) 1504 (z_LL i) [z_i x] (z_shs, w1) Q) (uc_needs _ _ _ z_shs_TG jc (fun w1 j1 f1 => ?_)) (fun x w1 h => h)
  have hX1 : w1 1000 = X := (f1 1000 (by decide)).trans hX
  have hn1 : w1 1001 0 = n := by rw [f1 1001 (by decide)]; exact hn
  have jm1 := jm.fr f1
  show z_Sem mLw (0, z) 1504 (z_LL i) [z_i (z_qn A (X (i + 1)))] (z_shs, w1) Q
  refine z_aload_n 1 dL_law_1504 rfl rfl ?_
  refine z_arg dL_law_1505 dL_law_1506 dL_law_1507 dL_law_1508 dL_law_1509 rfl rfl hX1 hn1 (by decide) hi ?_
  refine z_callV (As := [z_i (X (i + 1))]) (rest := [z_i (z_qn A (X (i + 1)))]) zmX9_needs znX9_needs zsX9_needs (show vwCl[9]? = some (RX9, TX9, 29) from rfl) zlRL_194 ⟨Nat.le_of_ble_eq_true rfl, Nat.le_of_ble_eq_true rfl⟩ dL_law_1510 z_shs_is.1 rfl rfl (z_ai z_a0) (Nat.le_of_ble_eq_true rfl) (Nat.le_of_ble_eq_true rfl) ⟨by show z_shs.length + 0 ≤ 0 + 177; rw [z_shs_len]; decide, hz⟩ ?_
  refine z_CIm (K := fun x w2 => z_Sem mLw (0, z) 1513 (z_LL i) [z_i x, z_i (z_qn A (X (i + 1)))] (z_shs, w2) Q) (um_needs _ _ _ z_shs_is jc.1.1 jc.1.2.2.2.1 jc.tbt jm1 (fun w2 j2 f2 => ?_)) (fun x w2 h => h)
  show z_Sem mLw (0, z) 1513 (z_LL i) [z_i (z_qn A (X (i + 1))), z_i (z_qn A (X (i + 1)))] (z_shs, w2) Q
  refine z_icmp_eq (tgt := 1905) dL_law_1513 (by decide) (fun _ => ?_) (fun c => absurd rfl c)
  exact kk w2 (z_Jfin j1 j2 f2 hX1 hn1)
theorem z_case44 (hw : z_J X n w) (hi : 0 ≤ i ∧ i + 6 ≤ n ∧ n ≤ 3072) (hR : ∀ j : Int, z_R (X j)) (hz : z ≤ 7302250) (kk : ∀ w', z_J X n w' → z_Sem mLw (0, z) 1905 (z_LL i) [] (z_shs, w') Q) : z_Sem mLw (0, z) 1518 (z_LL i) [] (z_shs, w) Q := by
  obtain ⟨A, H, T, er, s, jc, jm, hX, hn⟩ := hw
  refine z_aload_n 2 dL_law_1518 rfl rfl ?_
  refine z_arg dL_law_1519 dL_law_1520 dL_law_1521 dL_law_1522 dL_law_1523 rfl rfl hX hn (by decide) hi ?_
  refine z_arg dL_law_1524 dL_law_1525 dL_law_1526 dL_law_1527 dL_law_1528 rfl rfl hX hn (by decide) hi ?_
  refine z_arg dL_law_1529 dL_law_1530 dL_law_1531 dL_law_1532 dL_law_1533 rfl rfl hX hn (by decide) hi ?_
  refine z_arg dL_law_1534 dL_law_1535 dL_law_1536 dL_law_1537 dL_law_1538 rfl rfl hX hn (by decide) hi ?_
  refine z_arg dL_law_1539 dL_law_1540 dL_law_1541 dL_law_1542 dL_law_1543 rfl rfl hX hn (by decide) hi ?_
  refine z_callV (As := [z_i (X (i + 1)), z_i (X (i + 2)), z_i (X (i + 3)), z_i (X (i + 4)), z_i (X (i + 5))]) (rest := []) zmX8_ifTold znX8_ifTold zsX8_ifTold (show vwCl[8]? = some (RX8, TX8, 9) from rfl) zlRL_195 ⟨Nat.le_of_ble_eq_true rfl, Nat.le_of_ble_eq_true rfl⟩ dL_law_1544 z_shs_TG.1 rfl rfl (z_ai (z_ai (z_ai (z_ai (z_ai z_a0))))) (Nat.le_of_ble_eq_true rfl) (Nat.le_of_ble_eq_true rfl) ⟨by show z_shs.length + 0 ≤ 0 + 177; rw [z_shs_len]; decide, hz⟩ ?_
  refine z_CIm (K := fun x w1 => z_Sem mLw (0, z) 1547 (z_LL i) [z_i x] (z_shs, w1) Q) (uc_ifTold _ _ _ z_shs_TG jc (fun w1 j1 f1 => ?_)) (fun x w1 h => h)
  have hX1 : w1 1000 = X := (f1 1000 (by decide)).trans hX
  have hn1 : w1 1001 0 = n := by rw [f1 1001 (by decide)]; exact hn
  have jm1 := jm.fr f1
  show z_Sem mLw (0, z) 1547 (z_LL i) [z_i (z_qit A (X (i + 1)) (X (i + 2)) (X (i + 3)) (X (i + 4)) (X (i + 5)))] (z_shs, w1) Q
  refine z_aload_n 1 dL_law_1547 rfl rfl ?_
  refine z_arg dL_law_1548 dL_law_1549 dL_law_1550 dL_law_1551 dL_law_1552 rfl rfl hX1 hn1 (by decide) hi ?_
  refine z_arg dL_law_1553 dL_law_1554 dL_law_1555 dL_law_1556 dL_law_1557 rfl rfl hX1 hn1 (by decide) hi ?_
  refine z_arg dL_law_1558 dL_law_1559 dL_law_1560 dL_law_1561 dL_law_1562 rfl rfl hX1 hn1 (by decide) hi ?_
  refine z_arg dL_law_1563 dL_law_1564 dL_law_1565 dL_law_1566 dL_law_1567 rfl rfl hX1 hn1 (by decide) hi ?_
  refine z_arg dL_law_1568 dL_law_1569 dL_law_1570 dL_law_1571 dL_law_1572 rfl rfl hX1 hn1 (by decide) hi ?_
  refine z_callV (As := [z_i (X (i + 1)), z_i (X (i + 2)), z_i (X (i + 3)), z_i (X (i + 4)), z_i (X (i + 5))]) (rest := [z_i (z_qit A (X (i + 1)) (X (i + 2)) (X (i + 3)) (X (i + 4)) (X (i + 5)))]) zmX9_ifTold znX9_ifTold zsX9_ifTold (show vwCl[9]? = some (RX9, TX9, 29) from rfl) zlRL_198 ⟨Nat.le_of_ble_eq_true rfl, Nat.le_of_ble_eq_true rfl⟩ dL_law_1573 z_shs_is.1 rfl rfl (z_ai (z_ai (z_ai (z_ai (z_ai z_a0))))) (Nat.le_of_ble_eq_true rfl) (Nat.le_of_ble_eq_true rfl) ⟨by show z_shs.length + 0 ≤ 0 + 177; rw [z_shs_len]; decide, hz⟩ ?_
  refine z_CIm (K := fun x w2 => z_Sem mLw (0, z) 1576 (z_LL i) [z_i x, z_i (z_qit A (X (i + 1)) (X (i + 2)) (X (i + 3)) (X (i + 4)) (X (i + 5)))] (z_shs, w2) Q) (um_ifTold _ _ _ z_shs_is jc.1.1 jc.1.2.2.2.1 jc.tbt jm1 (fun w2 j2 f2 => ?_)) (fun x w2 h => h)
  show z_Sem mLw (0, z) 1576 (z_LL i) [z_i (z_qit A (X (i + 1)) (X (i + 2)) (X (i + 3)) (X (i + 4)) (X (i + 5))), z_i (z_qit A (X (i + 1)) (X (i + 2)) (X (i + 3)) (X (i + 4)) (X (i + 5)))] (z_shs, w2) Q
  refine z_icmp_eq (tgt := 1905) dL_law_1576 (by decide) (fun _ => ?_) (fun c => absurd rfl c)
  exact kk w2 (z_Jfin j1 j2 f2 hX1 hn1)
theorem z_case45 (hw : z_J X n w) (hi : 0 ≤ i ∧ i + 6 ≤ n ∧ n ≤ 3072) (hR : ∀ j : Int, z_R (X j)) (hz : z ≤ 7302250) (kk : ∀ w', z_J X n w' → z_Sem mLw (0, z) 1905 (z_LL i) [] (z_shs, w') Q) : z_Sem mLw (0, z) 1581 (z_LL i) [] (z_shs, w) Q := by
  obtain ⟨A, H, T, er, s, jc, jm, hX, hn⟩ := hw
  refine z_aload_n 2 dL_law_1581 rfl rfl ?_
  refine z_arg dL_law_1582 dL_law_1583 dL_law_1584 dL_law_1585 dL_law_1586 rfl rfl hX hn (by decide) hi ?_
  refine z_arg dL_law_1587 dL_law_1588 dL_law_1589 dL_law_1590 dL_law_1591 rfl rfl hX hn (by decide) hi ?_
  refine z_callV (As := [z_i (X (i + 1)), z_i (X (i + 2))]) (rest := []) zmX8_ifDropped znX8_ifDropped zsX8_ifDropped (show vwCl[8]? = some (RX8, TX8, 9) from rfl) zlRL_199 ⟨Nat.le_of_ble_eq_true rfl, Nat.le_of_ble_eq_true rfl⟩ dL_law_1592 z_shs_TG.1 rfl rfl (z_ai (z_ai z_a0)) (Nat.le_of_ble_eq_true rfl) (Nat.le_of_ble_eq_true rfl) ⟨by show z_shs.length + 0 ≤ 0 + 177; rw [z_shs_len]; decide, hz⟩ ?_
  refine z_CIm (K := fun x w1 => z_Sem mLw (0, z) 1595 (z_LL i) [z_i x] (z_shs, w1) Q) (uc_ifDropped _ _ _ z_shs_TG jc (fun w1 j1 f1 => ?_)) (fun x w1 h => h)
  have hX1 : w1 1000 = X := (f1 1000 (by decide)).trans hX
  have hn1 : w1 1001 0 = n := by rw [f1 1001 (by decide)]; exact hn
  have jm1 := jm.fr f1
  show z_Sem mLw (0, z) 1595 (z_LL i) [z_i (z_qid A (X (i + 1)) (X (i + 2)))] (z_shs, w1) Q
  refine z_aload_n 1 dL_law_1595 rfl rfl ?_
  refine z_arg dL_law_1596 dL_law_1597 dL_law_1598 dL_law_1599 dL_law_1600 rfl rfl hX1 hn1 (by decide) hi ?_
  refine z_arg dL_law_1601 dL_law_1602 dL_law_1603 dL_law_1604 dL_law_1605 rfl rfl hX1 hn1 (by decide) hi ?_
  refine z_callV (As := [z_i (X (i + 1)), z_i (X (i + 2))]) (rest := [z_i (z_qid A (X (i + 1)) (X (i + 2)))]) zmX9_ifDropped znX9_ifDropped zsX9_ifDropped (show vwCl[9]? = some (RX9, TX9, 29) from rfl) zlRL_202 ⟨Nat.le_of_ble_eq_true rfl, Nat.le_of_ble_eq_true rfl⟩ dL_law_1606 z_shs_is.1 rfl rfl (z_ai (z_ai z_a0)) (Nat.le_of_ble_eq_true rfl) (Nat.le_of_ble_eq_true rfl) ⟨by show z_shs.length + 0 ≤ 0 + 177; rw [z_shs_len]; decide, hz⟩ ?_
  refine z_CIm (K := fun x w2 => z_Sem mLw (0, z) 1609 (z_LL i) [z_i x, z_i (z_qid A (X (i + 1)) (X (i + 2)))] (z_shs, w2) Q) (um_ifDropped _ _ _ z_shs_is jc.1.1 jc.1.2.2.2.1 jc.tbt jm1 (fun w2 j2 f2 => ?_)) (fun x w2 h => h)
  show z_Sem mLw (0, z) 1609 (z_LL i) [z_i (z_qid A (X (i + 1)) (X (i + 2))), z_i (z_qid A (X (i + 1)) (X (i + 2)))] (z_shs, w2) Q
  refine z_icmp_eq (tgt := 1905) dL_law_1609 (by decide) (fun _ => ?_) (fun c => absurd rfl c)
  exact kk w2 (z_Jfin j1 j2 f2 hX1 hn1)
theorem z_case46 (hw : z_J X n w) (hi : 0 ≤ i ∧ i + 6 ≤ n ∧ n ≤ 3072) (hR : ∀ j : Int, z_R (X j)) (hz : z ≤ 7302250) (kk : ∀ w', z_J X n w' → z_Sem mLw (0, z) 1905 (z_LL i) [] (z_shs, w') Q) : z_Sem mLw (0, z) 1614 (z_LL i) [] (z_shs, w) Q := by
  obtain ⟨A, H, T, er, s, jc, jm, hX, hn⟩ := hw
  refine z_aload_n 2 dL_law_1614 rfl rfl ?_
  refine z_arg dL_law_1615 dL_law_1616 dL_law_1617 dL_law_1618 dL_law_1619 rfl rfl hX hn (by decide) hi ?_
  refine z_arg dL_law_1620 dL_law_1621 dL_law_1622 dL_law_1623 dL_law_1624 rfl rfl hX hn (by decide) hi ?_
  refine z_callV (As := [z_i (X (i + 1)), z_i (X (i + 2))]) (rest := []) zmX8_ifTurned znX8_ifTurned zsX8_ifTurned (show vwCl[8]? = some (RX8, TX8, 9) from rfl) zlRL_203 ⟨Nat.le_of_ble_eq_true rfl, Nat.le_of_ble_eq_true rfl⟩ dL_law_1625 z_shs_TG.1 rfl rfl (z_ai (z_ai z_a0)) (Nat.le_of_ble_eq_true rfl) (Nat.le_of_ble_eq_true rfl) ⟨by show z_shs.length + 0 ≤ 0 + 177; rw [z_shs_len]; decide, hz⟩ ?_
  refine z_CIm (K := fun x w1 => z_Sem mLw (0, z) 1628 (z_LL i) [z_i x] (z_shs, w1) Q) (uc_ifTurned _ _ _ z_shs_TG jc (fun w1 j1 f1 => ?_)) (fun x w1 h => h)
  have hX1 : w1 1000 = X := (f1 1000 (by decide)).trans hX
  have hn1 : w1 1001 0 = n := by rw [f1 1001 (by decide)]; exact hn
  have jm1 := jm.fr f1
  show z_Sem mLw (0, z) 1628 (z_LL i) [z_i (z_qitu A (X (i + 1)) (X (i + 2)))] (z_shs, w1) Q
  refine z_aload_n 1 dL_law_1628 rfl rfl ?_
  refine z_arg dL_law_1629 dL_law_1630 dL_law_1631 dL_law_1632 dL_law_1633 rfl rfl hX1 hn1 (by decide) hi ?_
  refine z_arg dL_law_1634 dL_law_1635 dL_law_1636 dL_law_1637 dL_law_1638 rfl rfl hX1 hn1 (by decide) hi ?_
  refine z_callV (As := [z_i (X (i + 1)), z_i (X (i + 2))]) (rest := [z_i (z_qitu A (X (i + 1)) (X (i + 2)))]) zmX9_ifTurned znX9_ifTurned zsX9_ifTurned (show vwCl[9]? = some (RX9, TX9, 29) from rfl) zlRL_206 ⟨Nat.le_of_ble_eq_true rfl, Nat.le_of_ble_eq_true rfl⟩ dL_law_1639 z_shs_is.1 rfl rfl (z_ai (z_ai z_a0)) (Nat.le_of_ble_eq_true rfl) (Nat.le_of_ble_eq_true rfl) ⟨by show z_shs.length + 0 ≤ 0 + 177; rw [z_shs_len]; decide, hz⟩ ?_
  refine z_CIm (K := fun x w2 => z_Sem mLw (0, z) 1642 (z_LL i) [z_i x, z_i (z_qitu A (X (i + 1)) (X (i + 2)))] (z_shs, w2) Q) (um_ifTurned _ _ _ z_shs_is jc.1.1 jc.1.2.2.2.1 jc.tbt jm1 (fun w2 j2 f2 => ?_)) (fun x w2 h => h)
  show z_Sem mLw (0, z) 1642 (z_LL i) [z_i (z_qitu A (X (i + 1)) (X (i + 2))), z_i (z_qitu A (X (i + 1)) (X (i + 2)))] (z_shs, w2) Q
  refine z_icmp_eq (tgt := 1905) dL_law_1642 (by decide) (fun _ => ?_) (fun c => absurd rfl c)
  exact kk w2 (z_Jfin j1 j2 f2 hX1 hn1)
theorem z_case47 (hw : z_J X n w) (hi : 0 ≤ i ∧ i + 6 ≤ n ∧ n ≤ 3072) (hR : ∀ j : Int, z_R (X j)) (hz : z ≤ 7302250) (kk : ∀ w', z_J X n w' → z_Sem mLw (0, z) 1905 (z_LL i) [] (z_shs, w') Q) : z_Sem mLw (0, z) 1647 (z_LL i) [] (z_shs, w) Q := by
  obtain ⟨A, H, T, er, s, jc, jm, hX, hn⟩ := hw
  refine z_aload_n 2 dL_law_1647 rfl rfl ?_
  refine z_arg dL_law_1648 dL_law_1649 dL_law_1650 dL_law_1651 dL_law_1652 rfl rfl hX hn (by decide) hi ?_
  refine z_arg dL_law_1653 dL_law_1654 dL_law_1655 dL_law_1656 dL_law_1657 rfl rfl hX hn (by decide) hi ?_
  refine z_arg dL_law_1658 dL_law_1659 dL_law_1660 dL_law_1661 dL_law_1662 rfl rfl hX hn (by decide) hi ?_
  refine z_callV (As := [z_i (X (i + 1)), z_i (X (i + 2)), z_i (X (i + 3))]) (rest := []) zmX8_ifPinned znX8_ifPinned zsX8_ifPinned (show vwCl[8]? = some (RX8, TX8, 9) from rfl) zlRL_207 ⟨Nat.le_of_ble_eq_true rfl, Nat.le_of_ble_eq_true rfl⟩ dL_law_1663 z_shs_TG.1 rfl rfl (z_ai (z_ai (z_ai z_a0))) (Nat.le_of_ble_eq_true rfl) (Nat.le_of_ble_eq_true rfl) ⟨by show z_shs.length + 0 ≤ 0 + 177; rw [z_shs_len]; decide, hz⟩ ?_
  refine z_CIm (K := fun x w1 => z_Sem mLw (0, z) 1666 (z_LL i) [z_i x] (z_shs, w1) Q) (uc_ifPinned _ _ _ z_shs_TG jc (fun w1 j1 f1 => ?_)) (fun x w1 h => h)
  have hX1 : w1 1000 = X := (f1 1000 (by decide)).trans hX
  have hn1 : w1 1001 0 = n := by rw [f1 1001 (by decide)]; exact hn
  have jm1 := jm.fr f1
  show z_Sem mLw (0, z) 1666 (z_LL i) [z_i (z_qip A (X (i + 1)) (X (i + 2)) (X (i + 3)))] (z_shs, w1) Q
  refine z_aload_n 1 dL_law_1666 rfl rfl ?_
  refine z_arg dL_law_1667 dL_law_1668 dL_law_1669 dL_law_1670 dL_law_1671 rfl rfl hX1 hn1 (by decide) hi ?_
  refine z_arg dL_law_1672 dL_law_1673 dL_law_1674 dL_law_1675 dL_law_1676 rfl rfl hX1 hn1 (by decide) hi ?_
  refine z_arg dL_law_1677 dL_law_1678 dL_law_1679 dL_law_1680 dL_law_1681 rfl rfl hX1 hn1 (by decide) hi ?_
  refine z_callV (As := [z_i (X (i + 1)), z_i (X (i + 2)), z_i (X (i + 3))]) (rest := [z_i (z_qip A (X (i + 1)) (X (i + 2)) (X (i + 3)))]) zmX9_ifPinned znX9_ifPinned zsX9_ifPinned (show vwCl[9]? = some (RX9, TX9, 29) from rfl) zlRL_210 ⟨Nat.le_of_ble_eq_true rfl, Nat.le_of_ble_eq_true rfl⟩ dL_law_1682 z_shs_is.1 rfl rfl (z_ai (z_ai (z_ai z_a0))) (Nat.le_of_ble_eq_true rfl) (Nat.le_of_ble_eq_true rfl) ⟨by show z_shs.length + 0 ≤ 0 + 177; rw [z_shs_len]; decide, hz⟩ ?_
  refine z_CIm (K := fun x w2 => z_Sem mLw (0, z) 1685 (z_LL i) [z_i x, z_i (z_qip A (X (i + 1)) (X (i + 2)) (X (i + 3)))] (z_shs, w2) Q) (um_ifPinned _ _ _ z_shs_is jc.1.1 jc.1.2.2.2.1 jc.tbt jm1 (fun w2 j2 f2 => ?_)) (fun x w2 h => h)
  show z_Sem mLw (0, z) 1685 (z_LL i) [z_i (z_qip A (X (i + 1)) (X (i + 2)) (X (i + 3))), z_i (z_qip A (X (i + 1)) (X (i + 2)) (X (i + 3)))] (z_shs, w2) Q
  refine z_icmp_eq (tgt := 1905) dL_law_1685 (by decide) (fun _ => ?_) (fun c => absurd rfl c)
  exact kk w2 (z_Jfin j1 j2 f2 hX1 hn1)
theorem z_case48 (hw : z_J X n w) (hi : 0 ≤ i ∧ i + 6 ≤ n ∧ n ≤ 3072) (hR : ∀ j : Int, z_R (X j)) (hz : z ≤ 7302250) (kk : ∀ w', z_J X n w' → z_Sem mLw (0, z) 1905 (z_LL i) [] (z_shs, w') Q) : z_Sem mLw (0, z) 1690 (z_LL i) [] (z_shs, w) Q := by
  obtain ⟨A, H, T, er, s, jc, jm, hX, hn⟩ := hw
  refine z_aload_n 2 dL_law_1690 rfl rfl ?_
  refine z_callV (As := []) (rest := []) zmX8_leastEnd znX8_leastEnd zsX8_leastEnd (show vwCl[8]? = some (RX8, TX8, 9) from rfl) zlRL_211 ⟨Nat.le_of_ble_eq_true rfl, Nat.le_of_ble_eq_true rfl⟩ dL_law_1691 z_shs_TG.1 rfl rfl z_a0 (Nat.le_of_ble_eq_true rfl) (Nat.le_of_ble_eq_true rfl) ⟨by show z_shs.length + 0 ≤ 0 + 177; rw [z_shs_len]; decide, hz⟩ ?_
  refine z_CIm (K := fun x w1 => z_Sem mLw (0, z) 1694 (z_LL i) [z_i x] (z_shs, w1) Q) (uc_leastEnd _ _ _ z_shs_TG jc (fun w1 j1 f1 => ?_)) (fun x w1 h => h)
  have hX1 : w1 1000 = X := (f1 1000 (by decide)).trans hX
  have hn1 : w1 1001 0 = n := by rw [f1 1001 (by decide)]; exact hn
  have jm1 := jm.fr f1
  show z_Sem mLw (0, z) 1694 (z_LL i) [z_i (max 1 (z_ge A (A 1 0).toNat))] (z_shs, w1) Q
  refine z_aload_n 1 dL_law_1694 rfl rfl ?_
  refine z_callV (As := []) (rest := [z_i (max 1 (z_ge A (A 1 0).toNat))]) zmX9_leastEnd znX9_leastEnd zsX9_leastEnd (show vwCl[9]? = some (RX9, TX9, 29) from rfl) zlRL_214 ⟨Nat.le_of_ble_eq_true rfl, Nat.le_of_ble_eq_true rfl⟩ dL_law_1695 z_shs_is.1 rfl rfl z_a0 (Nat.le_of_ble_eq_true rfl) (Nat.le_of_ble_eq_true rfl) ⟨by show z_shs.length + 0 ≤ 0 + 177; rw [z_shs_len]; decide, hz⟩ ?_
  refine z_CIm (K := fun x w2 => z_Sem mLw (0, z) 1698 (z_LL i) [z_i x, z_i (max 1 (z_ge A (A 1 0).toNat))] (z_shs, w2) Q) (um_leastEnd _ _ _ z_shs_is jc.1.1 jc.1.2.2.2.1 jc.tbt jm1 (fun w2 j2 f2 => ?_)) (fun x w2 h => h)
  show z_Sem mLw (0, z) 1698 (z_LL i) [z_i (max 1 (z_ge A (A 1 0).toNat)), z_i (max 1 (z_ge A (A 1 0).toNat))] (z_shs, w2) Q
  refine z_icmp_eq (tgt := 1905) dL_law_1698 (by decide) (fun _ => ?_) (fun c => absurd rfl c)
  exact kk w2 (z_Jfin j1 j2 f2 hX1 hn1)
theorem z_case49 (hw : z_J X n w) (hi : 0 ≤ i ∧ i + 6 ≤ n ∧ n ≤ 3072) (hR : ∀ j : Int, z_R (X j)) (hz : z ≤ 7302250) (kk : ∀ w', z_J X n w' → z_Sem mLw (0, z) 1905 (z_LL i) [] (z_shs, w') Q) : z_Sem mLw (0, z) 1703 (z_LL i) [] (z_shs, w) Q := by
  obtain ⟨A, H, T, er, s, jc, jm, hX, hn⟩ := hw
  refine z_aload_n 2 dL_law_1703 rfl rfl ?_
  refine z_callV (As := []) (rest := []) zmX8_slowest znX8_slowest zsX8_slowest (show vwCl[8]? = some (RX8, TX8, 9) from rfl) zlRL_215 ⟨Nat.le_of_ble_eq_true rfl, Nat.le_of_ble_eq_true rfl⟩ dL_law_1704 z_shs_TG.1 rfl rfl z_a0 (Nat.le_of_ble_eq_true rfl) (Nat.le_of_ble_eq_true rfl) ⟨by show z_shs.length + 0 ≤ 0 + 177; rw [z_shs_len]; decide, hz⟩ ?_
  refine z_CIm (K := fun x w1 => z_Sem mLw (0, z) 1707 (z_LL i) [z_i x] (z_shs, w1) Q) (uc_slowest _ _ _ z_shs_TG jc (fun w1 j1 f1 => ?_)) (fun x w1 h => h)
  have hX1 : w1 1000 = X := (f1 1000 (by decide)).trans hX
  have hn1 : w1 1001 0 = n := by rw [f1 1001 (by decide)]; exact hn
  have jm1 := jm.fr f1
  show z_Sem mLw (0, z) 1707 (z_LL i) [z_i (z_slw A (A 2 0).toNat).1] (z_shs, w1) Q
  refine z_aload_n 1 dL_law_1707 rfl rfl ?_
  refine z_callV (As := []) (rest := [z_i (z_slw A (A 2 0).toNat).1]) zmX9_slowest znX9_slowest zsX9_slowest (show vwCl[9]? = some (RX9, TX9, 29) from rfl) zlRL_218 ⟨Nat.le_of_ble_eq_true rfl, Nat.le_of_ble_eq_true rfl⟩ dL_law_1708 z_shs_is.1 rfl rfl z_a0 (Nat.le_of_ble_eq_true rfl) (Nat.le_of_ble_eq_true rfl) ⟨by show z_shs.length + 0 ≤ 0 + 177; rw [z_shs_len]; decide, hz⟩ ?_
  refine z_CIm (K := fun x w2 => z_Sem mLw (0, z) 1711 (z_LL i) [z_i x, z_i (z_slw A (A 2 0).toNat).1] (z_shs, w2) Q) (um_slowest _ _ _ z_shs_is jc.1.1 jc.1.2.2.2.1 jc.tbt jm1 (fun w2 j2 f2 => ?_)) (fun x w2 h => h)
  show z_Sem mLw (0, z) 1711 (z_LL i) [z_i (z_slw A (A 2 0).toNat).1, z_i (z_slw A (A 2 0).toNat).1] (z_shs, w2) Q
  refine z_icmp_eq (tgt := 1905) dL_law_1711 (by decide) (fun _ => ?_) (fun c => absurd rfl c)
  exact kk w2 (z_Jfin j1 j2 f2 hX1 hn1)
theorem z_case50 (hw : z_J X n w) (hi : 0 ≤ i ∧ i + 6 ≤ n ∧ n ≤ 3072) (hR : ∀ j : Int, z_R (X j)) (hz : z ≤ 7302250) (kk : ∀ w', z_J X n w' → z_Sem mLw (0, z) 1905 (z_LL i) [] (z_shs, w') Q) : z_Sem mLw (0, z) 1716 (z_LL i) [] (z_shs, w) Q := by
  obtain ⟨A, H, T, er, s, jc, jm, hX, hn⟩ := hw
  refine z_aload_n 2 dL_law_1716 rfl rfl ?_
  refine z_arg dL_law_1717 dL_law_1718 dL_law_1719 dL_law_1720 dL_law_1721 rfl rfl hX hn (by decide) hi ?_
  refine z_arg dL_law_1722 dL_law_1723 dL_law_1724 dL_law_1725 dL_law_1726 rfl rfl hX hn (by decide) hi ?_
  refine z_callV (As := [z_i (X (i + 1)), z_i (X (i + 2))]) (rest := []) zmX8_log znX8_log zsX8_log (show vwCl[8]? = some (RX8, TX8, 9) from rfl) zlRL_219 ⟨Nat.le_of_ble_eq_true rfl, Nat.le_of_ble_eq_true rfl⟩ dL_law_1727 z_shs_TG.1 rfl rfl (z_ai (z_ai z_a0)) (Nat.le_of_ble_eq_true rfl) (Nat.le_of_ble_eq_true rfl) ⟨by show z_shs.length + 0 ≤ 0 + 177; rw [z_shs_len]; decide, hz⟩ ?_
  refine z_CIm (K := fun x w1 => z_Sem mLw (0, z) 1730 (z_LL i) [z_i x] (z_shs, w1) Q) (uc_log _ _ _ z_shs_TG jc (fun w1 j1 f1 => ?_)) (fun x w1 h => h)
  have hX1 : w1 1000 = X := (f1 1000 (by decide)).trans hX
  have hn1 : w1 1001 0 = n := by rw [f1 1001 (by decide)]; exact hn
  have jm1 := jm.fr f1
  show z_Sem mLw (0, z) 1730 (z_LL i) [z_i (z_ql A (X (i + 1)) (X (i + 2)))] (z_shs, w1) Q
  refine z_aload_n 1 dL_law_1730 rfl rfl ?_
  refine z_arg dL_law_1731 dL_law_1732 dL_law_1733 dL_law_1734 dL_law_1735 rfl rfl hX1 hn1 (by decide) hi ?_
  refine z_arg dL_law_1736 dL_law_1737 dL_law_1738 dL_law_1739 dL_law_1740 rfl rfl hX1 hn1 (by decide) hi ?_
  refine z_callV (As := [z_i (X (i + 1)), z_i (X (i + 2))]) (rest := [z_i (z_ql A (X (i + 1)) (X (i + 2)))]) zmX9_log znX9_log zsX9_log (show vwCl[9]? = some (RX9, TX9, 29) from rfl) zlRL_222 ⟨Nat.le_of_ble_eq_true rfl, Nat.le_of_ble_eq_true rfl⟩ dL_law_1741 z_shs_is.1 rfl rfl (z_ai (z_ai z_a0)) (Nat.le_of_ble_eq_true rfl) (Nat.le_of_ble_eq_true rfl) ⟨by show z_shs.length + 0 ≤ 0 + 177; rw [z_shs_len]; decide, hz⟩ ?_
  refine z_CIm (K := fun x w2 => z_Sem mLw (0, z) 1744 (z_LL i) [z_i x, z_i (z_ql A (X (i + 1)) (X (i + 2)))] (z_shs, w2) Q) (um_log _ _ _ z_shs_is jc.1.1 jc.1.2.2.2.1 jc.tbt jm1 (fun w2 j2 f2 => ?_)) (fun x w2 h => h)
  show z_Sem mLw (0, z) 1744 (z_LL i) [z_i (z_ql A (X (i + 1)) (X (i + 2))), z_i (z_ql A (X (i + 1)) (X (i + 2)))] (z_shs, w2) Q
  refine z_icmp_eq (tgt := 1905) dL_law_1744 (by decide) (fun _ => ?_) (fun c => absurd rfl c)
  exact kk w2 (z_Jfin j1 j2 f2 hX1 hn1)
theorem z_case51 (hw : z_J X n w) (hi : 0 ≤ i ∧ i + 6 ≤ n ∧ n ≤ 3072) (hR : ∀ j : Int, z_R (X j)) (hz : z ≤ 7302250) (kk : ∀ w', z_J X n w' → z_Sem mLw (0, z) 1905 (z_LL i) [] (z_shs, w') Q) : z_Sem mLw (0, z) 1749 (z_LL i) [] (z_shs, w) Q := by
  obtain ⟨A, H, T, er, s, jc, jm, hX, hn⟩ := hw
  refine z_aload_n 2 dL_law_1749 rfl rfl ?_
  refine z_callV (As := []) (rest := []) zmX8_tightShare znX8_tightShare zsX8_tightShare (show vwCl[8]? = some (RX8, TX8, 9) from rfl) zlRL_223 ⟨Nat.le_of_ble_eq_true rfl, Nat.le_of_ble_eq_true rfl⟩ dL_law_1750 z_shs_TG.1 rfl rfl z_a0 (Nat.le_of_ble_eq_true rfl) (Nat.le_of_ble_eq_true rfl) ⟨by show z_shs.length + 0 ≤ 0 + 177; rw [z_shs_len]; decide, hz⟩ ?_
  refine z_CFm (K := fun x w1 => z_Sem mLw (0, z) 1753 (z_LL i) [z_f x] (z_shs, w1) Q) (uc_tightShare _ _ _ z_shs_TG jc (fun w1 j1 f1 => ?_)) (fun x w1 h => h)
  have hX1 : w1 1000 = X := (f1 1000 (by decide)).trans hX
  have hn1 : w1 1001 0 = n := by rw [f1 1001 (by decide)]; exact hn
  have jm1 := jm.fr f1
  show z_Sem mLw (0, z) 1753 (z_LL i) [z_f ((z_tsv A))] (z_shs, w1) Q
  have hnan := z_tsv_n (A := A) jc.1.1.1
  refine z_f2d dL_law_1753 hnan ?_
  refine z_dstore dL_law_1754 (by decide) rfl ?_
  refine z_aload_n 2 dL_law_1756 rfl rfl ?_
  refine z_callV (As := []) (rest := []) zmX9_tightShare znX9_tightShare zsX9_tightShare (show vwCl[9]? = some (RX9, TX9, 29) from rfl) zlRL_227 ⟨Nat.le_of_ble_eq_true rfl, Nat.le_of_ble_eq_true rfl⟩ dL_law_1757 z_shs_is.1 rfl rfl z_a0 (Nat.le_of_ble_eq_true rfl) (Nat.le_of_ble_eq_true rfl) ⟨by show z_shs.length + 0 ≤ 0 + 177; rw [z_shs_len]; decide, hz⟩ ?_
  refine z_CFm (K := fun x w2 => z_Sem mLw (0, z) 1760 ((4, z_d (FP.f2d (z_tsv A))) :: z_LL i) [z_f x] (z_shs, w2) Q) (um_tightShare _ _ _ z_shs_is jc.1.1 jc.1.2.2.2.1 jc.tbt jm1 (fun w2 j2 f2 => ?_)) (fun x w2 h => h)
  show z_Sem mLw (0, z) 1760 ((4, z_d (FP.f2d (z_tsv A))) :: z_LL i) [z_f ((z_tsv A))] (z_shs, w2) Q
  refine z_f2d dL_law_1760 hnan ?_
  refine z_dstore dL_law_1761 (by decide) rfl ?_
  show z_Sem mLw (0, z) 1763 ((6, z_d (FP.f2d (z_tsv A))) :: (4, z_d (FP.f2d (z_tsv A))) :: z_LL i) [] (z_shs, w2) Q
  refine z_dload 1 dL_law_1763 rfl ?_
  refine z_dload 0 dL_law_1765 rfl ?_
  refine z_dcmp (v := 0) dL_law_1767 (by rw [z_dcc hnan]; rfl) (by constructor <;> decide) ?_
  refine z_if_eq (tgt := 1789) dL_law_1768 (by decide) (fun _ => ?_) (fun c => absurd rfl c)
  refine z_goto (tgt := 1905) dL_law_1789 (by decide) ?_
  refine z_sub [2, 3, 4, 5] (L' := z_LL i) rfl ?_
  exact kk w2 (z_Jfin j1 j2 f2 hX1 hn1)
theorem z_case52 (hw : z_J X n w) (hi : 0 ≤ i ∧ i + 6 ≤ n ∧ n ≤ 3072) (hR : ∀ j : Int, z_R (X j)) (hz : z ≤ 7302250) (kk : ∀ w', z_J X n w' → z_Sem mLw (0, z) 1905 (z_LL i) [] (z_shs, w') Q) : z_Sem mLw (0, z) 1792 (z_LL i) [] (z_shs, w) Q := by
  obtain ⟨A, H, T, er, s, jc, jm, hX, hn⟩ := hw
  refine z_aload_n 2 dL_law_1792 rfl rfl ?_
  refine z_callV (As := []) (rest := []) zmX8_meanRoom znX8_meanRoom zsX8_meanRoom (show vwCl[8]? = some (RX8, TX8, 9) from rfl) zlRL_228 ⟨Nat.le_of_ble_eq_true rfl, Nat.le_of_ble_eq_true rfl⟩ dL_law_1793 z_shs_TG.1 rfl rfl z_a0 (Nat.le_of_ble_eq_true rfl) (Nat.le_of_ble_eq_true rfl) ⟨by show z_shs.length + 0 ≤ 0 + 177; rw [z_shs_len]; decide, hz⟩ ?_
  refine z_CDm (K := fun x w1 => z_Sem mLw (0, z) 1796 (z_LL i) [z_d x] (z_shs, w1) Q) (uc_meanRoom _ _ _ z_shs_TG jc (fun w1 j1 f1 => ?_)) (fun x w1 h => h)
  have hX1 : w1 1000 = X := (f1 1000 (by decide)).trans hX
  have hn1 : w1 1001 0 = n := by rw [f1 1001 (by decide)]; exact hn
  have jm1 := jm.fr f1
  show z_Sem mLw (0, z) 1796 (z_LL i) [z_d ((z_mrm A))] (z_shs, w1) Q
  have hnan : vf_n64 (z_mrm A) := z_n64_div _ jc.1.1.1.2.1
  refine z_dstore dL_law_1796 (by decide) rfl ?_
  refine z_aload_n 2 dL_law_1798 rfl rfl ?_
  refine z_callV (As := []) (rest := []) zmX9_meanRoom znX9_meanRoom zsX9_meanRoom (show vwCl[9]? = some (RX9, TX9, 29) from rfl) zlRL_232 ⟨Nat.le_of_ble_eq_true rfl, Nat.le_of_ble_eq_true rfl⟩ dL_law_1799 z_shs_is.1 rfl rfl z_a0 (Nat.le_of_ble_eq_true rfl) (Nat.le_of_ble_eq_true rfl) ⟨by show z_shs.length + 0 ≤ 0 + 177; rw [z_shs_len]; decide, hz⟩ ?_
  refine z_CDm (K := fun x w2 => z_Sem mLw (0, z) 1802 ((4, z_d (z_mrm A)) :: z_LL i) [z_d x] (z_shs, w2) Q) (um_meanRoom _ _ _ z_shs_is jc.1.1 jc.1.2.2.2.1 jc.tbt jm1 (fun w2 j2 f2 => ?_)) (fun x w2 h => h)
  show z_Sem mLw (0, z) 1802 ((4, z_d (z_mrm A)) :: z_LL i) [z_d ((z_mrm A))] (z_shs, w2) Q
  refine z_dstore dL_law_1802 (by decide) rfl ?_
  show z_Sem mLw (0, z) 1804 ((6, z_d (z_mrm A)) :: (4, z_d (z_mrm A)) :: z_LL i) [] (z_shs, w2) Q
  refine z_dload 1 dL_law_1804 rfl ?_
  refine z_dload 0 dL_law_1806 rfl ?_
  refine z_dcmp (v := 0) dL_law_1808 (by rw [z_dcc hnan]; rfl) (by constructor <;> decide) ?_
  refine z_if_eq (tgt := 1830) dL_law_1809 (by decide) (fun _ => ?_) (fun c => absurd rfl c)
  refine z_goto (tgt := 1905) dL_law_1830 (by decide) ?_
  refine z_sub [2, 3, 4, 5] (L' := z_LL i) rfl ?_
  exact kk w2 (z_Jfin j1 j2 f2 hX1 hn1)
theorem z_case53 (hw : z_J X n w) (hi : 0 ≤ i ∧ i + 6 ≤ n ∧ n ≤ 3072) (hR : ∀ j : Int, z_R (X j)) (hz : z ≤ 7302250) (kk : ∀ w', z_J X n w' → z_Sem mLw (0, z) 1905 (z_LL i) [] (z_shs, w') Q) : z_Sem mLw (0, z) 1833 (z_LL i) [] (z_shs, w) Q := by
  obtain ⟨A, H, T, er, s, jc, jm, hX, hn⟩ := hw
  refine z_aload_n 2 dL_law_1833 rfl rfl ?_
  refine z_callV (As := []) (rest := []) zmX8_listLength znX8_listLength zsX8_listLength (show vwCl[8]? = some (RX8, TX8, 9) from rfl) zlRL_233 ⟨Nat.le_of_ble_eq_true rfl, Nat.le_of_ble_eq_true rfl⟩ dL_law_1834 z_shs_TG.1 rfl rfl z_a0 (Nat.le_of_ble_eq_true rfl) (Nat.le_of_ble_eq_true rfl) ⟨by show z_shs.length + 0 ≤ 0 + 177; rw [z_shs_len]; decide, hz⟩ ?_
  refine z_CIm (K := fun x w1 => z_Sem mLw (0, z) 1837 (z_LL i) [z_i x] (z_shs, w1) Q) (uc_listLength _ _ _ z_shs_TG jc (fun w1 j1 f1 => ?_)) (fun x w1 h => h)
  have hX1 : w1 1000 = X := (f1 1000 (by decide)).trans hX
  have hn1 : w1 1001 0 = n := by rw [f1 1001 (by decide)]; exact hn
  have jm1 := jm.fr f1
  show z_Sem mLw (0, z) 1837 (z_LL i) [z_i ((z_xl A (A 1 0).toNat).length : Int)] (z_shs, w1) Q
  refine z_aload_n 1 dL_law_1837 rfl rfl ?_
  refine z_callV (As := []) (rest := [z_i ((z_xl A (A 1 0).toNat).length : Int)]) zmX9_listLength znX9_listLength zsX9_listLength (show vwCl[9]? = some (RX9, TX9, 29) from rfl) zlRL_236 ⟨Nat.le_of_ble_eq_true rfl, Nat.le_of_ble_eq_true rfl⟩ dL_law_1838 z_shs_is.1 rfl rfl z_a0 (Nat.le_of_ble_eq_true rfl) (Nat.le_of_ble_eq_true rfl) ⟨by show z_shs.length + 0 ≤ 0 + 177; rw [z_shs_len]; decide, hz⟩ ?_
  refine z_CIm (K := fun x w2 => z_Sem mLw (0, z) 1841 (z_LL i) [z_i x, z_i ((z_xl A (A 1 0).toNat).length : Int)] (z_shs, w2) Q) (um_listLength _ _ _ z_shs_is jc.1.1 jc.1.2.2.2.1 jc.tbt jm1 (fun w2 j2 f2 => ?_)) (fun x w2 h => h)
  show z_Sem mLw (0, z) 1841 (z_LL i) [z_i ((z_xl A (A 1 0).toNat).length : Int), z_i ((z_xl A (A 1 0).toNat).length : Int)] (z_shs, w2) Q
  refine z_icmp_eq (tgt := 1905) dL_law_1841 (by decide) (fun _ => ?_) (fun c => absurd rfl c)
  exact kk w2 (z_Jfin j1 j2 f2 hX1 hn1)
theorem z_case54 (hw : z_J X n w) (hi : 0 ≤ i ∧ i + 6 ≤ n ∧ n ≤ 3072) (hR : ∀ j : Int, z_R (X j)) (hz : z ≤ 7302250) (kk : ∀ w', z_J X n w' → z_Sem mLw (0, z) 1905 (z_LL i) [] (z_shs, w') Q) : z_Sem mLw (0, z) 1846 (z_LL i) [] (z_shs, w) Q := by
  obtain ⟨A, H, T, er, s, jc, jm, hX, hn⟩ := hw
  refine z_aload_n 2 dL_law_1846 rfl rfl ?_
  refine z_arg dL_law_1847 dL_law_1848 dL_law_1849 dL_law_1850 dL_law_1851 rfl rfl hX hn (by decide) hi ?_
  refine z_callV (As := [z_i (X (i + 1))]) (rest := []) zmX8_listByte znX8_listByte zsX8_listByte (show vwCl[8]? = some (RX8, TX8, 9) from rfl) zlRL_237 ⟨Nat.le_of_ble_eq_true rfl, Nat.le_of_ble_eq_true rfl⟩ dL_law_1852 z_shs_TG.1 rfl rfl (z_ai z_a0) (Nat.le_of_ble_eq_true rfl) (Nat.le_of_ble_eq_true rfl) ⟨by show z_shs.length + 0 ≤ 0 + 177; rw [z_shs_len]; decide, hz⟩ ?_
  refine z_CIm (K := fun x w1 => z_Sem mLw (0, z) 1855 (z_LL i) [z_i x] (z_shs, w1) Q) (uc_listByte _ _ _ z_shs_TG jc (fun w1 j1 f1 => ?_)) (fun x w1 h => h)
  have hX1 : w1 1000 = X := (f1 1000 (by decide)).trans hX
  have hn1 : w1 1001 0 = n := by rw [f1 1001 (by decide)]; exact hn
  have jm1 := jm.fr f1
  show z_Sem mLw (0, z) 1855 (z_LL i) [z_i (z_tb3 (z_xl A (A 1 0).toNat) (X (i + 1)))] (z_shs, w1) Q
  refine z_aload_n 1 dL_law_1855 rfl rfl ?_
  refine z_arg dL_law_1856 dL_law_1857 dL_law_1858 dL_law_1859 dL_law_1860 rfl rfl hX1 hn1 (by decide) hi ?_
  refine z_callV (As := [z_i (X (i + 1))]) (rest := [z_i (z_tb3 (z_xl A (A 1 0).toNat) (X (i + 1)))]) zmX9_listByte znX9_listByte zsX9_listByte (show vwCl[9]? = some (RX9, TX9, 29) from rfl) zlRL_240 ⟨Nat.le_of_ble_eq_true rfl, Nat.le_of_ble_eq_true rfl⟩ dL_law_1861 z_shs_is.1 rfl rfl (z_ai z_a0) (Nat.le_of_ble_eq_true rfl) (Nat.le_of_ble_eq_true rfl) ⟨by show z_shs.length + 0 ≤ 0 + 177; rw [z_shs_len]; decide, hz⟩ ?_
  refine z_CIm (K := fun x w2 => z_Sem mLw (0, z) 1864 (z_LL i) [z_i x, z_i (z_tb3 (z_xl A (A 1 0).toNat) (X (i + 1)))] (z_shs, w2) Q) (um_listByte _ _ _ z_shs_is jc.1.1 jc.1.2.2.2.1 jc.tbt jm1 (fun w2 j2 f2 => ?_)) (fun x w2 h => h)
  show z_Sem mLw (0, z) 1864 (z_LL i) [z_i (z_tb3 (z_xl A (A 1 0).toNat) (X (i + 1))), z_i (z_tb3 (z_xl A (A 1 0).toNat) (X (i + 1)))] (z_shs, w2) Q
  refine z_icmp_eq (tgt := 1905) dL_law_1864 (by decide) (fun _ => ?_) (fun c => absurd rfl c)
  exact kk w2 (z_Jfin j1 j2 f2 hX1 hn1)
theorem z_case55 (hw : z_J X n w) (hi : 0 ≤ i ∧ i + 6 ≤ n ∧ n ≤ 3072) (hR : ∀ j : Int, z_R (X j)) (hz : z ≤ 7302250) (kk : ∀ w', z_J X n w' → z_Sem mLw (0, z) 1905 (z_LL i) [] (z_shs, w') Q) : z_Sem mLw (0, z) 1869 (z_LL i) [] (z_shs, w) Q := by
  obtain ⟨A, H, T, er, s, jc, jm, hX, hn⟩ := hw
  refine z_aload_n 2 dL_law_1869 rfl rfl ?_
  refine z_callV (As := []) (rest := []) zmX8_setupLength znX8_setupLength zsX8_setupLength (show vwCl[8]? = some (RX8, TX8, 9) from rfl) zlRL_241 ⟨Nat.le_of_ble_eq_true rfl, Nat.le_of_ble_eq_true rfl⟩ dL_law_1870 z_shs_TG.1 rfl rfl z_a0 (Nat.le_of_ble_eq_true rfl) (Nat.le_of_ble_eq_true rfl) ⟨by show z_shs.length + 0 ≤ 0 + 177; rw [z_shs_len]; decide, hz⟩ ?_
  refine z_CIm (K := fun x w1 => z_Sem mLw (0, z) 1873 (z_LL i) [z_i x] (z_shs, w1) Q) (uc_setupLength _ _ _ z_shs_TG jc (fun w1 j1 f1 => ?_)) (fun x w1 h => h)
  have hX1 : w1 1000 = X := (f1 1000 (by decide)).trans hX
  have hn1 : w1 1001 0 = n := by rw [f1 1001 (by decide)]; exact hn
  have jm1 := jm.fr f1
  show z_Sem mLw (0, z) 1873 (z_LL i) [z_i ((z_x3 A (A 1 0 - 1).toNat).length : Int)] (z_shs, w1) Q
  refine z_aload_n 1 dL_law_1873 rfl rfl ?_
  refine z_callV (As := []) (rest := [z_i ((z_x3 A (A 1 0 - 1).toNat).length : Int)]) zmX9_setupLength znX9_setupLength zsX9_setupLength (show vwCl[9]? = some (RX9, TX9, 29) from rfl) zlRL_244 ⟨Nat.le_of_ble_eq_true rfl, Nat.le_of_ble_eq_true rfl⟩ dL_law_1874 z_shs_is.1 rfl rfl z_a0 (Nat.le_of_ble_eq_true rfl) (Nat.le_of_ble_eq_true rfl) ⟨by show z_shs.length + 0 ≤ 0 + 177; rw [z_shs_len]; decide, hz⟩ ?_
  refine z_CIm (K := fun x w2 => z_Sem mLw (0, z) 1877 (z_LL i) [z_i x, z_i ((z_x3 A (A 1 0 - 1).toNat).length : Int)] (z_shs, w2) Q) (um_setupLength _ _ _ z_shs_is jc.1.1 jc.1.2.2.2.1 jc.tbt jm1 (fun w2 j2 f2 => ?_)) (fun x w2 h => h)
  show z_Sem mLw (0, z) 1877 (z_LL i) [z_i ((z_x3 A (A 1 0 - 1).toNat).length : Int), z_i ((z_x3 A (A 1 0 - 1).toNat).length : Int)] (z_shs, w2) Q
  refine z_icmp_eq (tgt := 1905) dL_law_1877 (by decide) (fun _ => ?_) (fun c => absurd rfl c)
  exact kk w2 (z_Jfin j1 j2 f2 hX1 hn1)
theorem z_case56 (hw : z_J X n w) (hi : 0 ≤ i ∧ i + 6 ≤ n ∧ n ≤ 3072) (hR : ∀ j : Int, z_R (X j)) (hz : z ≤ 7302250) (kk : ∀ w', z_J X n w' → z_Sem mLw (0, z) 1905 (z_LL i) [] (z_shs, w') Q) : z_Sem mLw (0, z) 1882 (z_LL i) [] (z_shs, w) Q := by
  obtain ⟨A, H, T, er, s, jc, jm, hX, hn⟩ := hw
  refine z_aload_n 2 dL_law_1882 rfl rfl ?_
  refine z_arg dL_law_1883 dL_law_1884 dL_law_1885 dL_law_1886 dL_law_1887 rfl rfl hX hn (by decide) hi ?_
  refine z_callV (As := [z_i (X (i + 1))]) (rest := []) zmX8_setupByte znX8_setupByte zsX8_setupByte (show vwCl[8]? = some (RX8, TX8, 9) from rfl) zlRL_245 ⟨Nat.le_of_ble_eq_true rfl, Nat.le_of_ble_eq_true rfl⟩ dL_law_1888 z_shs_TG.1 rfl rfl (z_ai z_a0) (Nat.le_of_ble_eq_true rfl) (Nat.le_of_ble_eq_true rfl) ⟨by show z_shs.length + 0 ≤ 0 + 177; rw [z_shs_len]; decide, hz⟩ ?_
  refine z_CIm (K := fun x w1 => z_Sem mLw (0, z) 1891 (z_LL i) [z_i x] (z_shs, w1) Q) (uc_setupByte _ _ _ z_shs_TG jc (fun w1 j1 f1 => ?_)) (fun x w1 h => h)
  have hX1 : w1 1000 = X := (f1 1000 (by decide)).trans hX
  have hn1 : w1 1001 0 = n := by rw [f1 1001 (by decide)]; exact hn
  have jm1 := jm.fr f1
  show z_Sem mLw (0, z) 1891 (z_LL i) [z_i (z_tb3 (z_x3 A (A 1 0 - 1).toNat) (X (i + 1)))] (z_shs, w1) Q
  refine z_aload_n 1 dL_law_1891 rfl rfl ?_
  refine z_arg dL_law_1892 dL_law_1893 dL_law_1894 dL_law_1895 dL_law_1896 rfl rfl hX1 hn1 (by decide) hi ?_
  refine z_callV (As := [z_i (X (i + 1))]) (rest := [z_i (z_tb3 (z_x3 A (A 1 0 - 1).toNat) (X (i + 1)))]) zmX9_setupByte znX9_setupByte zsX9_setupByte (show vwCl[9]? = some (RX9, TX9, 29) from rfl) zlRL_248 ⟨Nat.le_of_ble_eq_true rfl, Nat.le_of_ble_eq_true rfl⟩ dL_law_1897 z_shs_is.1 rfl rfl (z_ai z_a0) (Nat.le_of_ble_eq_true rfl) (Nat.le_of_ble_eq_true rfl) ⟨by show z_shs.length + 0 ≤ 0 + 177; rw [z_shs_len]; decide, hz⟩ ?_
  refine z_CIm (K := fun x w2 => z_Sem mLw (0, z) 1900 (z_LL i) [z_i x, z_i (z_tb3 (z_x3 A (A 1 0 - 1).toNat) (X (i + 1)))] (z_shs, w2) Q) (um_setupByte _ _ _ z_shs_is jc.1.1 jc.1.2.2.2.1 jc.tbt jm1 (fun w2 j2 f2 => ?_)) (fun x w2 h => h)
  show z_Sem mLw (0, z) 1900 (z_LL i) [z_i (z_tb3 (z_x3 A (A 1 0 - 1).toNat) (X (i + 1))), z_i (z_tb3 (z_x3 A (A 1 0 - 1).toNat) (X (i + 1)))] (z_shs, w2) Q
  refine z_icmp_eq (tgt := 1905) dL_law_1900 (by decide) (fun _ => ?_) (fun c => absurd rfl c)
  exact kk w2 (z_Jfin j1 j2 f2 hX1 hn1)
theorem z_round (hw : z_J X n w) (hi : 0 ≤ i ∧ i + 6 ≤ n ∧ n ≤ 3072) (hR : ∀ j : Int, z_R (X j)) (hz : z ≤ 7302250) (kk : ∀ w', z_J X n w' → z_Sem mLw (0, z) 1905 (z_LL i) [] (z_shs, w') Q) : z_Sem mLw (0, z) 27 (z_LL i) [] (z_shs, w) Q := by
  obtain ⟨A, H, T, er, s, jc, jm, hX, hn⟩ := id hw
  refine z_aload_n 3 dL_law_27 rfl rfl ?_
  refine z_iload_n 0 dL_law_28 rfl rfl ?_
  refine z_sald dL_law_29 ⟨by omega, by show i < w 1001 0; omega⟩ ?_
  refine z_bipush (n := 63) dL_law_30 rfl (by constructor <;> decide) ?_
  refine z_iand dL_law_32 ?_
  refine z_nam (fun y ey => ?_)
  clear ey
  refine z_tab (tgd := 1905) dL_law_33 (by decide) (fun y0 y1 => ?_) (fun _ => kk w hw)
  rcases (show y = 0 ∨ y = 1 ∨ y = 2 ∨ y = 3 ∨ y = 4 ∨ y = 5 ∨ y = 6 ∨ y = 7 ∨ y = 8 ∨ y = 9 ∨ y = 10 ∨ y = 11 ∨ y = 12 ∨ y = 13 ∨ y = 14 ∨ y = 15 ∨ y = 16 ∨ y = 17 ∨ y = 18 ∨ y = 19 ∨ y = 20 ∨ y = 21 ∨ y = 22 ∨ y = 23 ∨ y = 24 ∨ y = 25 ∨ y = 26 ∨ y = 27 ∨ y = 28 ∨ y = 29 ∨ y = 30 ∨ y = 31 ∨ y = 32 ∨ y = 33 ∨ y = 34 ∨ y = 35 ∨ y = 36 ∨ y = 37 ∨ y = 38 ∨ y = 39 ∨ y = 40 ∨ y = 41 ∨ y = 42 ∨ y = 43 ∨ y = 44 ∨ y = 45 ∨ y = 46 ∨ y = 47 ∨ y = 48 ∨ y = 49 ∨ y = 50 ∨ y = 51 ∨ y = 52 ∨ y = 53 ∨ y = 54 ∨ y = 55 ∨ y = 56 by omega) with rfl | rfl | rfl | rfl | rfl | rfl | rfl | rfl | rfl | rfl | rfl | rfl | rfl | rfl | rfl | rfl | rfl | rfl | rfl | rfl | rfl | rfl | rfl | rfl | rfl | rfl | rfl | rfl | rfl | rfl | rfl | rfl | rfl | rfl | rfl | rfl | rfl | rfl | rfl | rfl | rfl | rfl | rfl | rfl | rfl | rfl | rfl | rfl | rfl | rfl | rfl | rfl | rfl | rfl | rfl | rfl | rfl
  · exact ⟨243, 276, rfl, by decide, z_case0 hw hi hR hz kk⟩
  · exact ⟨306, 339, rfl, by decide, z_case1 hw hi hR hz kk⟩
  · exact ⟨329, 362, rfl, by decide, z_case2 hw hi hR hz kk⟩
  · exact ⟨342, 375, rfl, by decide, z_case3 hw hi hR hz kk⟩
  · exact ⟨355, 388, rfl, by decide, z_case4 hw hi hR hz kk⟩
  · exact ⟨368, 401, rfl, by decide, z_case5 hw hi hR hz kk⟩
  · exact ⟨421, 454, rfl, by decide, z_case6 hw hi hR hz kk⟩
  · exact ⟨444, 477, rfl, by decide, z_case7 hw hi hR hz kk⟩
  · exact ⟨477, 510, rfl, by decide, z_case8 hw hi hR hz kk⟩
  · exact ⟨500, 533, rfl, by decide, z_case9 hw hi hR hz kk⟩
  · exact ⟨533, 566, rfl, by decide, z_case10 hw hi hR hz kk⟩
  · exact ⟨556, 589, rfl, by decide, z_case11 hw hi hR hz kk⟩
  · exact ⟨579, 612, rfl, by decide, z_case12 hw hi hR hz kk⟩
  · exact ⟨602, 635, rfl, by decide, z_case13 hw hi hR hz kk⟩
  · exact ⟨625, 658, rfl, by decide, z_case14 hw hi hR hz kk⟩
  · exact ⟨638, 671, rfl, by decide, z_case15 hw hi hR hz kk⟩
  · exact ⟨651, 684, rfl, by decide, z_case16 hw hi hR hz kk⟩
  · exact ⟨664, 697, rfl, by decide, z_case17 hw hi hR hz kk⟩
  · exact ⟨687, 720, rfl, by decide, z_case18 hw hi hR hz kk⟩
  · exact ⟨710, 743, rfl, by decide, z_case19 hw hi hR hz kk⟩
  · exact ⟨723, 756, rfl, by decide, z_case20 hw hi hR hz kk⟩
  · exact ⟨746, 779, rfl, by decide, z_case21 hw hi hR hz kk⟩
  · exact ⟨779, 812, rfl, by decide, z_case22 hw hi hR hz kk⟩
  · exact ⟨812, 845, rfl, by decide, z_case23 hw hi hR hz kk⟩
  · exact ⟨845, 878, rfl, by decide, z_case24 hw hi hR hz kk⟩
  · exact ⟨878, 911, rfl, by decide, z_case25 hw hi hR hz kk⟩
  · exact ⟨921, 954, rfl, by decide, z_case26 hw hi hR hz kk⟩
  · exact ⟨954, 987, rfl, by decide, z_case27 hw hi hR hz kk⟩
  · exact ⟨987, 1020, rfl, by decide, z_case28 hw hi hR hz kk⟩
  · exact ⟨1020, 1053, rfl, by decide, z_case29 hw hi hR hz kk⟩
  · exact ⟨1043, 1076, rfl, by decide, z_case30 hw hi hR hz kk⟩
  · exact ⟨1076, 1109, rfl, by decide, z_case31 hw hi hR hz kk⟩
  · exact ⟨1099, 1132, rfl, by decide, z_case32 hw hi hR hz kk⟩
  · exact ⟨1122, 1155, rfl, by decide, z_case33 hw hi hR hz kk⟩
  · exact ⟨1145, 1178, rfl, by decide, z_case34 hw hi hR hz kk⟩
  · exact ⟨1178, 1211, rfl, by decide, z_case35 hw hi hR hz kk⟩
  · exact ⟨1191, 1224, rfl, by decide, z_case36 hw hi hR hz kk⟩
  · exact ⟨1204, 1237, rfl, by decide, z_case37 hw hi hR hz kk⟩
  · exact ⟨1267, 1300, rfl, by decide, z_case38 hw hi hR hz kk⟩
  · exact ⟨1330, 1363, rfl, by decide, z_case39 hw hi hR hz kk⟩
  · exact ⟨1383, 1416, rfl, by decide, z_case40 hw hi hR hz kk⟩
  · exact ⟨1426, 1459, rfl, by decide, z_case41 hw hi hR hz kk⟩
  · exact ⟨1449, 1482, rfl, by decide, z_case42 hw hi hR hz kk⟩
  · exact ⟨1462, 1495, rfl, by decide, z_case43 hw hi hR hz kk⟩
  · exact ⟨1485, 1518, rfl, by decide, z_case44 hw hi hR hz kk⟩
  · exact ⟨1548, 1581, rfl, by decide, z_case45 hw hi hR hz kk⟩
  · exact ⟨1581, 1614, rfl, by decide, z_case46 hw hi hR hz kk⟩
  · exact ⟨1614, 1647, rfl, by decide, z_case47 hw hi hR hz kk⟩
  · exact ⟨1657, 1690, rfl, by decide, z_case48 hw hi hR hz kk⟩
  · exact ⟨1670, 1703, rfl, by decide, z_case49 hw hi hR hz kk⟩
  · exact ⟨1683, 1716, rfl, by decide, z_case50 hw hi hR hz kk⟩
  · exact ⟨1716, 1749, rfl, by decide, z_case51 hw hi hR hz kk⟩
  · exact ⟨1759, 1792, rfl, by decide, z_case52 hw hi hR hz kk⟩
  · exact ⟨1800, 1833, rfl, by decide, z_case53 hw hi hR hz kk⟩
  · exact ⟨1813, 1846, rfl, by decide, z_case54 hw hi hR hz kk⟩
  · exact ⟨1836, 1869, rfl, by decide, z_case55 hw hi hR hz kk⟩
  · exact ⟨1849, 1882, rfl, by decide, z_case56 hw hi hR hz kk⟩
theorem z_loops (hR : ∀ j : Int, z_R (X j)) (hz : z ≤ 7302250) (h3 : 0 ≤ n ∧ n ≤ 3072) (hq : ∀ w', Q (some (z_i 1)) (z_shs, w')) : ∀ (d : Nat) (i : Int) (w : z_Mm), (n - i).toNat ≤ d → 0 ≤ i → i ≤ n + 6 → z_J X n w → z_Sem mLw (0, z) 18 (z_LL i) [] (z_shs, w) Q := by
  intro d
  induction d with
  | zero =>
    intro i w hd i0 i1 hw
    obtain ⟨A, H, T, er, s, jc, jm, hX, hn⟩ := hw
    refine z_iload_n 0 dL_law_18 rfl rfl ?_
    refine z_aload_n 3 dL_law_19 rfl rfl ?_
    refine z_slen dL_law_20 ?_
    rw [show ((z_shs, w) : z_S).2 1001 0 = n from hn]
    refine z_bipush (n := 6) dL_law_21 rfl (by constructor <;> decide) ?_
    refine z_isub dL_law_23 ⟨by omega, by omega⟩ ?_
    refine z_icmp_gt (tgt := 1911) dL_law_24 (by decide) (fun _ => ?_) (fun c => absurd (by omega) c)
    refine z_iconst (n := 1) dL_law_1911 (by constructor <;> decide) ?_
    exact z_ret (v := some (z_i 1)) dL_law_1912 ⟨rfl, Or.inr (Or.inl ⟨rfl, by decide⟩)⟩ (by show z_shs.length = 0 + 177; rw [z_shs_len]) rfl (hq w)
  | succ d ih =>
    intro i w hd i0 i1 hw
    obtain ⟨A, H, T, er, s, jc, jm, hX, hn⟩ := id hw
    refine z_iload_n 0 dL_law_18 rfl rfl ?_
    refine z_aload_n 3 dL_law_19 rfl rfl ?_
    refine z_slen dL_law_20 ?_
    rw [show ((z_shs, w) : z_S).2 1001 0 = n from hn]
    refine z_bipush (n := 6) dL_law_21 rfl (by constructor <;> decide) ?_
    refine z_isub dL_law_23 ⟨by omega, by omega⟩ ?_
    refine z_icmp_gt (tgt := 1911) dL_law_24 (by decide) (fun _ => ?_) (fun c => ?_)
    · refine z_iconst (n := 1) dL_law_1911 (by constructor <;> decide) ?_
      exact z_ret (v := some (z_i 1)) dL_law_1912 ⟨rfl, Or.inr (Or.inl ⟨rfl, by decide⟩)⟩ (by show z_shs.length = 0 + 177; rw [z_shs_len]) rfl (hq w)
    · refine z_round hw ⟨i0, by omega, h3.2⟩ hR hz (fun w' hw' => ?_)
      refine z_iinc 0 dL_law_1905 rfl (by decide) rfl ⟨by omega, by omega⟩ ?_
      refine z_goto (tgt := 18) dL_law_1908 (by decide) ?_
      exact ih (i + 6) w' (by omega) (by omega) (by omega) hw'
end ZLAW
