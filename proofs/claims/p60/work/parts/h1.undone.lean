section ZUNDONE2
variable {sh : List z_C} {w w0 : z_Mm} {Q : Option z_V → z_S → Prop} {A B : z_A} {H : List z_A} {T : z_T} {er : Int} {s : Nat → Option z_A} {a2 : Nat} {t : List Int} {n0 z : Nat}
theorem F_undo {G : List z_A} : z_uc mX8_undo [z_r 0] A (G ++ [B]) T er s (G.length : Int) B G T er s := by
  have := uc_undo (A := A) (H := G ++ [B]) (T := T) (er := er) (s := s)
  rw [z_dundo_1] at this
  exact this
theorem F_undo0 : z_uc mX8_undo [z_r 0] A [] T er s (-1) A [] T er s := by
  have := uc_undo (A := A) (H := []) (T := T) (er := er) (s := s)
  rw [z_dundo_0] at this
  exact this
theorem L_undone_318 {gp mn : Int} (hT : z_isTG sh 0) (hr2 : 161 ≤ a2) (hQ : ∀ w A, z_LX a2 t w A [] T er s → z_Sem mLu (n0, z) 353 [(7, z_i 1), (6, z_i 1), (5, z_i gp), (4, z_i mn), (0, z_r 0), (1, z_r 161), (2, z_r 162), (3, z_r 163)] [] (sh, w) Q) :
    ∀ (k : Nat) (H : List z_A), H.length = k → k ≤ 8 → ∀ w A, z_LX a2 t w A H T er s → z_Sem mLu (n0, z) 318 [(7, z_i ((k : Int) + 1)), (6, z_i 1), (5, z_i gp), (4, z_i mn), (0, z_r 0), (1, z_r 161), (2, z_r 162), (3, z_r 163)] [] (sh, w) Q
  | k, H, hk, h8, w, A, hl => by
    refine z_iload 0 dL_undone_318 rfl ?_
    refine z_iconst dL_undone_320 (by decide) ?_
    refine z_icmp_le (tgt := 353) dL_undone_321 (by decide) (fun c => ?_) (fun c => ?_)
    · have : k = 0 := by omega
      subst this
      have : H = [] := List.eq_nil_of_length_eq_zero hk
      subst this
      exact hQ w A hl
    · match k, hk with
      | 0, hk => exact absurd (by omega) c
      | k + 1, hk =>
        rcases z_last H with rfl | ⟨G, B, rfl⟩
        · cases hk
        · have hG : G.length = k := by rw [List.length_append, List.length_singleton] at hk; omega
          refine z_iload 1 dL_undone_324 rfl ?_
          refine z_if_eq (tgt := 353) dL_undone_326 (by decide) (fun c => absurd c (by decide)) (fun _ => ?_)
          refine z_iinc (L' := [(7, z_i (((k + 1 : Nat) : Int) + 1 + -1)), (6, z_i 1), (5, z_i gp), (4, z_i mn), (0, z_r 0), (1, z_r 161), (2, z_r 162), (3, z_r 163)]) 0 dL_undone_329 rfl (z_ltk rfl) rfl ⟨by omega, by omega⟩ ?_
          rw [show ((k + 1 : Nat) : Int) + 1 + -1 = (k : Int) + 1 by omega]
          refine z_aload_n 4 dL_undone_332 rfl rfl ?_
          refine z_goL (As := []) (rest := []) zmX8_undo znX8_undo zsX8_undo zlRL_225 ⟨z_lek rfl, z_lek rfl⟩ dL_undone_333 hT rfl rfl z_a0 (z_lek rfl) (z_lek rfl) ⟨rfl, rfl⟩ F_undo hl hr2 (fun w hl => ?_)
          refine z_iload 0 dL_undone_336 rfl ?_
          refine z_iconst dL_undone_338 (by decide) ?_
          refine z_isub dL_undone_339 ⟨by omega, by omega⟩ ?_
          refine z_icmp_ne (tgt := 347) dL_undone_340 (by decide) (fun c => absurd (by omega) c) (fun _ => ?_)
          refine z_iconst dL_undone_343 (by decide) ?_
          refine z_goto (tgt := 348) dL_undone_344 (by decide) ?_
          refine z_istore (L' := [(6, z_i 1), (7, z_i ((k : Int) + 1)), (5, z_i gp), (4, z_i mn), (0, z_r 0), (1, z_r 161), (2, z_r 162), (3, z_r 163)]) dL_undone_348 (z_ltk rfl) rfl ?_
          refine z_sub (L' := [(7, z_i ((k : Int) + 1)), (6, z_i 1), (5, z_i gp), (4, z_i mn), (0, z_r 0), (1, z_r 161), (2, z_r 162), (3, z_r 163)]) [1, 0, 2, 3, 4, 5, 6, 7] rfl ?_
          refine z_goto (tgt := 318) dL_undone_350 (by decide) ?_
          exact L_undone_318 hT hr2 hQ k G hG (by omega) w B hl
theorem L_undone_282 {gp mn k7 : Int} (hT : z_isTG sh 0) (hr2 : 161 ≤ a2) (hH : 1 ≤ H.length ∧ H.length ≤ 8) (hs0 : s 0 = some B) (hl : z_LX a2 t w A H T er s) (hQ : ∀ w H, z_LX a2 t w B H T er s → z_Sem mLu (n0, z) 380 [(8, z_i (B 2 0)), (6, z_i 1), (7, z_i 1), (5, z_i gp), (4, z_i mn), (0, z_r 0), (1, z_r 161), (2, z_r 162), (3, z_r 163)] [] (sh, w) Q) :
    z_Sem mLu (n0, z) 282 [(6, z_i 1), (5, z_i gp), (4, z_i mn), (0, z_r 0), (1, z_r 161), (2, z_r 162), (3, z_r 163)] [] (sh, w) Q := by
  refine z_aload_n 3 dL_undone_282 rfl rfl ?_
  refine z_bipush dL_undone_283 (by decide) (by decide) ?_
  refine z_goL (As := [z_i 12]) (rest := []) zmX8_value znX8_value zsX8_value zlRL_103 ⟨z_lek rfl, z_lek rfl⟩ dL_undone_285 hT rfl rfl (z_ai z_a0) (z_lek rfl) (z_lek rfl) ⟨rfl, rfl⟩ (uc_value.as (v' := (H.length : Int)) rfl) hl hr2 (fun w hl => ?_)
  refine z_istore (L' := [(7, z_i (H.length : Int)), (6, z_i 1), (5, z_i gp), (4, z_i mn), (0, z_r 0), (1, z_r 161), (2, z_r 162), (3, z_r 163)]) dL_undone_288 (z_ltk rfl) rfl ?_
  refine z_iload 1 dL_undone_290 rfl ?_
  refine z_if_eq (tgt := 315) dL_undone_292 (by decide) (fun c => absurd c (by decide)) (fun _ => ?_)
  refine z_iload 0 dL_undone_295 rfl ?_
  refine z_if_le (tgt := 315) dL_undone_297 (by decide) (fun c => absurd c (by omega)) (fun _ => ?_)
  rcases z_last H with rfl | ⟨G, B1, rfl⟩
  · exact absurd hH.1 (by decide)
  · have hG : (G ++ [B1]).length = G.length + 1 := by rw [List.length_append]; rfl
    refine z_aload_n 4 dL_undone_300 rfl rfl ?_
    refine z_goL (As := []) (rest := []) zmX8_undo znX8_undo zsX8_undo zlRL_225 ⟨z_lek rfl, z_lek rfl⟩ dL_undone_301 hT rfl rfl z_a0 (z_lek rfl) (z_lek rfl) ⟨rfl, rfl⟩ F_undo hl hr2 (fun w hl => ?_)
    refine z_iload 0 dL_undone_304 rfl ?_
    refine z_iconst dL_undone_306 (by decide) ?_
    refine z_isub dL_undone_307 ⟨by omega, by omega⟩ ?_
    refine z_icmp_ne (tgt := 315) dL_undone_308 (by decide) (fun c => absurd (by omega) c) (fun _ => ?_)
    refine z_iconst dL_undone_311 (by decide) ?_
    refine z_goto (tgt := 316) dL_undone_312 (by decide) ?_
    refine z_istore (L' := [(6, z_i 1), (7, z_i ((G ++ [B1]).length : Int)), (5, z_i gp), (4, z_i mn), (0, z_r 0), (1, z_r 161), (2, z_r 162), (3, z_r 163)]) dL_undone_316 (z_ltk rfl) rfl ?_
    refine z_sub (L' := [(7, z_i ((G ++ [B1]).length : Int)), (6, z_i 1), (5, z_i gp), (4, z_i mn), (0, z_r 0), (1, z_r 161), (2, z_r 162), (3, z_r 163)]) [1, 0, 2, 3, 4, 5, 6, 7] rfl ?_
    rw [show (((G ++ [B1]).length : Nat) : Int) = (G.length : Int) + 1 by omega]
    refine L_undone_318 hT hr2 (fun w A hl => ?_) G.length G rfl (by omega) w B1 hl
    refine z_iload 1 dL_undone_353 rfl ?_
    refine z_if_eq (tgt := 370) dL_undone_355 (by decide) (fun c => absurd c (by decide)) (fun _ => ?_)
    refine z_aload_n 4 dL_undone_358 rfl rfl ?_
    refine z_goL (As := []) (rest := []) zmX8_undo znX8_undo zsX8_undo zlRL_225 ⟨z_lek rfl, z_lek rfl⟩ dL_undone_359 hT rfl rfl z_a0 (z_lek rfl) (z_lek rfl) ⟨rfl, rfl⟩ F_undo0 hl hr2 (fun w hl => ?_)
    refine z_iconst dL_undone_362 (by decide) ?_
    refine z_icmp_ne (tgt := 370) dL_undone_363 (by decide) (fun c => absurd rfl c) (fun _ => ?_)
    refine z_iconst dL_undone_366 (by decide) ?_
    refine z_goto (tgt := 371) dL_undone_367 (by decide) ?_
    refine z_istore (L' := [(6, z_i 1), (7, z_i 1), (5, z_i gp), (4, z_i mn), (0, z_r 0), (1, z_r 161), (2, z_r 162), (3, z_r 163)]) dL_undone_371 (z_ltk rfl) rfl ?_
    refine z_aload_n 4 dL_undone_373 rfl rfl ?_
    refine z_iconst dL_undone_374 (by decide) ?_
    refine z_goL (As := [z_i 0]) (rest := []) zmX8_restore znX8_restore zsX8_restore zlRL_265 ⟨z_lek rfl, z_lek rfl⟩ dL_undone_375 hT rfl rfl (z_ai z_a0) (z_lek rfl) (z_lek rfl) ⟨rfl, rfl⟩ (F_rest0 hs0) hl hr2 (fun w hl => ?_)
    refine z_istore (L' := [(8, z_i (B 2 0)), (6, z_i 1), (7, z_i 1), (5, z_i gp), (4, z_i mn), (0, z_r 0), (1, z_r 161), (2, z_r 162), (3, z_r 163)]) dL_undone_378 (z_ltk rfl) rfl ?_
    exact hQ w _ hl
/-- the acts, seven times -/
theorem L_undone_17 {gp mn k7 : Int} {n0' : Nat} (hT : z_isTG sh 0) (hh : sh[161]? = some (.inr (.inl (0, 8)))) (hsl : sh.length < 700) (hl2 : 162 < sh.length) (hl3 : 163 < sh.length) (hlo : z_cls0 sh)
    (hQ : ∀ w A H T (_ : Int), z_LX 162 t w A H T er s → T.1 = 0 → z_nmi A → z_Sem mLu (n0, z + 1024 * 7) 37 [(6, z_i 7), (5, z_i gp), (4, z_i mn), (0, z_r 0), (1, z_r 161), (2, z_r 162), (3, z_r 163)] [] (sh, w) Q) (hz : z + 1024 * 7 ≤ 40000) :
    ∀ (n i : Nat), i + n = 7 → ∀ (k7 : Int) w A H T, z_LX 162 t w A H T er s → T.1 = 0 → z_nmi A → z_Sem mLu (n0, z + 1024 * i) 17 [(6, z_i (i : Int)), (5, z_i gp), (4, z_i mn), (0, z_r 0), (1, z_r 161), (2, z_r 162), (3, z_r 163)] [] (sh, w) Q
  | n, i, hi, k7, w, A, H, T, hl, hT0, hn => by
    refine z_iload 0 dL_undone_17 rfl ?_
    refine z_bipush dL_undone_19 (by decide) (by decide) ?_
    refine z_icmp_ge (tgt := 37) dL_undone_21 (by decide) (fun c => ?_) (fun c => ?_)
    · have : i = 7 := by omega
      subst this
      exact hQ w A H T k7 hl hT0 hn
    · match n, hi with
      | 0, hi => exact absurd (by omega) c
      | n + 1, hi =>
        have hLv : z_lv sh.length [(6, z_i (i : Int)), (5, z_i gp), (4, z_i mn), (0, z_r 0), (1, z_r 161), (2, z_r 162), (3, z_r 163)] := by
          intro q hq
          simp only [List.mem_cons, List.not_mem_nil, or_false] at hq
          rcases hq with rfl | rfl | rfl | rfl | rfl | rfl | rfl
          · exact True.intro
          · exact True.intro
          · exact True.intro
          · exact Or.inl (by omega)
          · exact Or.inl (by omega)
          · exact Or.inl hl2
          · exact Or.inl hl3
        refine z_aload_n 3 dL_undone_24 rfl rfl ?_
        refine z_aload_n 4 dL_undone_25 rfl rfl ?_
        refine z_callA (M' := mLa) (vs := [z_r 0, z_r 161]) (rest := []) (z_invS (As := [z_r 0, z_r 161]) zmL_acts ztL_acts zlRL_262 ⟨z_lek rfl, z_lek rfl⟩ dL_undone_26 rfl) zmL_acts.2.2.2.2 (fun _ _ _ _ _ _ _ _ _ _ _ => True.intro) rfl (z_ar (z_ar z_a0)) (z_lek rfl) (z_lek rfl) hLv (fun q hq => by cases hq) (Nat.le_refl _) (by decide) ⟨by show z + 1024 * i + 1024 ≤ 40000; omega, by show z + 1024 * i + 1024 ≤ 40000; omega⟩ ?_
        refine L_acts hT hh (by decide) hsl hlo (fun y w' A' H' T' hl' hT' hn' hf' => ?_) hl.1 hT0 hn
        show z_Sem mLu (n0, z + 1024 * i + 1024) 29 _ [z_i y] (sh, w') Q
        refine z_istore (L' := [(7, z_i y), (6, z_i (i : Int)), (5, z_i gp), (4, z_i mn), (0, z_r 0), (1, z_r 161), (2, z_r 162), (3, z_r 163)]) dL_undone_29 (z_ltk rfl) rfl ?_
        refine z_iinc (L' := [(6, z_i ((i : Int) + 1)), (7, z_i y), (5, z_i gp), (4, z_i mn), (0, z_r 0), (1, z_r 161), (2, z_r 162), (3, z_r 163)]) 1 dL_undone_31 rfl (z_ltk rfl) rfl ⟨by omega, by omega⟩ ?_
        refine z_sub (L' := [(6, z_i ((i : Int) + 1)), (5, z_i gp), (4, z_i mn), (0, z_r 0), (1, z_r 161), (2, z_r 162), (3, z_r 163)]) [0, 2, 3, 4, 5, 6, 7] rfl ?_
        refine z_goto (tgt := 17) dL_undone_34 (by decide) ?_
        have := L_undone_17 (n0' := 0) (k7 := 0) hT hh hsl hl2 hl3 hlo hQ hz n (i + 1) (by omega) y w' A' H' T' ⟨hl', hl.2.cg (hf' 162 (by decide) (by decide) hl2)⟩ hT' hn'
        rw [show z + 1024 * (i + 1) = z + 1024 * i + 1024 by omega] at this
        exact this
end ZUNDONE2
