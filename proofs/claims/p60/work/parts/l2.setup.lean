/-! SETUP, walked: events and gaps -/
abbrev z_LS (k E : Int) : List (Nat × z_V) := [(4, z_i k), (3, z_r 165), (2, z_r 164), (1, z_i E), (0, z_r 0)]
abbrev z_LG (n mo far oth one k E : Int) : List (Nat × z_V) := [(9, z_i n), (8, z_i mo), (7, z_i far), (6, z_i oth), (5, z_i one), (4, z_i k), (3, z_r 165), (2, z_r 164), (1, z_i E), (0, z_r 0)]
theorem z_lvS {k E : Int} : z_lv 166 (z_LS k E) := by
  intro q hq
  simp only [List.mem_cons, List.not_mem_nil, or_false] at hq
  rcases hq with rfl | rfl | rfl | rfl | rfl
  · exact True.intro
  · exact Or.inl (by decide)
  · exact Or.inl (by decide)
  · exact True.intro
  · exact Or.inl (by decide)
theorem z_lvG {n mo far oth one k E : Int} : z_lv 166 (z_LG n mo far oth one k E) := by
  intro q hq
  simp only [List.mem_cons, List.not_mem_nil, or_false] at hq
  rcases hq with rfl | rfl | rfl | rfl | rfl | rfl | rfl | rfl | rfl | rfl
  · exact True.intro
  · exact True.intro
  · exact True.intro
  · exact True.intro
  · exact True.intro
  · exact True.intro
  · exact Or.inl (by decide)
  · exact Or.inl (by decide)
  · exact True.intro
  · exact Or.inl (by decide)
theorem z_wd4 {n0 z z' pc : Nat} {L : List (Nat × z_V)} {st : List z_V} {σ : z_S} {Q : Option z_V → z_S → Prop} (h : z ≤ z') (h2 : z' ≤ 4096) (kk : z_Sem mLset (n0, z') pc L st σ Q) : z_Sem mLset (n0, z) pc L st σ Q := z_wid h ⟨h2, h2⟩ kk
theorem z_mb.B {sh0 sh : List z_C} {w0 w : z_Mm} {x : Int → Int} {B B' m : Nat} {t : List Int} (h : z_mb sh0 w0 x B sh w m t) (hB : B ≤ B') : z_mb sh0 w0 x B' sh w m t := by
  obtain ⟨h1, h2, h3, h4, h5, h6, h7, h8, h9⟩ := h
  exact ⟨h1, h2, h3, h4, h5, h6, h7, h8, by omega⟩
theorem z_oth {E one r : Int} (hE : 2 ≤ E ∧ E ≤ 5) (h1 : 0 ≤ one ∧ one < E + 1) (h2 : 0 ≤ r ∧ r < E) : (0 ≤ (one + 1 + r) % (E + 1) ∧ (one + 1 + r) % (E + 1) < E + 1) ∧ one ≠ (one + 1 + r) % (E + 1) := by
  rcases (by omega : E = 2 ∨ E = 3 ∨ E = 4 ∨ E = 5) with rfl | rfl | rfl | rfl <;> omega
section ZSETW
variable {B m c : Nat} {sh sh0 : List z_C} {w w0 : z_Mm} {Q : Option z_V → z_S → Prop} {x : Int → Int} {A : z_A} {t : List Int}
theorem L_setup_45 {E : Nat} (hE : E ≤ 5) (hB : B ≤ 600) (hs0 : sh0[0]? = some (.inr (.inl (0, 8)))) (hQ : ∀ (A : z_A) (x : Int → Int) (sh : List z_C) (w : z_Mm) (m : Nat), z_sk x A → A 1 0 = (E : Int) + 1 → A 2 0 = 0 → z_mb sh0 w0 x B sh w m (z_stx A) → (z_stx A).length ≤ 48 → z_Sem mLset (164, 100 + 2 * m) 89 (z_LS ((E : Int) + 1) E) [] (sh, w) Q) :
    ∀ (n e : Nat), e + n = E + 1 → 1 ≤ e → ∀ (A : z_A) (x : Int → Int) (sh : List z_C) (w : z_Mm) (m : Nat), z_sk x A → A 1 0 = (e : Int) → A 2 0 = 0 → z_mb sh0 w0 x B sh w m (z_stx A) → (z_stx A).length ≤ 8 * e → z_Sem mLset (164, 40 + 3 * e + 2 * m) 45 (z_LS (e : Int) E) [] (sh, w) Q
  | n, e, hn, he, A, x, sh, w, m, hk, h1, h2, hm, hl => by
    have hmm := hm.2.2.2.2.2.2.2.1
    refine z_iload 0 dL_setup_45 rfl ?_
    refine z_iload_n 3 dL_setup_47 rfl rfl ?_
    refine z_icmp_gt (tgt := 89) dL_setup_48 (by decide) (fun c => ?_) (fun c => ?_)
    · have hee : e = E + 1 := by omega
      subst hee
      exact z_wd4 (z' := 100 + 2 * m) (by omega) (by omega) (hQ A x sh w m hk (by omega) h2 hm (by omega))
    · match n, hn with
      | 0, hn => exact absurd (by omega) c
      | n + 1, hn =>
        refine z_aload_n 2 dL_setup_51 rfl rfl ?_
        refine z_iload 0 dL_setup_52 rfl ?_
        refine z_aload_n 4 dL_setup_54 rfl rfl ?_
        refine z_gD (rest := [z_i (e : Int), z_r 164]) dL_setup_55 hs0 hm (z_lek rfl) (fun y w1 hy hm1 => ?_)
        refine z_bipush dL_setup_58 (by decide) (by decide) ?_
        refine z_irem dL_setup_60 (by decide) ?_
        rw [z_tm hy.1]
        have d0 := Int.emod_nonneg y (show (40 : Int) ≠ 0 by decide)
        have d1 := Int.emod_lt_of_pos y (show (0 : Int) < 40 by decide)
        generalize y % 40 = d at d0 d1
        refine z_iast (n := 10) dL_setup_61 hm1.2.2.1 ⟨by omega, by omega⟩ ?_
        refine z_genw (fun w2 hw2 => ?_)
        have hm2 : z_mb sh0 w0 (fun j => if j = (e : Int) then d else x j) B sh w2 m (z_stx A) := by rw [hw2]; exact hm1.tm
        have hk2 := z_sk_opn (x' := fun j => if j = (e : Int) then d else x j) hk h2 (by omega) (fun f hf => if_neg (by have := hf.2; omega)) (by
          show 0 ≤ (if A 1 0 = (e : Int) then d else x (A 1 0)) ∧ (if A 1 0 = (e : Int) then d else x (A 1 0)) ≤ 39
          rw [if_pos h1]
          omega)
        have hst : z_stx (z_opn A (A 1 0 + 1)) = z_stx A ++ z_str 25 ++ [97 + (e : Int)] ++ z_str 24 := by
          rw [z_stx_opn hk.2.2.2.2.1 (by omega) h2, h1, z_nl1' ⟨by omega, by omega⟩, z_strL.1.2.2.1, z_strL.1.2.1]
        obtain ⟨⟨-, l24, l25, -⟩, -⟩ := z_strLl
        refine z_aload_n 1 dL_setup_62 rfl rfl ?_
        refine z_ldcS (i := 25) rfl dL_setup_63 ?_
        refine z_gS (c := 40 + 3 * e) dL_setup_65 hm2 (z_isx_c (by decide)) (by omega) ⟨by omega, hB⟩ z_lvS (fun sh3 w3 m3 hm3 => ?_)
        refine z_bipush dL_setup_68 (by decide) (by decide) ?_
        refine z_iload 0 dL_setup_70 rfl ?_
        refine z_iadd dL_setup_72 ⟨by omega, by omega⟩ ?_
        refine z_i2c dL_setup_73 ?_
        rw [z_i2c' ⟨by omega, by omega⟩]
        refine z_gC (c := 40 + 3 * e + 1) dL_setup_74 hm3 ⟨by omega, by omega⟩ (by rw [List.length_append]; omega) ⟨by omega, hB⟩ z_lvS (fun sh4 w4 m4 hm4 => ?_)
        refine z_ldcS (i := 24) rfl dL_setup_77 ?_
        refine z_gS (c := 40 + 3 * e + 1 + 1) dL_setup_79 hm4 (z_isx_c (by decide)) (by rw [List.length_append, List.length_append, List.length_singleton]; omega) ⟨by omega, hB⟩ z_lvS (fun sh5 w5 m5 hm5 => ?_)
        refine z_pop dL_setup_82 rfl ?_
        refine z_iinc (L' := z_LS ((e : Int) + 1) E) 0 dL_setup_83 rfl (z_ltk rfl) rfl ⟨by omega, by omega⟩ ?_
        refine z_goto (tgt := 45) dL_setup_86 (by decide) ?_
        rw [← hst] at hm5
        have hlen : (z_stx (z_opn A (A 1 0 + 1))).length ≤ 8 * (e + 1) := by
          rw [hst, List.length_append, List.length_append, List.length_append, List.length_singleton]
          omega
        have := L_setup_45 hE hB hs0 hQ n (e + 1) (by omega) (by omega) _ _ sh5 w5 m5 hk2 (by rw [z_opn_1]; omega) (z_opn_2.trans h2) hm5 hlen
        rw [show 40 + 3 * (e + 1) = 40 + 3 * e + 1 + 1 + 1 by omega] at this
        exact this
/-- a gap is written -/
theorem L_setup_200 {n mo far oth one k E : Int} (hs0 : sh0[0]? = some (.inr (.inl (0, 8)))) (hk : z_sk x A) (h24 : A 2 0 < 24) (h1 : 0 ≤ one ∧ one < A 1 0) (h2 : 0 ≤ oth ∧ oth < A 1 0) (h3 : one ≠ oth) (hmo : mo = 0 ∨ mo = 1) (hn : 0 ≤ n ∧ n ≤ 99) (hfa : (mo = 1 → x oth - x one ≤ n) ∧ (mo = 0 → x one - x oth ≤ - n)) (hm : z_mb sh0 w0 x B sh w m (z_stx A)) (hl : (z_stx A).length ≤ 300) (hc : c ≤ 1200) (hB : B ≤ 580) (hkR : z_R (k - 1))
    (hQ : ∀ (A' : z_A) (sh' : List z_C) (w' : z_Mm) (m' : Nat), z_sk x A' → A' 1 0 = A 1 0 → A' 2 0 = A 2 0 + 1 → z_mb sh0 w0 x (B + 8) sh' w' m' (z_stx A') → (z_stx A').length ≤ (z_stx A).length + 30 → z_Sem mLset (164, c + 100 + 2 * m') 98 (z_LS (k - 1) E) [] (sh', w') Q) : z_Sem mLset (164, c + 2 * m) 200 (z_LG n mo far oth one k E) [] (sh, w) Q := by
  obtain ⟨⟨l23, l24, l25, l26, l27, l28⟩, l29, l30, l31, l32, l33⟩ := z_strLl
  obtain ⟨⟨q23, q24, q25, q26, q27, q28⟩, q29, q30, q31, q32, q33⟩ := z_strL
  have r1 := hk.2.1.2.1
  have hone := (z_nl_len (A 9 one)).2
  have hoth := (z_nl_len (A 9 oth)).2
  have hdl := z_dl_len n
  have n0 : A 9 0 = 20579924 := hk.2.2.1.2.1
  have h9 := hk.2.2.2.1
  have at322 : ∀ (on : Int) (sh1 : List z_C) (w1 : z_Mm) (m1 s : Nat) (t1 : List Int), (on = 0 ∨ on = 1) → s < 35 → (z_str s).length ≤ 5 → t1.length ≤ (z_stx A).length + 25 → z_stx (z_add A one oth (1 - mo) n on) = t1 ++ z_str s → z_mb sh0 w0 x (B + 8) sh1 w1 m1 t1 → z_Sem mLset (164, c + 90 + 2 * m1) 322 (z_LG n mo far oth one k E) [z_r (1001 + s), z_r 165] (sh1, w1) Q := by
    intro on sh1 w1 m1 s t1 hon hs hsl htl heq hm1
    refine z_gS (c := c + 90) dL_setup_322 hm1 (z_isx_c hs) (by omega) ⟨by omega, by omega⟩ z_lvG (fun sh2 w2 m2 hm2 => ?_)
    have hmm := hm2.2.2.2.2.2.2.2.1
    rw [List.length_append] at hmm
    refine z_pop dL_setup_325 rfl ?_
    refine z_iinc (L' := [(4, z_i (k - 1)), (9, z_i n), (8, z_i mo), (7, z_i far), (6, z_i oth), (5, z_i one), (3, z_r 165), (2, z_r 164), (1, z_i E), (0, z_r 0)]) 5 dL_setup_326 rfl (z_ltk rfl) rfl hkR ?_
    refine z_goto (tgt := 98) dL_setup_329 (by decide) ?_
    refine z_sub (L' := z_LS (k - 1) E) [0, 6, 7, 8, 9] rfl ?_
    rw [← heq] at hm2
    refine z_wd4 (z' := c + 100 + 2 * m2) (by omega) (by omega) (hQ (z_add A one oth (1 - mo) n on) sh2 w2 m2 (z_sk_add hk h24 h1 h2 h3 (by omega) (by omega) (by omega) ?_) z_add_c1 z_add_2 hm2 (by rw [heq, List.length_append]; omega))
    rcases hmo with e | e
    · rw [if_neg (by omega)]; exact hfa.2 e
    · rw [if_pos (by omega)]; exact hfa.1 e
  have at297 : ∀ (sh1 : List z_C) (w1 : z_Mm) (m1 s : Nat), s < 35 → (z_str s).length ≤ 7 → z_str s = (if 1 - mo = 0 then z_str 20 else z_str 21) → z_mb sh0 w0 x (B + 8) sh1 w1 m1 (z_stx A ++ z_str 19 ++ z_nl (A 9 one) ++ [32] ++ z_nl (A 9 oth)) → z_Sem mLset (164, c + 86 + 2 * m1) 297 (z_LG n mo far oth one k E) [z_r (1001 + s), z_r 165] (sh1, w1) Q := by
    intro sh1 w1 m1 s hs hsl heq hm1
    have lt1 : (z_stx A ++ z_str 19 ++ z_nl (A 9 one) ++ [32] ++ z_nl (A 9 oth)).length ≤ (z_stx A).length + 15 := by
      rw [← q26, List.length_append, List.length_append, List.length_append, List.length_append, List.length_singleton]
      omega
    generalize hT1 : z_stx A ++ z_str 19 ++ z_nl (A 9 one) ++ [32] ++ z_nl (A 9 oth) = T1 at hm1 lt1
    refine z_gS (c := c + 86) dL_setup_297 hm1 (z_isx_c hs) (by omega) ⟨by omega, by omega⟩ z_lvG (fun sh2 w2 m2 hm2 => ?_)
    refine z_iload 0 dL_setup_300 rfl ?_
    refine z_gI (c := c + 86 + 1) dL_setup_302 hm2 hn (by rw [List.length_append]; omega) ⟨by omega, by omega⟩ z_lvG (fun sh3 w3 m3 hm3 => ?_)
    have hmm := hm3.2.2.2.2.2.2.2.1
    rw [List.length_append, List.length_append] at hmm
    refine z_aload_n 9 dL_setup_305 rfl rfl ?_
    refine z_gD (rest := [z_r 165]) dL_setup_306 hs0 hm3 (z_lek rfl) (fun y w4 hy hm4 => ?_)
    refine z_bipush dL_setup_309 (by decide) (by decide) ?_
    refine z_irem dL_setup_311 (by decide) ?_
    have hmid : ∀ on : Int, z_stx (z_add A one oth (1 - mo) n on) = (if on = 0 then (T1 ++ z_str s ++ z_dl n) ++ z_str 22 else (T1 ++ z_str s ++ z_dl n)) ++ [59] := fun on => by
      rw [z_stx_add hk.2.2.2.2.1 r1.1 hk.2.1.2.2.1.1, ← heq, hT1]
    refine z_if_ne (tgt := 320) dL_setup_312 (by decide) (fun _ => ?_) (fun _ => ?_)
    · refine z_ldcS (i := 24) rfl dL_setup_320 ?_
      refine z_wd4 (z' := c + 90 + 2 * m3) (by omega) (by omega) (at322 1 sh3 w4 m3 24 _ (Or.inr rfl) (by decide) (by omega) (by rw [List.length_append, List.length_append]; omega) ?_ hm4)
      rw [hmid, if_neg (by decide), q24]
    · refine z_ldcS (i := 31) rfl dL_setup_315 ?_
      refine z_goto (tgt := 322) dL_setup_317 (by decide) ?_
      refine z_wd4 (z' := c + 90 + 2 * m3) (by omega) (by omega) (at322 0 sh3 w4 m3 31 _ (Or.inl rfl) (by decide) (by omega) (by rw [List.length_append, List.length_append]; omega) ?_ hm4)
      rw [hmid, if_pos rfl, q31, List.append_assoc _ (z_str 22) [59]]
  have at282 : ∀ (sh1 : List z_C) (w1 : z_Mm) (m1 r : Nat), z_mb sh0 w0 x (B + 8) sh1 w1 m1 (z_stx A ++ z_str 19 ++ z_nl (A 9 one) ++ [32]) → z_isx sh1 w1 r (z_nl (A 9 oth)) → z_Sem mLset (164, c + 84 + 2 * m1) 282 (z_LG n mo far oth one k E) [z_r r, z_r 165] (sh1, w1) Q := by
    intro sh1 w1 m1 r hm1 hx
    have lt1 : (z_stx A ++ z_str 19 ++ z_nl (A 9 one) ++ [32]).length ≤ (z_stx A).length + 10 := by
      rw [← q26, List.length_append, List.length_append, List.length_append, List.length_singleton]
      omega
    refine z_gS (c := c + 84) dL_setup_282 hm1 hx (by omega) ⟨by omega, by omega⟩ z_lvG (fun sh2 w2 m2 hm2 => ?_)
    have hmm := hm2.2.2.2.2.2.2.2.1
    rw [List.length_append] at hmm
    refine z_iload 1 dL_setup_285 rfl ?_
    refine z_if_eq (tgt := 295) dL_setup_287 (by decide) (fun q => ?_) (fun q => ?_)
    · refine z_ldcS (i := 30) rfl dL_setup_295 ?_
      exact z_wd4 (z' := c + 86 + 2 * m2) (by omega) (by omega) (at297 sh2 w2 m2 30 (by decide) (by omega) (by rw [if_neg (by omega), q30]) hm2)
    · refine z_ldcS (i := 29) rfl dL_setup_290 ?_
      refine z_goto (tgt := 297) dL_setup_292 (by decide) ?_
      exact z_wd4 (z' := c + 86 + 2 * m2) (by omega) (by omega) (at297 sh2 w2 m2 29 (by decide) (by omega) (by rw [if_pos (by omega), q29]) hm2)
  have at240 : ∀ (sh1 : List z_C) (w1 : z_Mm) (m1 r : Nat), z_mb sh0 w0 x (B + 4) sh1 w1 m1 (z_stx A ++ z_str 19) → z_isx sh1 w1 r (z_nl (A 9 one)) → z_Sem mLset (164, c + 41 + 2 * m1) 240 (z_LG n mo far oth one k E) [z_r r, z_r 165] (sh1, w1) Q := by
    intro sh1 w1 m1 r hm1 hx
    have lt1 : (z_stx A ++ z_str 19).length ≤ (z_stx A).length + 4 := by
      rw [← q26, List.length_append]
      omega
    refine z_gS (c := c + 41) dL_setup_240 hm1 hx (by omega) ⟨by omega, by omega⟩ z_lvG (fun sh2 w2 m2 hm2 => ?_)
    refine z_bipush dL_setup_243 (by decide) (by decide) ?_
    refine z_gC (c := c + 41 + 1) dL_setup_245 hm2 (by decide) (by rw [List.length_append]; omega) ⟨by omega, by omega⟩ z_lvG (fun sh3 w3 m3 hm3 => ?_)
    have hmm := hm3.2.2.2.2.2.2.2.1
    have lt3 : (z_stx A ++ z_str 19 ++ z_nl (A 9 one) ++ [32]).length ≤ (z_stx A).length + 10 := by
      rw [← q26, List.length_append, List.length_append, List.length_append, List.length_singleton]
      omega
    refine z_iload 3 dL_setup_248 rfl ?_
    refine z_if_ne (tgt := 258) dL_setup_250 (by decide) (fun q => ?_) (fun q => ?_)
    · refine z_gN (c := c + 41 + 1 + 1) (p := 258) (i := 6) (j := 3) (e := oth) dL_setup_258 dL_setup_261 dL_setup_262 dL_setup_265 dL_setup_267 dL_setup_270 dL_setup_272 dL_setup_274 dL_setup_275 dL_setup_276 dL_setup_279 rfl ⟨by omega, by omega⟩ hm3 (by omega) ⟨by omega, by omega⟩ z_lvG (fun sh4 w4 r4 hm4 hx4 => ?_)
      rw [← h9 oth (by omega) h2.2] at hx4
      exact z_wd4 (z' := c + 84 + 2 * m3) (by omega) (by omega) (at282 sh4 w4 m3 r4 hm4 hx4)
    · refine z_ldcS (i := 27) rfl dL_setup_253 ?_
      refine z_goto (tgt := 282) dL_setup_255 (by decide) ?_
      refine z_wd4 (z' := c + 84 + 2 * m3) (by omega) (by omega) (at282 sh3 w3 m3 _ (hm3.B (by omega)) ?_)
      rw [q, n0, ← q27]
      exact z_isx_c (by decide)
  refine z_aload_n 6 dL_setup_200 rfl rfl ?_
  refine z_ldcS (i := 26) rfl dL_setup_201 ?_
  refine z_gS (c := c) dL_setup_203 hm (z_isx_c (by decide)) (by omega) ⟨by omega, by omega⟩ z_lvG (fun sh1 w1 m1 hm1 => ?_)
  rw [q26] at hm1
  have hmm := hm1.2.2.2.2.2.2.2.1
  have lt3 : (z_stx A ++ z_str 19).length ≤ (z_stx A).length + 4 := by
    rw [← q26, List.length_append]
    omega
  refine z_iload 4 dL_setup_206 rfl ?_
  refine z_if_ne (tgt := 216) dL_setup_208 (by decide) (fun q => ?_) (fun q => ?_)
  · refine z_gN (c := c + 1) (p := 216) (i := 5) (j := 4) (e := one) dL_setup_216 dL_setup_219 dL_setup_220 dL_setup_223 dL_setup_225 dL_setup_228 dL_setup_230 dL_setup_232 dL_setup_233 dL_setup_234 dL_setup_237 rfl ⟨by omega, by omega⟩ hm1 (by omega) ⟨by omega, by omega⟩ z_lvG (fun sh4 w4 r4 hm4 hx4 => ?_)
    rw [← h9 one (by omega) h1.2] at hx4
    exact z_wd4 (z' := c + 41 + 2 * m1) (by omega) (by omega) (at240 sh4 w4 m1 r4 hm4 hx4)
  · refine z_ldcS (i := 27) rfl dL_setup_211 ?_
    refine z_goto (tgt := 240) dL_setup_213 (by decide) ?_
    refine z_wd4 (z' := c + 41 + 2 * m1) (by omega) (by omega) (at240 sh1 w1 m1 _ (hm1.B (by omega)) ?_)
    rw [q, n0, ← q27]
    exact z_isx_c (by decide)
theorem L_setup_98 {E : Int} (hE : 2 ≤ E ∧ E ≤ 5) (hs0 : sh0[0]? = some (.inr (.inl (0, 8)))) (hQ : ∀ (A : z_A) (sh : List z_C) (w : z_Mm) (m j : Nat), j ≤ 6 → z_sk x A → A 1 0 = E + 1 → z_mb sh0 w0 x (167 + 8 * j) sh w m (z_stx A) → (z_stx A).length ≤ 48 + 30 * j → z_Sem mLset (164, 110 + 100 * j + 2 * m) 332 (z_LS 0 E) [] (sh, w) Q) :
    ∀ (k j : Nat), j + k ≤ 6 → ∀ (A : z_A) (sh : List z_C) (w : z_Mm) (m : Nat), z_sk x A → A 1 0 = E + 1 → A 2 0 ≤ (j : Int) → z_mb sh0 w0 x (167 + 8 * j) sh w m (z_stx A) → (z_stx A).length ≤ 48 + 30 * j → z_Sem mLset (164, 110 + 100 * j + 2 * m) 98 (z_LS (k : Int) E) [] (sh, w) Q
  | 0, j, hj, A, sh, w, m, hk, h1, h2, hm, hl => by
    refine z_iload 0 dL_setup_98 rfl ?_
    exact z_if_le (tgt := 332) dL_setup_100 (by decide) (fun _ => hQ A sh w m j (by omega) hk h1 hm hl) (fun c => absurd (Int.le_refl _) c)
  | k + 1, j, hj, A, sh, w, m, hk, h1, h2, hm, hl => by
    have hmm := hm.2.2.2.2.2.2.2.1
    have hx0 : x 0 = 0 := hk.2.2.2.2.2.1
    have hxx := hk.2.2.2.2.2.2.1
    have hxR : ∀ e : Int, 0 ≤ e → e < A 1 0 → 0 ≤ x e ∧ x e ≤ 39 := fun e e0 e1 => by
      rcases (by omega : e = 0 ∨ 1 ≤ e) with q | q
      · rw [q, hx0]; omega
      · exact hxx e q e1
    refine z_iload 0 dL_setup_98 rfl ?_
    refine z_if_le (tgt := 332) dL_setup_100 (by decide) (fun c => absurd c (by omega)) (fun _ => ?_)
    refine z_aload_n 4 dL_setup_103 rfl rfl ?_
    refine z_gD (rest := []) dL_setup_104 hs0 hm (z_lek rfl) (fun y1 w1 hy1 hm => ?_)
    refine z_iload_n 3 dL_setup_107 rfl rfl ?_
    refine z_iconst dL_setup_108 (by decide) ?_
    refine z_iadd dL_setup_109 ⟨by omega, by omega⟩ ?_
    refine z_irem dL_setup_110 (by omega) ?_
    rw [z_tm hy1.1]
    have a0 := Int.emod_nonneg y1 (show E + 1 ≠ 0 by omega)
    have a1 := Int.emod_lt_of_pos y1 (show 0 < E + 1 by omega)
    generalize y1 % (E + 1) = one at a0 a1
    refine z_istore (L' := (5, z_i one) :: z_LS ((k + 1 : Nat) : Int) E) dL_setup_111 (z_ltk rfl) rfl ?_
    refine z_iload 0 dL_setup_113 rfl ?_
    refine z_iconst dL_setup_115 (by decide) ?_
    refine z_iadd dL_setup_116 ⟨by omega, by omega⟩ ?_
    refine z_aload_n 5 dL_setup_117 rfl rfl ?_
    refine z_gD (rest := [z_i (one + 1)]) dL_setup_118 hs0 hm (z_lek rfl) (fun y2 w2 hy2 hm => ?_)
    refine z_iload_n 4 dL_setup_121 rfl rfl ?_
    refine z_irem dL_setup_122 (by omega) ?_
    rw [z_tm hy2.1]
    have b0 := Int.emod_nonneg y2 (show E ≠ 0 by omega)
    have b1 := Int.emod_lt_of_pos y2 (show 0 < E by omega)
    generalize y2 % E = r at b0 b1
    refine z_iadd dL_setup_123 ⟨by omega, by omega⟩ ?_
    refine z_iload_n 4 dL_setup_124 rfl rfl ?_
    refine z_iconst dL_setup_125 (by decide) ?_
    refine z_iadd dL_setup_126 ⟨by omega, by omega⟩ ?_
    refine z_irem dL_setup_127 (by omega) ?_
    rw [z_tm (by omega)]
    obtain ⟨⟨o0, o1⟩, o2⟩ := z_oth hE ⟨a0, a1⟩ ⟨b0, b1⟩
    generalize (one + 1 + r) % (E + 1) = oth at o0 o1 o2
    refine z_istore (L' := (6, z_i oth) :: (5, z_i one) :: z_LS ((k + 1 : Nat) : Int) E) dL_setup_128 (z_ltk rfl) rfl ?_
    refine z_aload_n 4 dL_setup_130 rfl rfl ?_
    refine z_iload 0 dL_setup_131 rfl ?_
    refine z_iald (n := 10) dL_setup_133 hm.2.2.1 ⟨by omega, by omega⟩ ?_
    refine z_aload_n 4 dL_setup_134 rfl rfl ?_
    refine z_iload 1 dL_setup_135 rfl ?_
    refine z_iald (n := 10) dL_setup_137 hm.2.2.1 ⟨by omega, by omega⟩ ?_
    show z_Sem mLset _ _ _ [z_i (w2 164 one), z_i (w2 164 oth)] (sh, w2) Q
    rw [hm.2.2.2.1]
    have X1 := hxR one a0 (by omega)
    have X2 := hxR oth o0 (by omega)
    refine z_isub dL_setup_138 ⟨by omega, by omega⟩ ?_
    refine z_istore (L' := (7, z_i (x oth - x one)) :: (6, z_i oth) :: (5, z_i one) :: z_LS ((k + 1 : Nat) : Int) E) dL_setup_139 (z_ltk rfl) rfl ?_
    have at198 : ∀ (mo n : Int) (w3 : z_Mm), z_mb sh0 w0 x (167 + 8 * j) sh w3 m (z_stx A) → (mo = 0 ∨ mo = 1) → 0 ≤ n ∧ n ≤ 99 → (mo = 1 → x oth - x one ≤ n) ∧ (mo = 0 → x one - x oth ≤ - n) → z_Sem mLset (164, 110 + 100 * j + 2 * m) 198 ((8, z_i mo) :: (7, z_i (x oth - x one)) :: (6, z_i oth) :: (5, z_i one) :: z_LS ((k + 1 : Nat) : Int) E) [z_i n] (sh, w3) Q := by
      intro mo n w3 hm3 hmo hn hfa
      refine z_istore (L' := z_LG n mo (x oth - x one) oth one ((k + 1 : Nat) : Int) E) dL_setup_198 (z_ltk rfl) rfl ?_
      refine L_setup_200 (c := 110 + 100 * j) hs0 hk (by omega) ⟨a0, by omega⟩ ⟨o0, by omega⟩ o2 hmo hn hfa hm3 (by omega) (by omega) (by omega) ⟨by omega, by omega⟩ (fun A' sh' w' m' k1 k2 k3 k4 k5 => ?_)
      have := L_setup_98 hE hs0 hQ k (j + 1) (by omega) A' sh' w' m' k1 (by omega) (by omega) (by rw [show 167 + 8 * (j + 1) = 167 + 8 * j + 8 by omega]; exact k4) (by omega)
      rw [show 110 + 100 * (j + 1) = 110 + 100 * j + 100 by omega] at this
      rw [show ((k + 1 : Nat) : Int) - 1 = (k : Int) by omega]
      exact this
    have at160 : ∀ (mo : Int) (w3 : z_Mm), z_mb sh0 w0 x (167 + 8 * j) sh w3 m (z_stx A) → (mo = 1 ∨ (mo = 0 ∧ 0 ≤ x oth - x one)) → z_Sem mLset (164, 110 + 100 * j + 2 * m) 160 ((7, z_i (x oth - x one)) :: (6, z_i oth) :: (5, z_i one) :: z_LS ((k + 1 : Nat) : Int) E) [z_i mo] (sh, w3) Q := by
      intro mo w3 hm3 hmo
      refine z_istore (L' := (8, z_i mo) :: (7, z_i (x oth - x one)) :: (6, z_i oth) :: (5, z_i one) :: z_LS ((k + 1 : Nat) : Int) E) dL_setup_160 (z_ltk rfl) rfl ?_
      refine z_iload 0 dL_setup_162 rfl ?_
      refine z_if_eq (tgt := 184) dL_setup_164 (by decide) (fun q => ?_) (fun q => ?_)
      · have hf0 : 0 ≤ x oth - x one := by rcases hmo with c | c; omega; exact c.2
        refine z_iconst dL_setup_184 (by decide) ?_
        refine z_iload 1 dL_setup_185 rfl ?_
        refine z_aload_n 8 dL_setup_187 rfl rfl ?_
        refine z_gD (rest := [z_i (x oth - x one), z_i 0]) dL_setup_188 hs0 hm3 (z_lek rfl) (fun y4 w4 hy4 hm4 => ?_)
        refine z_bipush dL_setup_191 (by decide) (by decide) ?_
        refine z_irem dL_setup_193 (by decide) ?_
        rw [z_tm hy4.1]
        have d0 := Int.emod_nonneg y4 (show (12 : Int) ≠ 0 by decide)
        have d1 := Int.emod_lt_of_pos y4 (show (0 : Int) < 12 by decide)
        generalize y4 % 12 = d at d0 d1
        refine z_isub dL_setup_194 ⟨by omega, by omega⟩ ?_
        refine z_callS (As := [z_i 0, z_i (x oth - x one - d)]) (rest := []) zmJ9_max_7cf53 ztJ9_max_7cf53 zlRL_81 ⟨z_lek rfl, z_lek rfl⟩ dL_setup_195 rfl rfl (z_ai (z_ai z_a0)) (z_lek rfl) (z_lek rfl) ⟨rfl, rfl⟩ ?_
        refine t_J9_max_7cf53 ?_
        show z_Sem mLset (164, 110 + 100 * j + 2 * m) 198 _ [z_i (f_J9_max_7cf53 w4 0 (x oth - x one - d))] (sh, w4) Q
        rw [z_fmax]
        have hmx := z_mxc 0 (x oth - x one - d)
        exact at198 mo _ w4 hm4 (Or.inl q) ⟨by omega, by omega⟩ ⟨fun c => by omega, fun _ => by omega⟩
      · have hm1 : mo = 1 := by rcases hmo with c | c; exact c; exact absurd c.1 q
        refine z_iconst dL_setup_167 (by decide) ?_
        refine z_iload 1 dL_setup_168 rfl ?_
        refine z_callS (As := [z_i 0, z_i (x oth - x one)]) (rest := []) zmJ9_max_7cf53 ztJ9_max_7cf53 zlRL_81 ⟨z_lek rfl, z_lek rfl⟩ dL_setup_170 rfl rfl (z_ai (z_ai z_a0)) (z_lek rfl) (z_lek rfl) ⟨rfl, rfl⟩ ?_
        refine t_J9_max_7cf53 ?_
        show z_Sem mLset (164, 110 + 100 * j + 2 * m) 173 _ [z_i (f_J9_max_7cf53 w3 0 (x oth - x one))] (sh, w3) Q
        rw [z_fmax]
        have hmx := z_mxc 0 (x oth - x one)
        generalize max 0 (x oth - x one) = mx at hmx
        refine z_aload_n 8 dL_setup_173 rfl rfl ?_
        refine z_gD (rest := [z_i mx]) dL_setup_174 hs0 hm3 (z_lek rfl) (fun y4 w4 hy4 hm4 => ?_)
        refine z_bipush dL_setup_177 (by decide) (by decide) ?_
        refine z_irem dL_setup_179 (by decide) ?_
        rw [z_tm hy4.1]
        have d0 := Int.emod_nonneg y4 (show (12 : Int) ≠ 0 by decide)
        have d1 := Int.emod_lt_of_pos y4 (show (0 : Int) < 12 by decide)
        generalize y4 % 12 = d at d0 d1
        refine z_iadd dL_setup_180 ⟨by omega, by omega⟩ ?_
        refine z_goto (tgt := 198) dL_setup_181 (by decide) ?_
        exact at198 mo _ w4 hm4 (Or.inr hm1) ⟨by omega, by omega⟩ ⟨fun _ => by omega, fun c => by omega⟩
    refine z_iload 0 dL_setup_141 rfl ?_
    refine z_if_lt (tgt := 155) dL_setup_143 (by decide) (fun _ => ?_) (fun q => ?_)
    · refine z_iconst dL_setup_155 (by decide) ?_
      refine z_goto (tgt := 160) dL_setup_156 (by decide) ?_
      exact at160 1 w2 hm (Or.inl rfl)
    · refine z_aload_n 7 dL_setup_146 rfl rfl ?_
      refine z_gD (rest := []) dL_setup_147 hs0 hm (z_lek rfl) (fun y3 w3 hy3 hm3 => ?_)
      refine z_iconst dL_setup_150 (by decide) ?_
      refine z_irem dL_setup_151 (by decide) ?_
      refine z_if_ne (tgt := 159) dL_setup_152 (by decide) (fun _ => ?_) (fun _ => ?_)
      · refine z_iconst dL_setup_159 (by decide) ?_
        exact at160 0 w3 hm3 (Or.inr ⟨rfl, by omega⟩)
      · refine z_iconst dL_setup_155 (by decide) ?_
        refine z_goto (tgt := 160) dL_setup_156 (by decide) ?_
        exact at160 1 w3 hm3 (Or.inl rfl)
end ZSETW
