section ZACTS2
variable {sh : List z_C} {w w0 : z_Mm} {Q : Option z_V → z_S → Prop} {A : z_A} {H : List z_A} {T : z_T} {er : Int} {s : Nat → Option z_A} {a1 : Nat}
theorem z_take_mo {sh sh' : List z_C} (h : ∀ b : Nat, b < sh.length → sh'[b]? = sh[b]?) : sh'.take sh.length = sh := by
  apply List.ext_getElem?
  intro i
  rw [List.getElem?_take]
  by_cases c : i < sh.length
  · rw [if_pos c, h i c]
  · rw [if_neg c, List.getElem?_eq_none (by omega)]
theorem L_acts_303 {z : Nat} {g b a : Int} (hT : z_isTG sh 0) (hh : sh[a1]? = some (.inr (.inl (0, 8)))) (h161 : 161 ≤ a1) (hQ : z_aq w0 sh.length a1 er s sh Q) (hl : z_acx w0 a1 w A H T er s) (hT0 : T.1 = 0) (hn : z_nmi A) : z_Sem mLa (sh.length, z) 303 [(4, z_i g), (3, z_i b), (2, z_i a), (0, z_r 0), (1, z_r a1)] [] (sh, w) Q := by
  refine z_aload_n 4 dL_acts_303 rfl rfl ?_
  refine z_goE (rest := []) rfl ⟨z_lek rfl, z_lek rfl⟩ dL_acts_304 hh h161 rfl (z_lek rfl) hl (fun y1 w hy1 hl => ?_)
  refine z_iconst dL_acts_307 (by decide) ?_
  refine z_irem dL_acts_308 (by decide) ?_
  refine z_if_ne (tgt := 319) dL_acts_309 (by decide) (fun _ => ?_) (fun _ => ?_)
  · refine z_iconst dL_acts_319 (by decide) ?_
    refine z_istore (L' := [(5, z_i (-1)), (4, z_i g), (3, z_i b), (2, z_i a), (0, z_r 0), (1, z_r a1)]) dL_acts_320 (z_ltk rfl) rfl ?_
    refine z_goto (tgt := 403) dL_acts_322 (by decide) ?_
    exact L_acts_403 hQ hl hT0 hn
  · refine z_aload_n 3 dL_acts_312 rfl rfl ?_
    refine z_goV (As := []) (rest := []) zmX8_pinAll znX8_pinAll zsX8_pinAll zlRL_137 ⟨z_lek rfl, z_lek rfl⟩ dL_acts_313 hT rfl rfl z_a0 (z_lek rfl) (z_lek rfl) ⟨rfl, rfl⟩ uc_pinAll hl (fun v w hl => ?_)
    show z_Sem mLa (sh.length, z) 316 [(4, z_i g), (3, z_i b), (2, z_i a), (0, z_r 0), (1, z_r a1)] [z_i v] (sh, w) Q
    refine z_goto (tgt := 320) dL_acts_316 (by decide) ?_
    refine z_istore (L' := [(5, z_i v), (4, z_i g), (3, z_i b), (2, z_i a), (0, z_r 0), (1, z_r a1)]) dL_acts_320 (z_ltk rfl) rfl ?_
    refine z_goto (tgt := 403) dL_acts_322 (by decide) ?_
    exact L_acts_403 hQ hl hT0 (z_kn_pall.nmi hn)
/-- after a name has been tried: the tape is emptied -/
theorem L_acts_381 {z : Nat} {v g b a : Int} {sh1 : List z_C} (hlen : sh.length ≤ sh1.length) (hsame : ∀ b : Nat, b < sh.length → sh1[b]? = sh[b]?) (hT : z_isTG sh1 0) (hQ : z_aq w0 sh.length a1 er s sh Q) (hl : z_JC w A H T er s) (hf : ∀ a : Nat, 161 ≤ a → a ≠ a1 → a < sh.length → w a = w0 a) (hn : z_nmi A) : z_Sem mLa (sh.length, z) 381 [(5, z_i v), (4, z_i g), (3, z_i b), (2, z_i a), (0, z_r 0), (1, z_r a1)] [] (sh1, w) Q := by
  have ht1 := hl.2.1.1.1
  refine z_aload_n 4 dL_acts_381 rfl rfl ?_
  refine z_aload_n 4 dL_acts_382 rfl rfl ?_
  refine z_iconst dL_acts_383 (by decide) ?_
  refine z_goU (As := [z_i 0]) (rest := [z_r 0]) zmX8_truncate znX8_truncate zsX8_truncate zlRL_8 ⟨z_lek rfl, z_lek rfl⟩ dL_acts_384 hT rfl rfl (z_ai z_a0) (z_lek rfl) (z_lek rfl) ⟨rfl, rfl⟩ uc_truncate hl (fun w1 hl1 hf1 => ?_)
  rw [z_dtr, if_pos ⟨Int.le_refl _, ht1⟩] at hl1 ⊢
  refine z_goU (As := [z_i (T.1 - 0)]) (rest := []) zmX8_truncate znX8_truncate zsX8_truncate zlRL_8 ⟨z_lek rfl, z_lek rfl⟩ dL_acts_387 hT rfl rfl (z_ai z_a0) (z_lek rfl) (z_lek rfl) ⟨rfl, rfl⟩ uc_truncate hl1 (fun w2 hl2 hf2 => ?_)
  rw [z_dtr, if_pos ⟨by omega, Int.le_refl _⟩] at hl2 ⊢
  refine z_istore (L' := [(6, z_i (T.1 - 0 - (T.1 - 0))), (5, z_i v), (4, z_i g), (3, z_i b), (2, z_i a), (0, z_r 0), (1, z_r a1)]) dL_acts_390 (z_ltk rfl) rfl ?_
  refine z_fgt sh.length (Nat.le_refl _) ?_
  rw [show ((sh1, w2) : z_S).1.take sh.length = sh from z_take_mo hsame]
  have he : ∀ y : Int, Q (some (z_i y)) (sh, w2) := fun y => hQ y w2 A H _ hl2 (by show T.1 - 0 - (T.1 - 0) = 0; omega) hn (fun a ha hb hc => by rw [hf2 a ha, hf1 a ha]; exact hf a ha hb hc)
  refine z_iload 1 dL_acts_392 rfl ?_
  refine z_if_lt (tgt := 401) dL_acts_394 (by decide) (fun _ => ?_) (fun _ => ?_)
  · refine z_iconst dL_acts_401 (by decide) ?_
    exact z_ret (v := some (z_i 0)) dL_acts_402 ⟨rfl, Or.inl rfl⟩ rfl (he 0)
  · refine z_iconst dL_acts_397 (by decide) ?_
    refine z_goto (tgt := 402) dL_acts_398 (by decide) ?_
    exact z_ret (v := some (z_i 1)) dL_acts_402 ⟨rfl, Or.inl rfl⟩ rfl (he 1)
theorem z_str34 : z_str 34 = [110] := by decide +kernel
theorem L_acts_325 {g b a : Int} (hT : z_isTG sh 0) (hh : sh[a1]? = some (.inr (.inl (0, 8)))) (h161 : 161 ≤ a1) (hsl : sh.length < 700) (hlo : z_cls0 sh) (hQ : z_aq w0 sh.length a1 er s sh Q) (hl : z_acx w0 a1 w A H T er s) (hT0 : T.1 = 0) (hn : z_nmi A) : z_Sem mLa (sh.length, 0) 325 [(4, z_i g), (3, z_i b), (2, z_i a), (0, z_r 0), (1, z_r a1)] [] (sh, w) Q := by
  have ha1 := z_ltat hh
  have hLv : z_lv sh.length [(4, z_i g), (3, z_i b), (2, z_i a), (0, z_r 0), (1, z_r a1)] := by
    intro q hq
    simp only [List.mem_cons, List.not_mem_nil, or_false] at hq
    rcases hq with rfl | rfl | rfl | rfl | rfl
    · exact True.intro
    · exact True.intro
    · exact True.intro
    · exact Or.inl (by omega)
    · exact Or.inl ha1
  have hSv : z_sv1 sh.length [z_r 0] := fun q hq => by rw [List.mem_singleton.mp hq]; exact Or.inl (by omega)
  refine z_aload_n 3 dL_acts_325 rfl rfl ?_
  refine z_newSB rfl ⟨z_lek rfl, z_lek rfl⟩ dL_acts_326 dL_acts_329 dL_acts_330 (by omega) hlo hLv hSv (z_lek rfl) ⟨by decide, rfl⟩ (fun w1 g1 g2 g3 => ?_)
  generalize hs1 : sh ++ [z_sbc (sh.length + 1), (.inr (.inl (2, 16)) : z_C)] = sh1 at g1 g2 g3
  have l1 : sh1.length = sh.length + 2 := by rw [← hs1, List.length_append]; rfl
  refine z_ldcS (i := 34) rfl dL_acts_333 ?_
  refine z_apS (k0 := 0) (rest := [z_r 0]) (t2 := z_str 34) zlRL_76 ⟨z_lek rfl, z_lek rfl⟩ dL_acts_335 g1 (z_isx_c (by decide)) (by rw [z_str34]; decide) ⟨by decide, by rw [z_str34]; decide⟩ (by omega) g3 (z_lv_le hLv (by omega)) (z_sv_le hSv (by omega)) (z_lek rfl) ⟨by rw [z_str34]; decide, rfl⟩ (fun sh2 w2 m2 k1 k2 k3 k4 k5 k6 k7 => ?_)
  rw [z_str34] at k1 k7
  have k1 : z_bld sh2 w2 sh.length m2 [110] := k1
  have hm2 : m2 = 16 := by
    have k7' : (m2 : Int) ≤ max ((16 : Nat) : Int) (2 * (((0 : Nat) : Int) + ((1 : Nat) : Int)) + 2) := k7
    rw [show max ((16 : Nat) : Int) (2 * (((0 : Nat) : Int) + ((1 : Nat) : Int)) + 2) = 16 by decide] at k7'
    omega
  subst hm2
  have f2 : z_frb sh.length sh sh2 w w2 := g2.trans k2
  refine z_bipush dL_acts_338 (by decide) (by decide) ?_
  refine z_aload_n 4 dL_acts_340 rfl rfl ?_
  refine z_goD (a1 := a1) (rest := [z_i 97, z_r sh.length, z_r 0]) rfl ⟨z_lek rfl, z_lek rfl⟩ dL_acts_341 (by rw [(f2 a1 ha1).1]; exact hh) rfl (z_lek rfl) (fun y w3 hy f3 => ?_)
  refine z_bipush dL_acts_344 (by decide) (by decide) ?_
  refine z_irem dL_acts_346 (by decide) ?_
  rw [z_tm hy.1]
  have y0 := Int.emod_nonneg y (show (26 : Int) ≠ 0 by decide)
  have y1 := Int.emod_lt_of_pos y (show (0 : Int) < 26 by decide)
  generalize y % 26 = d at y0 y1
  refine z_iadd dL_acts_347 ⟨by omega, by omega⟩ ?_
  refine z_i2c dL_acts_348 ?_
  rw [z_i2c' ⟨by omega, by omega⟩]
  have k1b : z_bld sh2 w3 sh.length 16 [110] := k1.cg (fun b hb => f3 b (by omega))
  refine z_apC (k0 := 0) (rest := [z_r 0]) zlRL_55 ⟨z_lek rfl, z_lek rfl⟩ dL_acts_349 k1b ⟨by omega, by omega⟩ ⟨by decide, by decide⟩ (by omega) k3 (z_lv_le hLv (by omega)) (z_sv_le hSv (by omega)) (z_lek rfl) ⟨by decide, rfl⟩ (fun sh3 w4 m3 p1 p2 p3 p4 p5 p6 p7 => ?_)
  have p1 : z_bld sh3 w4 sh.length m3 [110, 97 + d] := p1
  have hm3 : m3 = 16 := by
    have p7' : (m3 : Int) ≤ max ((16 : Nat) : Int) (2 * (((1 : Nat) : Int) + ((1 : Nat) : Int)) + 2) := p7
    rw [show max ((16 : Nat) : Int) (2 * (((1 : Nat) : Int) + ((1 : Nat) : Int)) + 2) = 16 by decide] at p7'
    omega
  subst hm3
  refine z_toS (k0 := 0) (rest := [z_r 0]) zlRL_58 ⟨z_lek rfl, z_lek rfl⟩ dL_acts_352 p1 (z_lek rfl) (by decide) (by omega) p3 (z_lv_le hLv (by omega)) (z_sv_le hSv (by omega)) (z_lek rfl) ⟨z_lek rfl, rfl⟩ (fun w5 hx f5 p8 => ?_)
  obtain ⟨hx1, hx2⟩ := hx
  rcases hx2 with ⟨s0, hs0, hx2, -⟩ | ⟨v, hv1, hv2, hv3⟩
  · exact absurd hx2 (by omega)
  have hv161 : 161 ≤ v := by
    have h4 := hv1.1
    rw [List.getElem?_append_right (Nat.le_refl _), Nat.sub_self] at h4
    have h5 : (some (some (sh3.length + 1)) : Option (Option Nat)) = some (some v) := by
      have := Option.some.inj h4
      injection this with h6
      injection h6 with h7 h8
      injection h8
    injection h5 with h6
    injection h6 with h7
    omega
  generalize hs4 : sh3 ++ [z_stc (sh3.length + 1), (.inr (.inl (2, [110, 97 + d].length)) : z_C)] = sh4 at hx1 hv1 hv2 hv3 p8
  have l4 : sh4.length = sh3.length + 2 := by rw [← hs4, List.length_append]; rfl
  have same4 : ∀ b : Nat, b < sh.length → sh4[b]? = sh[b]? := fun b hb => by rw [← hs4, List.getElem?_append_left (by omega), (p2 b hb).1, (f2 b hb).1]
  have fr5 : ∀ b : Nat, b < sh.length → b ≠ a1 → w5 b = w b := fun b hb hba => by rw [f5 b (by omega), (p2 b hb).2, f3 b hba, (f2 b hb).2]
  have hT4 : z_isTG sh4 0 := z_isTG_mo (lo := 0) (hi := 161) (fun b c _ b1 hbc => by rw [same4 b (by omega)]; exact hbc) (Nat.le_refl _) (by decide) hT
  have hl5 : z_JC w5 A H T er s := hl.1.fr (fun a ha _ => fr5 a (by omega) (by omega))
  have hst : z_mst sh4 w5 sh3.length v [110, 97 + d] := ⟨hx1, hv1, hv2, hv3, by omega, hv161⟩
  refine z_callA (M' := mL_write) (vs := [z_r 0, z_r sh3.length]) (rest := []) (z_invS (As := [z_r 0, z_r sh3.length]) zmL_write ztL_write zlRL_28 ⟨z_lek rfl, z_lek rfl⟩ dL_acts_355 rfl) zmL_write.2.2.2.2 (fun _ _ _ _ _ _ _ _ _ _ _ => True.intro) rfl (z_ar (z_ar z_a0)) (z_lek rfl) (z_lek rfl) (z_lv_le hLv (by show sh.length ≤ sh4.length; omega)) (fun q hq => by cases hq) (Nat.le_refl _) (by decide) ⟨by show 0 + 1 + 1 + 2 * 16 + (2 + 4) + 256 ≤ 1024; decide, by show 0 + 1 + 1 + 2 * 16 + (2 + 4) + 256 ≤ 1024; decide⟩ ?_
  refine L_write (sh := sh4) hT4 (show 161 ≤ sh4.length by omega) (show sh4.length < 900 by omega) p8 hst (z_lek rfl) hl5 hT0 (fun w6 T6 hl6 ht6 hf6 => ?_)
  have hT6 : ∀ {B : z_A}, z_nnp B T6 → z_tn0 T6 < 1024 := fun hB => z_tn2 (ch := z_cht [110, 97 + d]) ht6 rfl (by show 97 ≤ 97 + d ∧ 97 + d ≤ 122; omega) hB
  have hh6 : sh4[a1]? = some (.inr (.inl (0, 8))) := by rw [same4 a1 ha1]; exact hh
  refine z_aload_n 4 dL_acts_358 rfl rfl ?_
  refine z_goD (a1 := a1) (rest := []) rfl ⟨z_lek rfl, z_lek rfl⟩ dL_acts_359 hh6 rfl (z_lek rfl) (fun y2 w7 hy2 f7 => ?_)
  have hl7 : z_JC w7 A H T6 er s := hl6.fr (fun a ha _ => f7 a (by omega))
  have fr7 : ∀ a : Nat, 161 ≤ a → a ≠ a1 → a < sh.length → w7 a = w0 a := fun a ha hb hc => by rw [f7 a hb, hf6 a ha (show a ≠ sh4.length by omega), fr5 a hc hb]; exact hl.2 a ha hb
  refine z_iconst dL_acts_362 (by decide) ?_
  refine z_irem dL_acts_363 (by decide) ?_
  refine z_if_ne (tgt := 374) dL_acts_364 (by decide) (fun _ => ?_) (fun _ => ?_)
  · refine z_aload_n 3 dL_acts_374 rfl rfl ?_
    refine z_iload_n 2 dL_acts_375 rfl rfl ?_
    refine z_goU (As := [z_i a]) (rest := []) zmX8_rename znX8_rename zsX8_rename zlRL_145 ⟨z_lek rfl, z_lek rfl⟩ dL_acts_376 hT4 rfl rfl (z_ai z_a0) (z_lek rfl) (z_lek rfl) ⟨rfl, rfl⟩ uc_rename hl7 (fun w8 hl8 hf8 => ?_)
    refine z_istore (L' := [(5, z_i (z_dren A H T6 a).1), (4, z_i g), (3, z_i b), (2, z_i a), (0, z_r 0), (1, z_r a1)]) dL_acts_379 (z_ltk rfl) rfl ?_
    exact L_acts_381 (by omega) same4 hT4 hQ hl8 (fun a ha hb hc => by rw [hf8 a ha]; exact fr7 a ha hb hc) (z_nmi_ren hl.1.1.1.1.2.1.1 hT6 hn)
  · refine z_aload_n 3 dL_acts_367 rfl rfl ?_
    refine z_goU (As := []) (rest := []) zmX8_open znX8_open zsX8_open zlRL_142 ⟨z_lek rfl, z_lek rfl⟩ dL_acts_368 hT4 rfl rfl z_a0 (z_lek rfl) (z_lek rfl) ⟨rfl, rfl⟩ uc_open hl7 (fun w8 hl8 hf8 => ?_)
    refine z_goto (tgt := 379) dL_acts_371 (by decide) ?_
    refine z_istore (L' := [(5, z_i (z_dopen A H T6).1), (4, z_i g), (3, z_i b), (2, z_i a), (0, z_r 0), (1, z_r a1)]) dL_acts_379 (z_ltk rfl) rfl ?_
    exact L_acts_381 (by omega) same4 hT4 hQ hl8 (fun a ha hb hc => by rw [hf8 a ha]; exact fr7 a ha hb hc) (z_nmi_open hl.1.1.1.1.2.1.1 hT6 hn)
/-- acts -/
theorem L_acts (hT : z_isTG sh 0) (hh : sh[a1]? = some (.inr (.inl (0, 8)))) (h161 : 161 ≤ a1) (hsl : sh.length < 700) (hlo : z_cls0 sh) (hQ : z_aq w sh.length a1 er s sh Q) (h : z_JC w A H T er s) (hT0 : T.1 = 0) (hn : z_nmi A) : z_Sem mLa (sh.length, 0) 0 [(0, z_r 0), (1, z_r a1)] [] (sh, w) Q := by
  have hl : z_acx w a1 w A H T er s := ⟨h, fun _ _ _ => rfl⟩
  have n0 := h.1.1.1.2.1
  have m0 := h.1.1.1.2.2.1
  refine z_aload_n 1 dL_acts_0 rfl rfl ?_
  refine z_goE (rest := []) rfl ⟨z_lek rfl, z_lek rfl⟩ dL_acts_1 hh h161 rfl (z_lek rfl) hl (fun y1 w1 hy1 hl => ?_)
  refine z_aload_n 0 dL_acts_4 rfl rfl ?_
  refine z_iconst dL_acts_5 (by decide) ?_
  refine z_goW (As := [z_i 1]) (rest := [z_i y1]) zmX8_value znX8_value zsX8_value zlRL_103 ⟨z_lek rfl, z_lek rfl⟩ dL_acts_6 hT rfl rfl (z_ai z_a0) (z_lek rfl) (z_lek rfl) ⟨rfl, rfl⟩ (uc_value.as (v' := A 1 0) rfl) hl (fun w2 hl => ?_)
  refine z_irem dL_acts_9 (by omega) ?_
  generalize y1.tmod (A 1 0) = a
  refine z_istore_n (L' := [(2, z_i a), (0, z_r 0), (1, z_r a1)]) dL_acts_10 rfl (z_ltk rfl) rfl ?_
  refine z_aload_n 2 dL_acts_11 rfl rfl ?_
  refine z_goE (rest := []) rfl ⟨z_lek rfl, z_lek rfl⟩ dL_acts_12 hh h161 rfl (z_lek rfl) hl (fun y2 w3 hy2 hl => ?_)
  refine z_aload_n 1 dL_acts_15 rfl rfl ?_
  refine z_iconst dL_acts_16 (by decide) ?_
  refine z_goW (As := [z_i 1]) (rest := [z_i y2]) zmX8_value znX8_value zsX8_value zlRL_103 ⟨z_lek rfl, z_lek rfl⟩ dL_acts_17 hT rfl rfl (z_ai z_a0) (z_lek rfl) (z_lek rfl) ⟨rfl, rfl⟩ (uc_value.as (v' := A 1 0) rfl) hl (fun w4 hl => ?_)
  refine z_irem dL_acts_20 (by omega) ?_
  generalize y2.tmod (A 1 0) = b
  refine z_istore_n (L' := [(3, z_i b), (2, z_i a), (0, z_r 0), (1, z_r a1)]) dL_acts_21 rfl (z_ltk rfl) rfl ?_
  refine z_aload_n 3 dL_acts_22 rfl rfl ?_
  refine z_goE (rest := []) rfl ⟨z_lek rfl, z_lek rfl⟩ dL_acts_23 hh h161 rfl (z_lek rfl) hl (fun y3 w5 hy3 hl => ?_)
  refine z_iconst dL_acts_26 (by decide) ?_
  refine z_aload_n 2 dL_acts_27 rfl rfl ?_
  refine z_iconst dL_acts_28 (by decide) ?_
  refine z_goW (As := [z_i 2]) (rest := [z_i 1, z_i y3]) zmX8_value znX8_value zsX8_value zlRL_103 ⟨z_lek rfl, z_lek rfl⟩ dL_acts_29 hT rfl rfl (z_ai z_a0) (z_lek rfl) (z_lek rfl) ⟨rfl, rfl⟩ (uc_value.as (v' := A 2 0) rfl) hl (fun w6 hl => ?_)
  refine z_callS (As := [z_i 1, z_i (A 2 0)]) (rest := [z_i y3]) zmJ9_max_7cf53 ztJ9_max_7cf53 zlRL_81 ⟨z_lek rfl, z_lek rfl⟩ dL_acts_32 rfl rfl (z_ai (z_ai z_a0)) (z_lek rfl) (z_lek rfl) ⟨rfl, rfl⟩ ?_
  refine t_J9_max_7cf53 ?_
  show z_Sem mLa (sh.length, 0) 35 [(3, z_i b), (2, z_i a), (0, z_r 0), (1, z_r a1)] [z_i (f_J9_max_7cf53 w6 1 (A 2 0)), z_i y3] (sh, w6) Q
  rw [z_fmax]
  refine z_irem dL_acts_35 (by omega) ?_
  generalize y3.tmod (max 1 (A 2 0)) = g
  refine z_istore (L' := [(4, z_i g), (3, z_i b), (2, z_i a), (0, z_r 0), (1, z_r a1)]) dL_acts_36 (z_ltk rfl) rfl ?_
  refine z_aload_n 4 dL_acts_38 rfl rfl ?_
  refine z_goE (rest := []) rfl ⟨z_lek rfl, z_lek rfl⟩ dL_acts_39 hh h161 rfl (z_lek rfl) hl (fun y4 w7 hy4 hl => ?_)
  refine z_bipush dL_acts_42 (by decide) (by decide) ?_
  refine z_irem dL_acts_44 (by decide) ?_
  generalize y4.tmod 20 = x
  refine z_tab (tgd := 325) dL_acts_45 (by decide) (fun x0 x1 => ?_) (fun _ => L_acts_325 hT hh h161 hsl hlo hQ hl hT0 hn)
  have hx : x = 0 ∨ x = 1 ∨ x = 2 ∨ x = 3 ∨ x = 4 ∨ x = 5 ∨ x = 6 ∨ x = 7 ∨ x = 8 ∨ x = 9 ∨ x = 10 ∨ x = 11 ∨ x = 12 ∨ x = 13 ∨ x = 14 ∨ x = 15 ∨ x = 16 ∨ x = 17 := by omega
  rcases hx with rfl | rfl | rfl | rfl | rfl | rfl | rfl | rfl | rfl | rfl | rfl | rfl | rfl | rfl | rfl | rfl | rfl | rfl
  · exact ⟨87, 132, rfl, by decide, L_acts_132 hT hh h161 hQ hl hT0 hn⟩
  · exact ⟨87, 132, rfl, by decide, L_acts_132 hT hh h161 hQ hl hT0 hn⟩
  · exact ⟨87, 132, rfl, by decide, L_acts_132 hT hh h161 hQ hl hT0 hn⟩
  · exact ⟨87, 132, rfl, by decide, L_acts_132 hT hh h161 hQ hl hT0 hn⟩
  · exact ⟨87, 132, rfl, by decide, L_acts_132 hT hh h161 hQ hl hT0 hn⟩
  · exact ⟨87, 132, rfl, by decide, L_acts_132 hT hh h161 hQ hl hT0 hn⟩
  · exact ⟨111, 156, rfl, by decide, L_acts_156 hT hh h161 hQ hl hT0 hn⟩
  · exact ⟨122, 167, rfl, by decide, L_acts_167 hT hh h161 hQ hl hT0 hn⟩
  · exact ⟨122, 167, rfl, by decide, L_acts_167 hT hh h161 hQ hl hT0 hn⟩
  · exact ⟨140, 185, rfl, by decide, L_acts_185 hT hh h161 hQ hl hT0 hn⟩
  · exact ⟨140, 185, rfl, by decide, L_acts_185 hT hh h161 hQ hl hT0 hn⟩
  · exact ⟨159, 204, rfl, by decide, L_acts_204 hT hh h161 hQ hl hT0 hn⟩
  · exact ⟨184, 229, rfl, by decide, L_acts_229 hT hh h161 hQ hl hT0 hn⟩
  · exact ⟨194, 239, rfl, by decide, L_acts_239 hT hh h161 hQ hl hT0 hn⟩
  · exact ⟨221, 266, rfl, by decide, L_acts_266 hT hh h161 hQ hl hT0 hn⟩
  · exact ⟨240, 285, rfl, by decide, L_acts_285 hT hh h161 hQ hl hT0 hn⟩
  · exact ⟨249, 294, rfl, by decide, L_acts_294 hT hh h161 hQ hl hT0 hn⟩
  · exact ⟨258, 303, rfl, by decide, L_acts_303 hT hh h161 hQ hl hT0 hn⟩
end ZACTS2
