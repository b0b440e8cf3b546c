/-! SETUP, walked: its pin, its start -/
section ZSETP
variable {B m c : Nat} {sh sh0 : List z_C} {w w0 : z_Mm} {Q : Option z_V → z_S → Prop} {x : Int → Int} {A : z_A} {t t2 : List Int}
/-- what setup must end with -/
def z_sq (sh0 : List z_C) (w0 : z_Mm) (Q : Option z_V → z_S → Prop) : Prop := ∀ (A : z_A) (sh' : List z_C) (w' : z_Mm) (x v : Nat), z_ok A → z_nmi A → z_as (z_stx A) → z_isSt sh' x v (z_stx A).length → w' x 1 = 0 → z_tx w' v (z_stx A) → 164 ≤ x → 164 ≤ v → (∀ b : Nat, b < 164 → sh'[b]? = sh0[b]?) → (∀ a : Nat, 1 ≤ a → a < 164 → w' a = w0 a) → z_cls0 sh' → 164 ≤ sh'.length → Q (some (z_r x)) (sh', w')
theorem L_setup_398 {k E : Int} {r : Nat} (hQ : z_sq sh0 w0 Q) (hm : z_mb sh0 w0 x B sh w m t) (hx : z_isx sh w r t2) (hA : z_ok A) (hn : z_nmi A) (heq : t ++ t2 = z_stx A) (hl : t.length + t2.length ≤ 400) (hc : c ≤ 1500 ∧ B ≤ 600) : z_Sem mLset (164, c + 2 * m) 398 (z_LS k E) [z_r r, z_r 165] (sh, w) Q := by
  refine z_gS dL_setup_398 hm hx hl hc z_lvS (fun sh1 w1 m1 hm1 => ?_)
  rw [heq] at hm1
  have hlen : (z_stx A).length ≤ 400 := by rw [← heq, List.length_append]; exact hl
  obtain ⟨h1, h2, h3, h4, h5, h6, h7, h8, h9⟩ := hm1
  refine z_toS (k0 := 0) (c := c + 1 + 2 * m1) (rest := []) zlRL_58 ⟨z_lek rfl, z_lek rfl⟩ dL_setup_401 h1 (z_x3_ge _) (by omega) (by omega) h6 (z_lv_le z_lvS (by omega)) (fun q hq => by cases hq) (z_lek rfl) ⟨by show c + 1 + 2 * m1 + ((z_stx A).length + 4) ≤ 4096; omega, rfl⟩ (fun w' hx' hf' hlo' => ?_)
  refine z_ret (v := some (z_r sh1.length)) dL_setup_404 ⟨rfl, _, rfl, Or.inl ⟨_, rfl⟩⟩ rfl ?_
  obtain ⟨hx1, hx2⟩ := hx'
  rcases hx2 with ⟨s0, g1, g2, -⟩ | ⟨v, g1, g2, g3⟩
  · exact absurd g2 (by omega)
  · have hv : v = sh1.length + 1 := by
      have h4 := g1.1
      rw [List.getElem?_append_right (Nat.le_refl _), Nat.sub_self] at h4
      have h5 : (some (some (sh1.length + 1)) : Option (Option Nat)) = some (some v) := by
        have := Option.some.inj h4
        injection this with h6
        injection h6 with h7 h8
        injection h8
      injection h5 with h6
      injection h6 with h7
      exact h7.symm
    subst hv
    refine hQ A _ w' sh1.length (sh1.length + 1) hA hn hx1 g1 g2 g3 (by omega) (by omega) (fun b hb => ?_) (fun a a1 a2 => ?_) hlo' ?_
    · rw [List.getElem?_append_left (by omega)]; exact h2 b hb
    · rw [hf' a (by omega)]; exact h5 a a1 a2
    · rw [List.length_append]; omega
theorem L_setup_332 {E : Int} (hE : 2 ≤ E ∧ E ≤ 5) (hs0 : sh0[0]? = some (.inr (.inl (0, 8)))) (hQ : z_sq sh0 w0 Q) (hk : z_sk x A) (h1 : A 1 0 = E + 1) (hm : z_mb sh0 w0 x B sh w m (z_stx A)) (hl : (z_stx A).length ≤ 300) (hc : c ≤ 1200) (hB : B ≤ 580) : z_Sem mLset (164, c + 2 * m) 332 (z_LS 0 E) [] (sh, w) Q := by
  obtain ⟨⟨l23, l24, l25, l26, l27, l28⟩, l29, l30, l31, l32, l33⟩ := z_strLl
  obtain ⟨⟨q23, q24, q25, q26, q27, q28⟩, q29, q30, q31, q32, q33⟩ := z_strL
  refine z_iconst dL_setup_332 (by decide) ?_
  refine z_aload_n 4 dL_setup_333 rfl rfl ?_
  refine z_gD (rest := [z_i 1]) dL_setup_334 hs0 hm (z_lek rfl) (fun y1 w1 hy1 hm => ?_)
  refine z_iload_n 3 dL_setup_337 rfl rfl ?_
  refine z_irem dL_setup_338 (by omega) ?_
  rw [z_tm hy1.1]
  have a0 := Int.emod_nonneg y1 (show E ≠ 0 by omega)
  have a1 := Int.emod_lt_of_pos y1 (show 0 < E by omega)
  generalize y1 % E = p0 at a0 a1
  refine z_iadd dL_setup_339 ⟨by omega, by omega⟩ ?_
  have p1 : 1 ≤ 1 + p0 ∧ 1 + p0 < A 1 0 := ⟨by omega, by omega⟩
  generalize 1 + p0 = e at p1
  refine z_istore (L' := z_LS e E) dL_setup_340 (z_ltk rfl) rfl ?_
  refine z_aload_n 1 dL_setup_342 rfl rfl ?_
  refine z_aload_n 4 dL_setup_343 rfl rfl ?_
  refine z_gD (rest := [z_r 165]) dL_setup_344 hs0 hm (z_lek rfl) (fun y2 w2 hy2 hm => ?_)
  refine z_iconst dL_setup_347 (by decide) ?_
  refine z_irem dL_setup_348 (by decide) ?_
  refine z_if_ne (tgt := 396) dL_setup_349 (by decide) (fun _ => ?_) (fun _ => ?_)
  · refine z_ldcS (i := 28) rfl dL_setup_396 ?_
    exact L_setup_398 (t2 := z_str 28) hQ hm (z_isx_c (by decide)) hk.ok hk.nmi (by rw [q28, List.append_nil]) (by omega) ⟨by omega, by omega⟩
  · have hm0 := hm
    obtain ⟨b1, b2, b3, b4, b5, b6, b7, b8, b9⟩ := hm
    have hLv : z_lv sh.length (z_LS e E) := z_lv_le z_lvS (by omega)
    refine z_newSB (c := c + 2 * m) rfl ⟨z_lek rfl, z_lek rfl⟩ dL_setup_352 dL_setup_355 dL_setup_356 (by omega) b6 hLv (z_sv165 b7) (z_lek rfl) ⟨by show c + 2 * m + 32 ≤ 4096; omega, rfl⟩ (fun w3 g1 g2 g3 => ?_)
    generalize hs1 : sh ++ [z_sbc (sh.length + 1), (.inr (.inl (2, 16)) : z_C)] = sh1 at g1 g2 g3
    have l1 : sh1.length = sh.length + 2 := by rw [← hs1, List.length_append]; rfl
    refine z_ldcS (i := 32) rfl dL_setup_359 ?_
    have mx4 : max ((16 : Nat) : Int) (2 * (((0 : Nat) : Int) + ((4 : Nat) : Int)) + 2) = 16 := by decide
    refine z_apS (k0 := 0) (c := c + 2 * m) (rest := [z_r 165]) (t2 := z_str 32) zlRL_76 ⟨z_lek rfl, z_lek rfl⟩ dL_setup_361 g1 (z_isx_c (by decide)) (by omega) ⟨by decide, by rw [l32]; decide⟩ (by omega) g3 (z_lv_le hLv (by omega)) (z_sv165 (by omega)) (z_lek rfl) ⟨?_, rfl⟩ (fun sh2 w4 m2 k1 k2 k3 k4 k5 k6 k7 => ?_)
    · rw [l32]
      show ((c + 2 * m : Nat) : Int) + 1 + 2 * max ((16 : Nat) : Int) (2 * (((0 : Nat) : Int) + ((4 : Nat) : Int)) + 2) ≤ ((4096 : Nat) : Int)
      rw [mx4]
      omega
    have hm2 : m2 = 16 := by
      rw [l32] at k7
      have k7' : (m2 : Int) ≤ max ((16 : Nat) : Int) (2 * (((0 : Nat) : Int) + ((4 : Nat) : Int)) + 2) := k7
      rw [mx4] at k7'
      omega
    subst hm2
    have k1 : z_bld sh2 w4 sh.length 16 (z_str 32) := k1
    refine z_bipush dL_setup_364 (by decide) (by decide) ?_
    refine z_iload 0 dL_setup_366 rfl ?_
    refine z_iadd dL_setup_368 ⟨by omega, by omega⟩ ?_
    refine z_i2c dL_setup_369 ?_
    have r1 := hk.2.1.2.1
    rw [z_i2c' ⟨by omega, by omega⟩]
    have mx5 : max ((16 : Nat) : Int) (2 * (((4 : Nat) : Int) + 1) + 2) = 16 := by decide
    refine z_apC (k0 := 0) (c := c + 2 * m + 1) (rest := [z_r 165]) zlRL_55 ⟨z_lek rfl, z_lek rfl⟩ dL_setup_370 k1 ⟨by omega, by omega⟩ ⟨by decide, by rw [l32]; decide⟩ (by omega) k3 (z_lv_le hLv (by omega)) (z_sv165 (by omega)) (z_lek rfl) ⟨?_, rfl⟩ (fun sh3 w5 m3 p1' p2 p3 p4 p5 p6 p7 => ?_)
    · rw [l32]
      show ((c + 2 * m + 1 : Nat) : Int) + 1 + 2 * max ((16 : Nat) : Int) (2 * (((4 : Nat) : Int) + 1) + 2) ≤ ((4096 : Nat) : Int)
      rw [mx5]
      omega
    have hm3 : m3 = 16 := by
      rw [l32] at p7
      have p7' : (m3 : Int) ≤ max ((16 : Nat) : Int) (2 * (((4 : Nat) : Int) + ((1 : Nat) : Int)) + 2) := p7
      rw [show max ((16 : Nat) : Int) (2 * (((4 : Nat) : Int) + ((1 : Nat) : Int)) + 2) = 16 by decide] at p7'
      omega
    subst hm3
    have lt3 : (z_str 32 ++ [97 + e]).length = 5 := by rw [List.length_append, l32]; rfl
    refine z_ldcS (i := 33) rfl dL_setup_373 ?_
    have mx6 : max ((16 : Nat) : Int) (2 * (((5 : Nat) : Int) + ((1 : Nat) : Int)) + 2) = 16 := by decide
    refine z_apS (k0 := 0) (c := c + 2 * m + 1 + 1) (rest := [z_r 165]) (t2 := z_str 33) zlRL_76 ⟨z_lek rfl, z_lek rfl⟩ dL_setup_375 p1' (z_isx_c (by decide)) (by omega) ⟨by decide, by rw [l33, lt3]; decide⟩ (by omega) p3 (z_lv_le hLv (by omega)) (z_sv165 (by omega)) (z_lek rfl) ⟨?_, rfl⟩ (fun sh4 w6 m4 r1' r2 r3 r4 r5 r6 r7 => ?_)
    · rw [l33, lt3]
      show ((c + 2 * m + 1 + 1 : Nat) : Int) + 1 + 2 * max ((16 : Nat) : Int) (2 * (((5 : Nat) : Int) + ((1 : Nat) : Int)) + 2) ≤ ((4096 : Nat) : Int)
      rw [mx6]
      omega
    have hm4 : m4 = 16 := by
      rw [l33, lt3] at r7
      have r7' : (m4 : Int) ≤ max ((16 : Nat) : Int) (2 * (((5 : Nat) : Int) + ((1 : Nat) : Int)) + 2) := r7
      rw [mx6] at r7'
      omega
    subst hm4
    have lt4 : (z_str 32 ++ [97 + e] ++ z_str 33).length = 6 := by rw [List.length_append, lt3, l33]
    have fr4 : z_frb sh.length sh sh4 w2 w6 := (g2.trans k2).trans (p2.trans r2)
    have e164 : w6 164 = x := by rw [(fr4 164 (by omega)).2]; exact b4
    have s164 : sh4[164]? = some (.inr (.inl (0, 10))) := by rw [(fr4 164 (by omega)).1]; exact b3
    have xe := hk.2.2.2.2.2.2.1 e p1.1 p1.2
    have hd3 := z_dl_len (x e)
    refine z_aload_n 2 dL_setup_378 rfl rfl ?_
    refine z_iload 0 dL_setup_379 rfl ?_
    refine z_iald (n := 10) dL_setup_381 s164 ⟨by omega, by omega⟩ ?_
    show z_Sem mLset _ _ _ [z_i (w6 164 e), z_r sh.length, z_r 165] (sh4, w6) Q
    rw [e164]
    have mxa := z_mxc ((16 : Nat) : Int) (2 * (((6 : Nat) : Int) + ((z_dl (x e)).length : Int)) + 2)
    refine z_apI (k0 := 0) (c := c + 2 * m + 1 + 1 + 1) (rest := [z_r 165]) zlRL_71 ⟨z_lek rfl, z_lek rfl⟩ dL_setup_382 r1' ⟨by omega, by omega⟩ ⟨by decide, by rw [lt4]; decide⟩ (by omega) r3 (z_lv_le hLv (by omega)) (z_sv165 (by omega)) (z_lek rfl) ⟨?_, rfl⟩ (fun sh5 w7 m5 u1 u2 u3 u4 u5 u6 u7 => ?_)
    · rw [lt4]
      show ((c + 2 * m + 1 + 1 + 1 : Nat) : Int) + 1 + 2 * max ((16 : Nat) : Int) (2 * (((6 : Nat) : Int) + ((z_dl (x e)).length : Int)) + 2) ≤ ((4096 : Nat) : Int)
      omega
    rw [lt4] at u7
    have hm5 : 16 ≤ m5 ∧ m5 ≤ 20 := by omega
    have lt5 : (z_str 32 ++ [97 + e] ++ z_str 33 ++ z_dl (x e)).length = 6 + (z_dl (x e)).length := by rw [List.length_append, lt4]
    refine z_ldcS (i := 24) rfl dL_setup_385 ?_
    have mxb := z_mxc (m5 : Int) (2 * (((6 + (z_dl (x e)).length : Nat) : Int) + ((1 : Nat) : Int)) + 2)
    refine z_apS (k0 := 0) (c := c + 2 * m + 1 + 1 + 1 + 1) (rest := [z_r 165]) (t2 := z_str 24) zlRL_76 ⟨z_lek rfl, z_lek rfl⟩ dL_setup_387 u1 (z_isx_c (by decide)) (by omega) ⟨by omega, by rw [l24, lt5]; omega⟩ (by omega) u3 (z_lv_le hLv (by omega)) (z_sv165 (by omega)) (z_lek rfl) ⟨?_, rfl⟩ (fun sh6 w8 m6 v1 v2 v3 v4 v5 v6 v7 => ?_)
    · rw [l24, lt5]
      show ((c + 2 * m + 1 + 1 + 1 + 1 : Nat) : Int) + 1 + 2 * max (m5 : Int) (2 * (((6 + (z_dl (x e)).length : Nat) : Int) + ((1 : Nat) : Int)) + 2) ≤ ((4096 : Nat) : Int)
      omega
    rw [l24, lt5] at v7
    have hm6 : 16 ≤ m6 ∧ m6 ≤ 24 := by omega
    have lt6 : (z_str 32 ++ [97 + e] ++ z_str 33 ++ z_dl (x e) ++ z_str 24).length = 7 + (z_dl (x e)).length := by rw [List.length_append, lt5, l24]; omega
    have fr6 : z_frb sh.length sh sh6 w2 w8 := (fr4.trans u2).trans v2
    generalize hT : z_str 32 ++ [97 + e] ++ z_str 33 ++ z_dl (x e) ++ z_str 24 = T at v1 lt6
    refine z_toS (k0 := 0) (c := c + 2 * m + 1 + 1 + 1 + 1 + 1 + 2 * m6) (rest := [z_r 165]) zlRL_58 ⟨z_lek rfl, z_lek rfl⟩ dL_setup_390 v1 (by omega) (by omega) (by omega) v3 (z_lv_le hLv (by omega)) (z_sv165 (by omega)) (z_lek rfl) ⟨by show c + 2 * m + 1 + 1 + 1 + 1 + 1 + 2 * m6 + (T.length + 4) ≤ 4096; omega, rfl⟩ (fun w9 hx9 f9 p8 => ?_)
    generalize hs7 : sh6 ++ [z_stc (sh6.length + 1), (.inr (.inl (2, T.length)) : z_C)] = sh7 at hx9 p8
    have l7 : sh7.length = sh6.length + 2 := by rw [← hs7, List.length_append]; rfl
    have hall : ∀ b : Nat, b < sh.length → sh7[b]? = sh[b]? ∧ w9 b = w2 b := fun b hb => ⟨by rw [← hs7, List.getElem?_append_left (by omega), (fr6 b hb).1], by rw [f9 b (by omega), (fr6 b hb).2]⟩
    refine z_goto (tgt := 398) dL_setup_393 (by decide) ?_
    have hpin := z_sk_pin hk p1
    have heq : z_stx A ++ T = z_stx (z_up A 8 e (x e)) := by
      rw [z_stx_pin hk.2.2.2.2.1 p1 (by omega), hk.2.2.2.1 e p1.1 p1.2, z_nl1' ⟨by omega, by omega⟩, ← hT, q32, q33, q24]
      simp only [List.append_assoc]
    refine z_wd4 (z' := c + 80 + 2 * m) (by omega) (by omega) ?_
    exact L_setup_398 hQ (hm0.mo (B' := 8) hall p8 ⟨by omega, by omega⟩) hx9 hpin.1 hpin.2 heq (by omega) ⟨by omega, by omega⟩
/-- setup -/
theorem z_setupsY : z_setups := by
  intro sh0 w0 Q hs0 hlen0 hlo0 hQ0
  obtain ⟨⟨l23, l24, l25, l26, l27, l28⟩, l29, l30, l31, l32, l33⟩ := z_strLl
  obtain ⟨⟨q23, q24, q25, q26, q27, q28⟩, q29, q30, q31, q32, q33⟩ := z_strL
  have hQ : z_sq sh0 w0 Q := hQ0
  rw [hlen0]
  refine z_iconst dL_setup_0 (by decide) ?_
  refine z_aload_n 0 dL_setup_1 rfl rfl ?_
  refine z_goD (a1 := 0) (rest := [z_i 2]) rfl ⟨z_lek rfl, z_lek rfl⟩ dL_setup_2 hs0 rfl (z_lek rfl) (fun y1 w1 hy1 f1 => ?_)
  refine z_iconst dL_setup_5 (by decide) ?_
  refine z_irem dL_setup_6 (by decide) ?_
  rw [z_tm hy1.1]
  have a0 := Int.emod_nonneg y1 (show (4 : Int) ≠ 0 by decide)
  have a1 := Int.emod_lt_of_pos y1 (show (0 : Int) < 4 by decide)
  generalize y1 % 4 = p0 at a0 a1
  refine z_iadd dL_setup_7 ⟨by omega, by omega⟩ ?_
  obtain ⟨E, hE, hEr⟩ : ∃ E : Nat, 2 + p0 = (E : Int) ∧ 2 ≤ E ∧ E ≤ 5 := ⟨(2 + p0).toNat, by omega, by omega, by omega⟩
  rw [hE]
  refine z_istore_n (L' := [(1, z_i (E : Int)), (0, z_r 0)]) dL_setup_8 rfl (z_ltk rfl) rfl ?_
  refine z_bipush dL_setup_9 (by decide) (by decide) ?_
  refine z_newa (N := 10) (kd := 0) (Or.inl ⟨rfl, rfl⟩) z_awi (by decide) (by show sh0.length < 1000; omega) hlo0 (fun q hq => ?_) (fun q hq => by cases hq) (by decide) ⟨by show 0 + 10 ≤ 4096; decide, by show 0 + 10 ≤ 4096; decide⟩ dL_setup_11 ?_
  · simp only [List.mem_cons, List.not_mem_nil, or_false] at hq
    rcases hq with rfl | rfl
    · exact True.intro
    · exact Or.inl (by show 0 < sh0.length; omega)
  refine z_gennw (fun w2 hz2 f2 => ?_)
  rw [show ((sh0, w1) : z_S).1.length = 164 from hlen0]
  rw [hlen0] at hz2 f2
  have len1 : (sh0 ++ [(.inr (.inl (0, 10)) : z_C)]).length = 165 := by rw [List.length_append, hlen0]; rfl
  have lo1 : z_cls0 (sh0 ++ [(.inr (.inl (0, 10)) : z_C)]) := by
    unfold z_cls0
    rw [List.length_append]
    exact z_cl1_app hlo0 (fun c hc => by rw [List.mem_singleton.mp hc]; exact True.intro)
  have s164 : (sh0 ++ [(.inr (.inl (0, 10)) : z_C)])[164]? = some (.inr (.inl (0, 10))) := by rw [List.getElem?_append_right (by omega), hlen0]; rfl
  have slt : ∀ b : Nat, b < 164 → (sh0 ++ [(.inr (.inl (0, 10)) : z_C)])[b]? = sh0[b]? := fun b hb => List.getElem?_append_left (by omega)
  generalize sh0 ++ [(.inr (.inl (0, 10)) : z_C)] = sh1 at len1 lo1 s164 slt
  refine z_astore_n (L' := [(2, z_r 164), (1, z_i (E : Int)), (0, z_r 0)]) dL_setup_13 rfl (z_ltk rfl) rfl ?_
  have hLv : z_lv sh1.length [(2, z_r 164), (1, z_i (E : Int)), (0, z_r 0)] := by
    intro q hq
    simp only [List.mem_cons, List.not_mem_nil, or_false] at hq
    rcases hq with rfl | rfl | rfl
    · exact Or.inl (by show 164 < sh1.length; omega)
    · exact True.intro
    · exact Or.inl (by show 0 < sh1.length; omega)
  have len2 : (sh1 ++ [z_sb0]).length = 166 := by rw [List.length_append, len1]; rfl
  have lo2 : z_cls0 (sh1 ++ [z_sb0]) := by
    unfold z_cls0
    rw [List.length_append]
    refine z_cl1_app lo1 (fun c hc => ?_)
    rw [List.mem_singleton.mp hc]
    exact (fun o ho a ha => by
      simp only [List.mem_cons, List.not_mem_nil, or_false] at ho
      rcases ho with rfl | rfl | rfl | rfl <;> cases ha)
  refine z_new z_k10 zcRL_40 ziRJ4 zIRJ4 z_flJ4 (show sh1.length < 1000 by omega) lo1 hLv (fun q hq => by cases hq) (by decide) ⟨by show 0 + 10 + 4 ≤ 4096; decide, by show 0 + 10 + 4 ≤ 4096; decide⟩ dL_setup_14 ?_
  refine z_gennw (fun w3 hz3 f3 => ?_)
  rw [show ((sh1, w2) : z_S).1.length = 165 from len1]
  rw [len1] at hz3 f3
  refine z_dup dL_setup_17 rfl ?_
  refine z_ldcS (i := 23) rfl dL_setup_18 ?_
  refine z_callA (M' := mJ4is 32) (vs := [z_r 165, z_r (1001 + 23)]) (rest := [z_r 165]) (z_invI (As := [z_r (1001 + 23)]) zmJ4is znJ4_init_a7421 rfl rfl zlRL_68 ⟨z_lek rfl, z_lek rfl⟩ dL_setup_20 rfl) zwJ4_init_a7421.2.2.2.2 (fun _ _ _ _ _ _ _ _ _ _ _ => True.intro) rfl (z_ar (z_ar z_a0)) (z_lek rfl) (z_lek rfl) (z_lv_le hLv (by show sh1.length ≤ (sh1 ++ [z_sb0]).length; omega)) (fun q hq => by
    rw [List.mem_singleton.mp hq]
    exact Or.inl (by show 165 < (sh1 ++ [z_sb0]).length; omega)) (Nat.le_refl _) (by decide) ⟨by show 0 + 10 + 4 + 32 ≤ 4096; decide, by show 0 + 10 + 4 + 32 ≤ 4096; decide⟩ ?_
  refine t_J4_initS (a := 165) (x := 1001 + 23) (t := z_str 23) (by rw [List.getElem?_append_right (by omega), len1]; rfl) (hz3 3) (z_isx_c (by decide)) (by omega) (by omega) (by show (sh1 ++ [z_sb0]).length < 998; omega) lo2 (fun w4 g1 g2 g3 g4 g5 => ?_)
  rw [len2] at g1 g2 g5
  rw [len2, l23]
  have hsh : (sh1 ++ [z_sb0]).set 165 (z_sbc 166) ++ [(.inr (.inl (2, 20)) : z_C)] = sh1 ++ [z_sbc 166, .inr (.inl (2, 20))] := by
    rw [List.set_append_right _ _ (by omega), len1, List.append_assoc]
    rfl
  have lo3 := z_cls0_set (ci := 10) (a := 165) (v := 166) (m := 20) lo2 (by omega)
  rw [hsh] at lo3
  rw [show (4 + 16 : Nat) = 20 from rfl, hsh]
  have len3 : (sh1 ++ [z_sbc 166, (.inr (.inl (2, 20)) : z_C)]).length = 167 := by rw [List.length_append, len1]; rfl
  rw [l23] at g1 g4
  have hb : z_bld (sh1 ++ [z_sbc 166, (.inr (.inl (2, 20)) : z_C)]) w4 165 20 (z_str 23) := by
    refine ⟨166, by decide, ⟨by rw [List.getElem?_append_right (by omega), len1]; rfl, by rw [List.getElem?_append_right (by omega), len1]; rfl⟩, g3, by rw [l23]; exact g4, by omega, g2, z_str_at 23 (by decide), fun j j0 j1 => g1 j j0 (by omega), by decide⟩
  have hm : z_mb sh0 w0 (fun _ => 0) 167 (sh1 ++ [z_sbc 166, (.inr (.inl (2, 20)) : z_C)]) w4 20 (z_str 23) := by
    refine ⟨hb, fun b hb => ?_, ?_, ?_, fun a a1 a2 => ?_, lo3, by omega, by omega, by omega⟩
    · rw [List.getElem?_append_left (by omega)]; exact slt b hb
    · rw [List.getElem?_append_left (by omega)]; exact s164
    · funext j
      rw [g5 164 (by decide) (by decide), f3 164 (by decide)]
      exact hz2 j
    · rw [g5 a (by omega) (by omega), f3 a (by omega), f2 a (by omega), f1 a (by omega)]
  generalize sh1 ++ [z_sbc 166, (.inr (.inl (2, 20)) : z_C)] = sh2 at hm
  have hLv2 : z_lv 166 [(2, z_r 164), (1, z_i (E : Int)), (0, z_r 0)] := by
    intro q hq
    simp only [List.mem_cons, List.not_mem_nil, or_false] at hq
    rcases hq with rfl | rfl | rfl
    · exact Or.inl (by decide)
    · exact True.intro
    · exact Or.inl (by decide)
  show z_Sem mLset (164, 0 + 10 + 4 + 32) 23 [(2, z_r 164), (1, z_i (E : Int)), (0, z_r 0)] [z_r 165] (sh2, w4) Q
  refine z_bipush dL_setup_23 (by decide) (by decide) ?_
  refine z_aload_n 2 dL_setup_25 rfl rfl ?_
  refine z_gD (rest := [z_i 40, z_r 165]) dL_setup_26 hs0 hm (z_lek rfl) (fun y2 w5 hy2 hm => ?_)
  refine z_bipush dL_setup_29 (by decide) (by decide) ?_
  refine z_irem dL_setup_31 (by decide) ?_
  rw [z_tm hy2.1]
  have b0 := Int.emod_nonneg y2 (show (60 : Int) ≠ 0 by decide)
  have b1 := Int.emod_lt_of_pos y2 (show (0 : Int) < 60 by decide)
  generalize y2 % 60 = d at b0 b1
  refine z_iadd dL_setup_32 ⟨by omega, by omega⟩ ?_
  have nR : 40 ≤ 40 + d ∧ 40 + d ≤ 99 := ⟨by omega, by omega⟩
  generalize 40 + d = n at nR
  have hd3 := z_dl_len n
  refine z_gI (c := 6) (m := 20) dL_setup_33 hm ⟨by omega, by omega⟩ (by omega) ⟨by decide, by decide⟩ hLv2 (fun sh3 w6 m3 hm3 => ?_)
  have hmm3 := hm3.2.2.2.2.2.2.2.1
  rw [List.length_append] at hmm3
  refine z_ldcS (i := 24) rfl dL_setup_36 ?_
  refine z_gS (c := 7) dL_setup_38 hm3 (z_isx_c (by decide)) (by rw [List.length_append]; omega) ⟨by decide, by decide⟩ hLv2 (fun sh4 w7 m4 hm4 => ?_)
  have hst : z_str 23 ++ z_dl n ++ z_str 24 = z_stx (z_ini n) := by rw [z_stx_ini, q23, q24]
  have hlen : (z_stx (z_ini n)).length ≤ 8 * 1 := by rw [← hst, List.length_append, List.length_append]; omega
  rw [hst] at hm4
  have hmm4 := hm4.2.2.2.2.2.2.2.1
  refine z_astore_n (L' := [(3, z_r 165), (2, z_r 164), (1, z_i (E : Int)), (0, z_r 0)]) dL_setup_41 rfl (z_ltk rfl) rfl ?_
  refine z_iconst dL_setup_42 (by decide) ?_
  refine z_istore (L' := z_LS 1 E) dL_setup_43 (z_ltk rfl) rfl ?_
  refine z_wd4 (z' := 40 + 3 * 1 + 2 * m4) (by omega) (by omega) ?_
  refine L_setup_45 (B := 167) (E := E) hEr.2 (by decide) hs0 (fun A x sh w m k1 k2 k3 k4 k5 => ?_) E 1 (by omega) (Nat.le_refl _) (z_ini n) (fun _ => 0) sh4 w7 m4 (z_sk_ini nR rfl) rfl rfl hm4 hlen
  have hmm := k4.2.2.2.2.2.2.2.1
  refine z_aload_n 4 dL_setup_89 rfl rfl ?_
  refine z_gD (rest := []) dL_setup_90 hs0 k4 (z_lek rfl) (fun y3 w8 hy3 hm8 => ?_)
  refine z_bipush dL_setup_93 (by decide) (by decide) ?_
  refine z_irem dL_setup_95 (by decide) ?_
  rw [z_tm hy3.1]
  have c0 := Int.emod_nonneg y3 (show (7 : Int) ≠ 0 by decide)
  have c1 := Int.emod_lt_of_pos y3 (show (0 : Int) < 7 by decide)
  generalize y3 % 7 = kk at c0 c1
  obtain ⟨K, hK, hK6⟩ : ∃ K : Nat, kk = (K : Int) ∧ K ≤ 6 := ⟨kk.toNat, by omega, by omega⟩
  rw [hK]
  refine z_istore (L' := z_LS (K : Int) E) dL_setup_96 (z_ltk rfl) rfl ?_
  refine z_wd4 (z' := 110 + 100 * 0 + 2 * m) (by omega) (by omega) ?_
  exact L_setup_98 (x := x) ⟨by omega, by omega⟩ hs0 (fun A' sh' w' m' j j6 e1 e2 e3 e4 => L_setup_332 (B := 167 + 8 * j) (c := 110 + 100 * j) ⟨by omega, by omega⟩ hs0 hQ e1 e2 e3 (by omega) (by omega) (by omega)) K 0 (by omega) A sh w8 m k1 k2 (by omega) hm8 (by omega)
end ZSETP
