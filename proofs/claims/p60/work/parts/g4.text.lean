/-! LOADS and TEXT -/
section ZTEXT
variable {sh : List z_C} {w : z_Mm} {Q : Option z_V → z_S → Prop} {A : z_A} {H : List z_A} {T : z_T} {er : Int} {s : Nat → Option z_A} {x v : Nat} {t : List Int}
theorem L_loads (hT : z_isTG sh 0) (hsl161 : 161 ≤ sh.length) (hsl : sh.length < 900) (hlo : z_cls0 sh) (hst : z_mst sh w x v t) (hlen : t.length ≤ 880) (h : z_JC w A H T er s) (hT0 : T.1 = 0) (hld : ∀ T' : z_T, z_tpx T' (t.length : Int) (z_cht t) → ¬ (z_ld0 T').1 = 0)
    (hQ : ∀ (w' : z_Mm) (T' : z_T), z_tpx T' (t.length : Int) (z_cht t) → z_JC w' (z_ld0 T').2.1 [] (0, T'.2) (-2) (fun _ => none) → (∀ a : Nat, 161 ≤ a → a ≠ sh.length → w' a = w a) → Q (some (z_i 1)) (sh, w')) : z_Sem mL_loads (sh.length, 0) 0 [(0, z_r 0), (1, z_r x)] [] (sh, w) Q := by
  have hxl := z_ltat hst.2.1.1
  refine z_aload_n 0 dL_loads_0 rfl rfl ?_
  refine z_aload_n 1 dL_loads_1 rfl rfl ?_
  refine z_callA (M' := mL_write) (vs := [z_r 0, z_r x]) (rest := []) (z_invS (As := [z_r 0, z_r x]) zmL_write ztL_write zlRL_28 ⟨z_lek rfl, z_lek rfl⟩ dL_loads_2 rfl) zmL_write.2.2.2.2 (fun _ _ _ _ _ _ _ _ _ _ _ => True.intro) rfl (z_ar (z_ar z_a0)) (z_lek rfl) (z_lek rfl) (z_lvrr (by show 0 < sh.length; omega) (Or.inl hxl)) (fun q hq => by cases hq) (Nat.le_refl _) (by decide) ⟨z_lek rfl, z_lek rfl⟩ ?_
  refine L_write hT hsl161 hsl hlo hst hlen h hT0 (fun w1 T1 hl1 ht1 hf1 => ?_)
  show z_Sem mL_loads (sh.length, 0 + 256) 5 [(0, z_r 0), (1, z_r x)] [] (sh, w1) Q
  refine z_aload_n 0 dL_loads_5 rfl rfl ?_
  refine z_goU (As := []) (rest := []) zmX8_load znX8_load zsX8_load zlRL_34 ⟨z_lek rfl, z_lek rfl⟩ dL_loads_6 hT rfl rfl z_a0 (z_lek rfl) (z_lek rfl) ⟨rfl, rfl⟩ uc_load hl1 (fun w2 hl2 hf2 => ?_)
  rw [z_dld, if_neg (hld T1 ht1)] at hl2 ⊢
  have h20 : 0 ≤ (z_ld0 T1).2.1 2 0 ∧ (z_ld0 T1).2.1 2 0 ≤ 24 := hl2.1.1.1.2.2.1
  show z_Sem mL_loads (sh.length, 0 + 256) 9 [(0, z_r 0), (1, z_r x)] [z_i ((z_ld0 T1).2.1 2 0)] (sh, w2) Q
  refine z_if_lt (tgt := 34) dL_loads_9 (by decide) (fun c => absurd c (by omega)) (fun _ => ?_)
  refine z_aload_n 0 dL_loads_12 rfl rfl ?_
  refine z_goU (As := []) (rest := []) zmX8_errorPosition znX8_errorPosition zsX8_errorPosition zlRL_37 ⟨z_lek rfl, z_lek rfl⟩ dL_loads_13 hT rfl rfl z_a0 (z_lek rfl) (z_lek rfl) ⟨rfl, rfl⟩ uc_errorPosition hl2 (fun w3 hl3 hf3 => ?_)
  refine z_bipush dL_loads_16 (by decide) (by decide) ?_
  refine z_icmp_ne (tgt := 34) dL_loads_18 (by decide) (fun c => absurd rfl c) (fun _ => ?_)
  refine z_aload_n 0 dL_loads_21 rfl rfl ?_
  refine z_iconst dL_loads_22 (by decide) ?_
  refine z_goU (As := [z_i 1]) (rest := []) zmX8_truncate znX8_truncate zsX8_truncate zlRL_8 ⟨z_lek rfl, z_lek rfl⟩ dL_loads_23 hT rfl rfl (z_ai z_a0) (z_lek rfl) (z_lek rfl) ⟨rfl, rfl⟩ uc_truncate hl3 (fun w4 hl4 hf4 => ?_)
  rw [z_dtr, if_neg (by show ¬ ((0 : Int) ≤ 1 ∧ (1 : Int) ≤ 0); omega)] at hl4 ⊢
  show z_Sem mL_loads (sh.length, 0 + 256) 26 [(0, z_r 0), (1, z_r x)] [z_i (-1)] (sh, w4) Q
  refine z_iconst dL_loads_26 (by decide) ?_
  refine z_icmp_ne (tgt := 34) dL_loads_27 (by decide) (fun c => absurd rfl c) (fun _ => ?_)
  refine z_iconst dL_loads_30 (by decide) ?_
  refine z_goto (tgt := 35) dL_loads_31 (by decide) ?_
  exact z_ret (v := some (z_i 1)) dL_loads_35 ⟨rfl, Or.inr (Or.inl ⟨rfl, by decide⟩)⟩ rfl (hQ w4 T1 ht1 hl4 (fun a ha hb => by rw [hf4 a ha, hf3 a ha, hf2 a ha, hf1 a ha hb]))
theorem z_as_dl {n : Int} (h : 0 ≤ n ∧ n ≤ 999) : z_as (z_dl n) := by
  unfold z_dl
  split
  · intro b hb; rw [List.mem_singleton.mp hb]; omega
  · split
    · intro b hb
      simp only [List.mem_cons, List.not_mem_nil, or_false] at hb
      rcases hb with rfl | rfl <;> omega
    · intro b hb
      simp only [List.mem_cons, List.not_mem_nil, or_false] at hb
      rcases hb with rfl | rfl | rfl <;> omega
theorem z_as_nlp {v : Int} : ∀ k : Nat, z_as (z_nlp v k)
  | 0 => fun b hb => by cases hb
  | k + 1 => z_as_app (z_as_nlp k) (fun b hb => by
    rw [List.mem_singleton.mp hb]
    have := z_lof_R v (z_lco v - 1 - (k : Int))
    omega)
theorem z_as_nl {v : Int} : z_as (z_nl v) := z_as_nlp _
theorem z_as_1 {b : Int} (h : 0 ≤ b ∧ b < 128) : z_as [b] := fun c hc => by rw [List.mem_singleton.mp hc]; exact h
theorem z_as_x0 (hA : z_okg A) : z_as (z_x0 A) := z_as_app (z_as_app (z_str_at 16 (by decide)) (z_as_dl (by have := hA.1; omega))) (z_as_1 (by decide))
theorem z_as_x1 (hA : z_okg A) : ∀ k : Nat, z_as (z_x1 A k)
  | 0 => z_as_x0 hA
  | k + 1 => z_as_app (z_as_app (z_as_app (z_as_x1 hA k) (z_str_at 17 (by decide))) z_as_nl) (z_as_1 (by decide))
theorem z_as_x2 (hA : z_okg A) : ∀ k : Nat, (k : Int) ≤ A 2 0 → z_as (z_x2 A k)
  | 0, _ => z_as_x1 hA _
  | k + 1, hk => by
    have ih := z_as_x2 hA k (by omega)
    have h6 := (hA.2.2.2.1 k (by omega) (by omega)).2.2.2.2.1
    show z_as (z_xg A (k : Int) (z_x2 A k))
    have hkd : z_as (if A 5 (k : Int) = 0 then z_str 20 else z_str 21) := by split; exact z_str_at 20 (by decide); exact z_str_at 21 (by decide)
    have hin : z_as (z_x2 A k ++ z_str 19 ++ z_nl (A 9 (A 3 (k : Int))) ++ [32] ++ z_nl (A 9 (A 4 (k : Int))) ++ (if A 5 (k : Int) = 0 then z_str 20 else z_str 21) ++ z_dl (A 6 (k : Int))) := z_as_app (z_as_app (z_as_app (z_as_app (z_as_app (z_as_app ih (z_str_at 19 (by decide))) z_as_nl) (z_as_1 (by decide))) z_as_nl) hkd) (z_as_dl h6)
    unfold z_xg
    refine z_as_app ?_ (z_as_1 (by decide))
    split
    · exact z_as_app hin (z_str_at 22 (by decide))
    · exact hin
theorem z_as_x3 (hA : z_okg A) : ∀ k : Nat, (k : Int) < A 1 0 → z_as (z_x3 A k)
  | 0, _ => z_as_x2 hA _ (by have := hA.2.2.1; omega)
  | k + 1, hk => by
    have ih := z_as_x3 hA k (by omega)
    have h8 := hA.2.2.2.2.1 ((k : Int) + 1) (by omega) (by omega)
    show z_as (z_xp A ((k : Int) + 1) (z_x3 A k))
    unfold z_xp
    split
    · exact ih
    · rename_i c
      exact z_as_app (z_as_app (z_as_app (z_as_app (z_as_app ih (z_str_at 18 (by decide))) z_as_nl) (z_as_1 (by decide))) (z_as_dl (by omega))) (z_as_1 (by decide))
theorem z_i2c128 : ∀ k : Nat, k < 128 → z_i2cv (k : Int) = (k : Int) := by decide +kernel
theorem z_i2c' {x : Int} (h : 0 ≤ x ∧ x < 128) : z_i2cv x = x := by
  have := z_i2c128 x.toNat (by omega)
  rwa [show ((x.toNat : Nat) : Int) = x by omega] at this
theorem z_bld.cg {w' : z_Mm} {a m : Nat} (h : z_bld sh w a m t) (f : ∀ b : Nat, a ≤ b → w' b = w b) : z_bld sh w' a m t := by
  obtain ⟨v, h1, h2, h3, h4, h5, h6, h7, h8, h9⟩ := h
  refine ⟨v, h1, h2, by rw [f a (Nat.le_refl _)]; exact h3, by rw [f a (Nat.le_refl _)]; exact h4, h5, z_tx.cg h6 (f v (by omega)), h7, fun j j0 j1 => by rw [f v (by omega)]; exact h8 j j0 j1, h9⟩
/-- the setup text, told letter by letter -/
noncomputable abbrev z_stx (A : z_A) : List Int := z_x3 A (A 1 0 - 1).toNat
def z_txQ (w0 : z_Mm) (sh0 : List z_C) (A : z_A) (H : List z_A) (T : z_T) (er : Int) (s : Nat → Option z_A) (t : List Int) (Q : Option z_V → z_S → Prop) : Prop := ∀ (sh : List z_C) (w : z_Mm) (x v : Nat), z_mst sh w x v t → z_JC w A H T er s → z_mo 0 sh0.length sh0 sh → (∀ a : Nat, 161 ≤ a → a < sh0.length → w a = w0 a) → z_cls0 sh → sh0.length ≤ sh.length → sh.length ≤ sh0.length + 130 → (sh0.length ≤ x ∧ sh0.length ≤ v) → Q (some (z_r x)) (sh, w)
theorem L_text_27 {w0 : z_Mm} {sh0 : List z_C} (hT : z_isTG sh0 0) (hsl161 : 161 ≤ sh0.length) (hsl : sh0.length < 700) (hX : (z_stx A).length ≤ 880) (hX1 : 1 ≤ (z_stx A).length) (hQ : z_txQ w0 sh0 A H T er s (z_stx A) Q) :
    ∀ (n i : Nat), i + n = (z_stx A).length → ∀ (sh : List z_C) (w : z_Mm) (m : Nat), z_JC w A H T er s → z_bld sh w sh0.length m ((z_stx A).take i) → z_mo 0 sh0.length sh0 sh → (∀ a : Nat, 161 ≤ a → a < sh0.length → w a = w0 a) → z_cls0 sh → sh0.length < sh.length → 16 * sh.length ≤ 16 * sh0.length + 16 + m → m ≤ 2 * i + 16 →
      z_Sem mL_text (sh0.length, i + 2 * m) 27 [(4, z_i (i : Int)), (3, z_i ((z_stx A).length : Int)), (2, z_r sh0.length), (0, z_r 0), (1, z_i 0)] [] (sh, w) Q
  | n, i, hi, sh, w, m, hl, hb, hmo, hf, hlo, hlt, hcells, hm => by
    have hTs : z_isTG sh 0 := z_isTG_mo hmo (Nat.le_refl _) (by omega) hT
    have has := z_as_x3 hl.1.1.1 (A 1 0 - 1).toNat (by have := hl.1.1.1.2.1; omega)
    have hLv : z_lv sh.length [(4, z_i (i : Int)), (3, z_i ((z_stx A).length : Int)), (2, z_r sh0.length), (0, z_r 0), (1, z_i 0)] := by
      intro q hq
      simp only [List.mem_cons, List.not_mem_nil, or_false] at hq
      rcases hq with rfl | rfl | rfl | rfl | rfl
      · exact True.intro
      · exact True.intro
      · exact Or.inl hlt
      · exact Or.inl (by omega)
      · exact True.intro
    refine z_iload 0 dL_text_27 rfl ?_
    refine z_iload_n 1 dL_text_29 rfl rfl ?_
    refine z_icmp_ge (tgt := 64) dL_text_30 (by decide) (fun c => ?_) (fun c => ?_)
    · have hie : i = (z_stx A).length := by omega
      subst hie
      rw [List.take_length] at hb
      refine z_aload_n 2 dL_text_64 rfl rfl ?_
      refine z_toS (k0 := 0) zlRL_58 ⟨z_lek rfl, z_lek rfl⟩ dL_text_65 hb hX1 (by omega) (by omega) hlo hLv (fun q hq => by cases hq) (z_lek rfl) ⟨by show _ ≤ 8192; omega, rfl⟩ (fun w' hx hf' hlo' => ?_)
      refine z_ret (v := some (z_r sh.length)) dL_text_68 ⟨rfl, _, rfl, Or.inl ⟨_, rfl⟩⟩ rfl ?_
      obtain ⟨hx1, hx2⟩ := hx
      rcases hx2 with ⟨s0, h1, h2, -⟩ | ⟨v, h1, h2, h3⟩
      · exact absurd h2 (by omega)
      · have hv : v = sh.length + 1 := by
          have h4 := h1.1
          rw [List.getElem?_append_right (Nat.le_refl _), Nat.sub_self] at h4
          have h5 : (some (some (sh.length + 1)) : Option (Option Nat)) = some (some v) := by
            have := Option.some.inj h4
            injection this with h6
            injection h6 with h7 h8
            injection h8
          injection h5 with h6
          injection h6 with h7
          exact h7.symm
        subst hv
        refine hQ _ w' sh.length (sh.length + 1) ⟨hx1, h1, h2, h3, by omega, by omega⟩ (hl.fr (fun a ha _ => hf' a (by omega))) (fun b c b0 b1 hbc => ?_) (fun a ha hb => (hf' a (by omega)).trans (hf a ha hb)) hlo' ?_ ?_ ⟨by omega, by omega⟩
        · rw [List.getElem?_append_left (by omega)]; exact hmo b c b0 b1 hbc
        · rw [List.length_append]; omega
        · rw [List.length_append]; show sh.length + 2 ≤ _; omega
    · match n, hi with
      | 0, hi => exact absurd (by omega) c
      | n + 1, hi =>
        have hit : i < (z_stx A).length := by omega
        have hby : z_tb3 (z_stx A) (i : Int) = (z_stx A)[i] := by
          rw [z_tb3, if_pos (by omega), if_neg (by omega), Int.toNat_natCast, List.getElem?_eq_getElem hit]
          rfl
        have hbR := has _ (List.getElem_mem hit)
        refine z_aload_n 2 dL_text_33 rfl rfl ?_
        refine z_iload_n 4 dL_text_34 rfl rfl ?_
        refine z_if_eq (tgt := 47) dL_text_35 (by decide) (fun _ => ?_) (fun c => absurd rfl c)
        refine z_aload_n 3 dL_text_47 rfl rfl ?_
        refine z_iload 0 dL_text_48 rfl ?_
        refine z_goU (As := [z_i (i : Int)]) (rest := [z_r sh0.length]) zmX8_setupByte znX8_setupByte zsX8_setupByte zlRL_52 ⟨z_lek rfl, z_lek rfl⟩ dL_text_50 hTs rfl rfl (z_ai z_a0) (z_lek rfl) (z_lek rfl) ⟨rfl, rfl⟩ (uc_setupByte.as hby) hl (fun w1 hl1 hf1 => ?_)
        show z_Sem mL_text (sh0.length, i + 2 * m) 53 [(4, z_i (i : Int)), (3, z_i ((z_stx A).length : Int)), (2, z_r sh0.length), (0, z_r 0), (1, z_i 0)] [z_i ((z_stx A)[i]), z_r sh0.length] (sh, w1) Q
        refine z_i2c dL_text_53 ?_
        rw [z_i2c' hbR]
        have hlenT : ((z_stx A).take i).length = i := by rw [List.length_take]; omega
        refine z_apC (k0 := 0) (rest := []) zlRL_55 ⟨z_lek rfl, z_lek rfl⟩ dL_text_54 (hb.cg (fun b hb => hf1 b (by omega))) hbR ⟨by omega, by rw [hlenT]; omega⟩ (by omega) hlo hLv (fun q hq => by cases hq) (z_lek rfl) ⟨by rw [hlenT]; have := z_mxc (m : Int) (2 * ((i : Int) + 1) + 2); show (i : Int) + 1 + 2 * max (m : Int) (2 * ((i : Int) + 1) + 2) ≤ ((8192 : Nat) : Int); omega, rfl⟩ (fun sh2 w2 m2 g1 g2 g3 g4 g5 g6 g7 => ?_)
        rw [hlenT] at g7
        have htk : (z_stx A).take i ++ [(z_stx A)[i]] = (z_stx A).take (i + 1) := by rw [List.take_succ, List.getElem?_eq_getElem hit]; rfl
        rw [htk] at g1
        refine z_pop dL_text_57 rfl ?_
        refine z_iinc (L' := [(4, z_i ((i : Int) + 1)), (3, z_i ((z_stx A).length : Int)), (2, z_r sh0.length), (0, z_r 0), (1, z_i 0)]) 0 dL_text_58 rfl (z_ltk rfl) rfl ⟨by omega, by omega⟩ ?_
        refine z_goto (tgt := 27) dL_text_61 (by decide) ?_
        refine L_text_27 hT hsl161 hsl hX hX1 hQ n (i + 1) (by omega) sh2 w2 m2 (hl1.fr (fun a ha _ => (g2 a (by omega)).2)) g1 (fun b c b0 b1 hbc => ?_) (fun a ha hb => ?_) g3 (by omega) (by omega) ?_
        · rw [(g2 b b1).1]; exact hmo b c b0 b1 hbc
        · rw [(g2 a hb).2, hf1 a ha]; exact hf a ha hb
        · have g7' : (m2 : Int) ≤ max (m : Int) (2 * ((i : Int) + 1) + 2) := g7
          have := z_mxc (m : Int) (2 * ((i : Int) + 1) + 2)
          omega
theorem L_text (hT : z_isTG sh 0) (hsl161 : 161 ≤ sh.length) (hsl : sh.length < 700) (hlo : z_cls0 sh) (h : z_JC w A H T er s) (hX : (z_stx A).length ≤ 880) (hX1 : 1 ≤ (z_stx A).length) (hQ : z_txQ w sh A H T er s (z_stx A) Q) : z_Sem mL_text (sh.length, 0) 0 [(0, z_r 0), (1, z_i 0)] [] (sh, w) Q := by
  have h0 : 0 < sh.length := by omega
  refine z_newSB rfl ⟨z_lek rfl, z_lek rfl⟩ dL_text_0 dL_text_3 dL_text_4 (by omega) hlo (z_lv2 h0) (fun q hq => by cases hq) (z_lek rfl) ⟨by decide, rfl⟩ (fun w1 g1 g2 g3 => ?_)
  have hmo : z_mo 0 sh.length sh (sh ++ [z_sbc (sh.length + 1), .inr (.inl (2, 16))]) := fun b c _ b1 hbc => by rw [List.getElem?_append_left b1]; exact hbc
  have hT1 : z_isTG (sh ++ [z_sbc (sh.length + 1), .inr (.inl (2, 16))]) 0 := z_TGapp hT
  have hl1 : z_JC w1 A H T er s := h.fr (fun a ha _ => (g2 a (by omega)).2)
  refine z_astore_n (L' := [(2, z_r sh.length), (0, z_r 0), (1, z_i 0)]) dL_text_7 rfl (z_ltk rfl) rfl ?_
  refine z_iload_n 2 dL_text_8 rfl rfl ?_
  refine z_if_eq (tgt := 19) dL_text_9 (by decide) (fun _ => ?_) (fun c => absurd rfl c)
  refine z_aload_n 1 dL_text_19 rfl rfl ?_
  refine z_goU (As := []) (rest := []) zmX8_setupLength znX8_setupLength zsX8_setupLength zlRL_46 ⟨z_lek rfl, z_lek rfl⟩ dL_text_20 hT1 rfl rfl z_a0 (z_lek rfl) (z_lek rfl) ⟨rfl, rfl⟩ uc_setupLength hl1 (fun w2 hl2 hf2 => ?_)
  show z_Sem mL_text (sh.length, 0 + 2 * 16) 23 [(2, z_r sh.length), (0, z_r 0), (1, z_i 0)] [z_i ((z_stx A).length : Int)] (_, w2) Q
  refine z_istore_n (L' := [(3, z_i ((z_stx A).length : Int)), (2, z_r sh.length), (0, z_r 0), (1, z_i 0)]) dL_text_23 rfl (z_ltk rfl) rfl ?_
  refine z_iconst dL_text_24 (by decide) ?_
  refine z_istore (L' := [(4, z_i 0), (3, z_i ((z_stx A).length : Int)), (2, z_r sh.length), (0, z_r 0), (1, z_i 0)]) dL_text_25 (z_ltk rfl) rfl ?_
  have hlen2 : (sh ++ [z_sbc (sh.length + 1), (.inr (.inl (2, 16)) : z_C)]).length = sh.length + 2 := by rw [List.length_append]; rfl
  exact L_text_27 (w0 := w) hT hsl161 hsl hX hX1 hQ (z_stx A).length 0 (Nat.zero_add _) _ w2 16 hl2 (g1.cg (fun b hb => hf2 b (by omega))) hmo (fun a ha hb => (hf2 a ha).trans (g2 a hb).2) g3 (by omega) (by omega) (by omega)
end ZTEXT
