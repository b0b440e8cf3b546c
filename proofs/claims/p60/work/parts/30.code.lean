set_option maxRecDepth 100000 in
theorem t_X0_clear {sh : List z_C} {w : Nat → Int → Int} {Q : Option z_V → z_S → Prop}  (hh0 : z_isHis sh 24) (h : ∀ w1 : Nat → Int → Int, w1 = z_W w 24 1 0 → ∀ w2 : Nat → Int → Int, w2 = z_W w1 24 2 0 → Q none (sh, w2)) : z_Sem mX0_clear (sh.length, 0) 0 [(0, z_r 24)] [] (sh, w) Q := by
  refine z_aload_n 0 dX0_clear_0 rfl rfl ?_
  refine z_iconst dX0_clear_1 (by decide) ?_
  refine z_putI (ki := 1) zfRX0_18 dX0_clear_2 hh0.1 rfl rfl ?_
  refine z_genw (fun w1 hw1 => ?_)
  replace h := h w1 hw1
  refine z_aload_n 0 dX0_clear_5 rfl rfl ?_
  refine z_iconst dX0_clear_6 (by decide) ?_
  refine z_putI (ki := 2) zfRX0_22 dX0_clear_7 hh0.1 rfl rfl ?_
  refine z_genw (fun w2 hw2 => ?_)
  replace h := h w2 hw2
  exact z_ret (v := none) dX0_clear_10 ⟨rfl, rfl⟩ rfl h
set_option maxRecDepth 100000 in
theorem t_X1_copyFrom {sh : List z_C} {w : Nat → Int → Int} {Q : Option z_V → z_S → Prop} {o0 : Nat} {o1 : Nat} (hh0 : z_isLog sh o0) (hh1 : z_isLog sh o1) (h : ∀ w1 : Nat → Int → Int, w1 = z_CP w (o1 + 1) 0 (o0 + 1) 0 120 → ∀ w2 : Nat → Int → Int, w2 = z_W w1 o0 1 (w1 o1 1) → ∀ w3 : Nat → Int → Int, w3 = z_W w2 o0 2 (w2 o1 2) → Q none (sh, w3)) : z_Sem mX1_copyFrom (sh.length, 0) 0 [(0, z_r o0), (1, z_r o1)] [] (sh, w) Q := by
  refine z_aload_n 1 dX1_copyFrom_0 rfl rfl ?_
  refine z_getR (r := (o1 + 1)) zfRX1_11 dX1_copyFrom_1 hh1.1 rfl ?_
  refine z_iconst dX1_copyFrom_4 (by decide) ?_
  refine z_aload_n 0 dX1_copyFrom_5 rfl rfl ?_
  refine z_getR (r := (o0 + 1)) zfRX1_11 dX1_copyFrom_6 hh0.1 rfl ?_
  refine z_iconst dX1_copyFrom_9 (by decide) ?_
  refine z_aload_n 0 dX1_copyFrom_10 rfl rfl ?_
  refine z_getR (r := (o0 + 1)) zfRX1_11 dX1_copyFrom_11 hh0.1 rfl ?_
  refine z_alen dX1_copyFrom_14 (by decide) hh0.2 (by decide) ?_
  refine z_copy zl_cpRX1 zl_cpn zl_cps zl_cpi hh1.2 hh0.2 (by decide) (by decide) ⟨by decide, by decide⟩ dX1_copyFrom_15 ?_
  refine z_genc (fun w1 hw1 => ?_)
  replace h := h w1 hw1
  refine z_aload_n 0 dX1_copyFrom_18 rfl rfl ?_
  refine z_aload_n 1 dX1_copyFrom_19 rfl rfl ?_
  refine z_getI (ki := 1) zfRX1_15 dX1_copyFrom_20 hh1.1 rfl rfl ?_
  refine z_putI (ki := 1) zfRX1_15 dX1_copyFrom_23 hh0.1 rfl rfl ?_
  refine z_genw (fun w2 hw2 => ?_)
  replace h := h w2 hw2
  refine z_aload_n 0 dX1_copyFrom_26 rfl rfl ?_
  refine z_aload_n 1 dX1_copyFrom_27 rfl rfl ?_
  refine z_getI (ki := 2) zfRX1_19 dX1_copyFrom_28 hh1.1 rfl rfl ?_
  refine z_putI (ki := 2) zfRX1_19 dX1_copyFrom_31 hh0.1 rfl rfl ?_
  refine z_genw (fun w3 hw3 => ?_)
  replace h := h w3 hw3
  exact z_ret (v := none) dX1_copyFrom_34 ⟨rfl, rfl⟩ rfl h
set_option maxRecDepth 100000 in
theorem t_X3_copyFrom {sh : List z_C} {w : Nat → Int → Int} {Q : Option z_V → z_S → Prop} {o0 : Nat} {o1 : Nat} (hh0 : z_isPla sh o0) (hh1 : z_isPla sh o1) (h : ∀ w1 : Nat → Int → Int, w1 = z_CP w (o1 + 1) 0 (o0 + 1) 0 50 → ∀ w2 : Nat → Int → Int, w2 = z_CP w1 (o1 + 2) 0 (o0 + 2) 0 10 → ∀ w3 : Nat → Int → Int, w3 = z_CP w2 (o1 + 3) 0 (o0 + 3) 0 10 → ∀ w4 : Nat → Int → Int, w4 = z_CP w3 (o1 + 4) 0 (o0 + 4) 0 24 → ∀ w5 : Nat → Int → Int, w5 = z_CP w4 (o1 + 5) 0 (o0 + 5) 0 24 → ∀ w6 : Nat → Int → Int, w6 = z_CP w5 (o1 + 6) 0 (o0 + 6) 0 24 → ∀ w7 : Nat → Int → Int, w7 = z_CP w6 (o1 + 7) 0 (o0 + 7) 0 24 → z_Sem mX3_copyFrom (sh.length, 0) 110 [(0, z_r o0), (1, z_r o1), (2, z_i 0)] [] (sh, w7) Q) : z_Sem mX3_copyFrom (sh.length, 0) 0 [(0, z_r o0), (1, z_r o1)] [] (sh, w) Q := by
  refine z_aload_n 1 dX3_copyFrom_0 rfl rfl ?_
  refine z_getR (r := (o1 + 1)) zfRX3_9 dX3_copyFrom_1 hh1.1 rfl ?_
  refine z_iconst dX3_copyFrom_4 (by decide) ?_
  refine z_aload_n 0 dX3_copyFrom_5 rfl rfl ?_
  refine z_getR (r := (o0 + 1)) zfRX3_9 dX3_copyFrom_6 hh0.1 rfl ?_
  refine z_iconst dX3_copyFrom_9 (by decide) ?_
  refine z_aload_n 0 dX3_copyFrom_10 rfl rfl ?_
  refine z_getR (r := (o0 + 1)) zfRX3_9 dX3_copyFrom_11 hh0.1 rfl ?_
  refine z_alen dX3_copyFrom_14 (by decide) hh0.2.1 (by decide) ?_
  refine z_copy zl_cpRX3 zl_cpn zl_cps zl_cpi hh1.2.1 hh0.2.1 (by decide) (by decide) ⟨by decide, by decide⟩ dX3_copyFrom_15 ?_
  refine z_genc (fun w1 hw1 => ?_)
  replace h := h w1 hw1
  refine z_aload_n 1 dX3_copyFrom_18 rfl rfl ?_
  refine z_getR (r := (o1 + 2)) zfRX3_15 dX3_copyFrom_19 hh1.1 rfl ?_
  refine z_iconst dX3_copyFrom_22 (by decide) ?_
  refine z_aload_n 0 dX3_copyFrom_23 rfl rfl ?_
  refine z_getR (r := (o0 + 2)) zfRX3_15 dX3_copyFrom_24 hh0.1 rfl ?_
  refine z_iconst dX3_copyFrom_27 (by decide) ?_
  refine z_bipush dX3_copyFrom_28 (by decide) (by decide) ?_
  refine z_copy zl_cpRX3 zl_cpn zl_cps zl_cpi hh1.2.2.1 hh0.2.2.1 (by decide) (by decide) ⟨by decide, by decide⟩ dX3_copyFrom_30 ?_
  refine z_genc (fun w2 hw2 => ?_)
  replace h := h w2 hw2
  refine z_aload_n 1 dX3_copyFrom_33 rfl rfl ?_
  refine z_getR (r := (o1 + 3)) zfRX3_18 dX3_copyFrom_34 hh1.1 rfl ?_
  refine z_iconst dX3_copyFrom_37 (by decide) ?_
  refine z_aload_n 0 dX3_copyFrom_38 rfl rfl ?_
  refine z_getR (r := (o0 + 3)) zfRX3_18 dX3_copyFrom_39 hh0.1 rfl ?_
  refine z_iconst dX3_copyFrom_42 (by decide) ?_
  refine z_bipush dX3_copyFrom_43 (by decide) (by decide) ?_
  refine z_copy zl_cpRX3 zl_cpn zl_cps zl_cpi hh1.2.2.2.1 hh0.2.2.2.1 (by decide) (by decide) ⟨by decide, by decide⟩ dX3_copyFrom_45 ?_
  refine z_genc (fun w3 hw3 => ?_)
  replace h := h w3 hw3
  refine z_aload_n 1 dX3_copyFrom_48 rfl rfl ?_
  refine z_getR (r := (o1 + 4)) zfRX3_21 dX3_copyFrom_49 hh1.1 rfl ?_
  refine z_iconst dX3_copyFrom_52 (by decide) ?_
  refine z_aload_n 0 dX3_copyFrom_53 rfl rfl ?_
  refine z_getR (r := (o0 + 4)) zfRX3_21 dX3_copyFrom_54 hh0.1 rfl ?_
  refine z_iconst dX3_copyFrom_57 (by decide) ?_
  refine z_bipush dX3_copyFrom_58 (by decide) (by decide) ?_
  refine z_copy zl_cpRX3 zl_cpn zl_cps zl_cpi hh1.2.2.2.2.1 hh0.2.2.2.2.1 (by decide) (by decide) ⟨by decide, by decide⟩ dX3_copyFrom_60 ?_
  refine z_genc (fun w4 hw4 => ?_)
  replace h := h w4 hw4
  refine z_aload_n 1 dX3_copyFrom_63 rfl rfl ?_
  refine z_getR (r := (o1 + 5)) zfRX3_24 dX3_copyFrom_64 hh1.1 rfl ?_
  refine z_iconst dX3_copyFrom_67 (by decide) ?_
  refine z_aload_n 0 dX3_copyFrom_68 rfl rfl ?_
  refine z_getR (r := (o0 + 5)) zfRX3_24 dX3_copyFrom_69 hh0.1 rfl ?_
  refine z_iconst dX3_copyFrom_72 (by decide) ?_
  refine z_bipush dX3_copyFrom_73 (by decide) (by decide) ?_
  refine z_copy zl_cpRX3 zl_cpn zl_cps zl_cpi hh1.2.2.2.2.2.1 hh0.2.2.2.2.2.1 (by decide) (by decide) ⟨by decide, by decide⟩ dX3_copyFrom_75 ?_
  refine z_genc (fun w5 hw5 => ?_)
  replace h := h w5 hw5
  refine z_aload_n 1 dX3_copyFrom_78 rfl rfl ?_
  refine z_getR (r := (o1 + 6)) zfRX3_27 dX3_copyFrom_79 hh1.1 rfl ?_
  refine z_iconst dX3_copyFrom_82 (by decide) ?_
  refine z_aload_n 0 dX3_copyFrom_83 rfl rfl ?_
  refine z_getR (r := (o0 + 6)) zfRX3_27 dX3_copyFrom_84 hh0.1 rfl ?_
  refine z_iconst dX3_copyFrom_87 (by decide) ?_
  refine z_bipush dX3_copyFrom_88 (by decide) (by decide) ?_
  refine z_copy zl_cpRX3 zl_cpn zl_cps zl_cpi hh1.2.2.2.2.2.2.1 hh0.2.2.2.2.2.2.1 (by decide) (by decide) ⟨by decide, by decide⟩ dX3_copyFrom_90 ?_
  refine z_genc (fun w6 hw6 => ?_)
  replace h := h w6 hw6
  refine z_aload_n 1 dX3_copyFrom_93 rfl rfl ?_
  refine z_getR (r := (o1 + 7)) zfRX3_30 dX3_copyFrom_94 hh1.1 rfl ?_
  refine z_iconst dX3_copyFrom_97 (by decide) ?_
  refine z_aload_n 0 dX3_copyFrom_98 rfl rfl ?_
  refine z_getR (r := (o0 + 7)) zfRX3_30 dX3_copyFrom_99 hh0.1 rfl ?_
  refine z_iconst dX3_copyFrom_102 (by decide) ?_
  refine z_bipush dX3_copyFrom_103 (by decide) (by decide) ?_
  refine z_copy zl_cpRX3 zl_cpn zl_cps zl_cpi hh1.2.2.2.2.2.2.2.1 hh0.2.2.2.2.2.2.2.1 (by decide) (by decide) ⟨by decide, by decide⟩ dX3_copyFrom_105 ?_
  refine z_genc (fun w7 hw7 => ?_)
  replace h := h w7 hw7
  refine z_iconst dX3_copyFrom_108 (by decide) ?_
  refine z_istore_n (L' := [(2, z_i 0), (0, z_r o0), (1, z_r o1)]) dX3_copyFrom_109 rfl (by decide) rfl ?_
  refine z_sub (L' := [(0, z_r o0), (1, z_r o1), (2, z_i 0)]) [1, 2, 0] rfl ?_
  exact h
set_option maxRecDepth 100000 in
theorem t_X3_copyFrom_110 {sh : List z_C} {w : Nat → Int → Int} {Q : Option z_V → z_S → Prop} {o0 : Nat} {o1 : Nat} {x2 : Int} (hh0 : z_isPla sh o0) (hh1 : z_isPla sh o1) (h : ((24 ≤ x2 → z_CV mX1_copyFrom [z_r (o0 + 9), z_r (o1 + 9)] sh w (fun w2 => ∀ w3 : Nat → Int → Int, w3 = z_W w2 o0 9 (w2 o1 9) → ∀ w4 : Nat → Int → Int, w4 = z_W w3 o0 10 (w3 o1 10) → ∀ w5 : Nat → Int → Int, w5 = z_W w4 o0 11 (w4 o1 11) → Q none (sh, w5))) ∧ (¬ 24 ≤ x2 → ((0 : Int) ≤ x2 ∧ x2 < 24) ∧ ((0 : Int) ≤ x2 ∧ x2 < 24) ∧ ((0 : Int) ≤ (w (o1 + 8) x2) ∧ (w (o1 + 8) x2) ≤ 1) ∧ ∀ w7 : Nat → Int → Int, w7 = z_W w (o0 + 8) x2 (w (o1 + 8) x2) → (z_R (x2 + 1)) ∧ z_Sem mX3_copyFrom (sh.length, 0) 110 [(0, z_r o0), (1, z_r o1), (2, z_i (x2 + 1))] [] (sh, w7) Q))) : z_Sem mX3_copyFrom (sh.length, 0) 110 [(0, z_r o0), (1, z_r o1), (2, z_i x2)] [] (sh, w) Q := by
  refine z_iload_n 2 dX3_copyFrom_110 rfl rfl ?_
  refine z_bipush dX3_copyFrom_111 (by decide) (by decide) ?_
  refine z_icmp_ge (tgt := 134) dX3_copyFrom_113 (by decide) (fun c1 => ?_) (fun c1 => ?_)
  · replace h := h.1 c1
    refine z_aload_n 0 dX3_copyFrom_134 rfl rfl ?_
    refine z_getR (r := (o0 + 9)) zfRX3_40 dX3_copyFrom_135 hh0.1 rfl ?_
    refine z_aload_n 1 dX3_copyFrom_138 rfl rfl ?_
    refine z_getR (r := (o1 + 9)) zfRX3_40 dX3_copyFrom_139 hh1.1 rfl ?_
    refine z_callV (As := [z_r (o1 + 9)]) (rest := []) zmX1_copyFrom znX1_copyFrom zsX1_copyFrom (show z_Cl[1]? = some (RX1, TX1, 3) from rfl) zlRX3_78 ⟨Nat.le_of_ble_eq_true rfl, Nat.le_of_ble_eq_true rfl⟩ dX3_copyFrom_142 hh0.2.2.2.2.2.2.2.2.2.1 rfl rfl (z_ar z_a0) (Nat.le_of_ble_eq_true rfl) (Nat.le_of_ble_eq_true rfl) ⟨rfl, rfl⟩ (z_CVm h ?_)
    intro w2 h
    show z_Sem mX3_copyFrom (sh.length, 0) 145 [(0, z_r o0), (1, z_r o1), (2, z_i x2)] [] (sh, w2) Q
    refine z_aload_n 0 dX3_copyFrom_145 rfl rfl ?_
    refine z_aload_n 1 dX3_copyFrom_146 rfl rfl ?_
    refine z_getI (ki := 9) zfRX3_44 dX3_copyFrom_147 hh1.1 rfl rfl ?_
    refine z_putI (ki := 9) zfRX3_44 dX3_copyFrom_150 hh0.1 rfl rfl ?_
    refine z_genw (fun w3 hw3 => ?_)
    replace h := h w3 hw3
    refine z_aload_n 0 dX3_copyFrom_153 rfl rfl ?_
    refine z_aload_n 1 dX3_copyFrom_154 rfl rfl ?_
    refine z_getI (ki := 10) zfRX3_48 dX3_copyFrom_155 hh1.1 rfl rfl ?_
    refine z_putI (ki := 10) zfRX3_48 dX3_copyFrom_158 hh0.1 rfl rfl ?_
    refine z_genw (fun w4 hw4 => ?_)
    replace h := h w4 hw4
    refine z_aload_n 0 dX3_copyFrom_161 rfl rfl ?_
    refine z_aload_n 1 dX3_copyFrom_162 rfl rfl ?_
    refine z_getI (ki := 11) zfRX3_51 dX3_copyFrom_163 hh1.1 rfl rfl ?_
    refine z_putI (ki := 11) zfRX3_51 dX3_copyFrom_166 hh0.1 rfl rfl ?_
    refine z_genw (fun w5 hw5 => ?_)
    replace h := h w5 hw5
    exact z_ret (v := none) dX3_copyFrom_169 ⟨rfl, rfl⟩ rfl h
  · replace h := h.2 c1
    refine z_aload_n 0 dX3_copyFrom_116 rfl rfl ?_
    refine z_getR (r := (o0 + 8)) zfRX3_33 dX3_copyFrom_117 hh0.1 rfl ?_
    refine z_iload_n 2 dX3_copyFrom_120 rfl rfl ?_
    refine z_aload_n 1 dX3_copyFrom_121 rfl rfl ?_
    refine z_getR (r := (o1 + 8)) zfRX3_33 dX3_copyFrom_122 hh1.1 rfl ?_
    refine z_iload_n 2 dX3_copyFrom_125 rfl rfl ?_
    obtain ⟨q6, h⟩ := h
    refine z_zald dX3_copyFrom_126 hh1.2.2.2.2.2.2.2.2.1 q6 ?_
    obtain ⟨q8, h⟩ := h
    obtain ⟨q9, h⟩ := h
    refine z_zast dX3_copyFrom_127 hh0.2.2.2.2.2.2.2.2.1 q8 q9 ?_
    refine z_genw (fun w7 hw7 => ?_)
    replace h := h w7 hw7
    obtain ⟨q10, h⟩ := h
    refine z_iinc (L' := [(2, z_i (x2 + 1)), (0, z_r o0), (1, z_r o1)]) 2 dX3_copyFrom_128 rfl (by decide) rfl q10 ?_
    refine z_goto (tgt := 110) dX3_copyFrom_131 (by decide) ?_
    refine z_sub (L' := [(0, z_r o0), (1, z_r o1), (2, z_i (x2 + 1))]) [1, 2, 0] rfl ?_
    exact h
set_option maxRecDepth 100000 in
theorem t_X0_remember {sh : List z_C} {w : Nat → Int → Int} {Q : Option z_V → z_S → Prop} {o1 : Nat} (hh0 : z_isHis sh 24) (hh1 : z_isPla sh o1) (h : (((w 24 2) = 8 → (z_R ((w 24 1) + 1)) ∧ ∀ w8 : Nat → Int → Int, w8 = z_W w 24 1 (((w 24 1) + 1).tmod 8) → (z_R ((w8 24 2) - 1)) ∧ ∀ w10 : Nat → Int → Int, w10 = z_W w8 24 2 ((w8 24 2) - 1) → (z_R ((w10 24 1) + (w10 24 2))) ∧ ((0 : Int) ≤ (((w10 24 1) + (w10 24 2)).tmod 8) ∧ (((w10 24 1) + (w10 24 2)).tmod 8) < 8) ∧ z_CV mX3_copyFrom [z_r (26 + 11 * (((w10 24 1) + (w10 24 2)).tmod 8).toNat), z_r o1] sh w10 (fun w13 => (z_R ((w13 24 2) + 1)) ∧ ∀ w15 : Nat → Int → Int, w15 = z_W w13 24 2 ((w13 24 2) + 1) → Q none (sh, w15))) ∧ (¬ (w 24 2) = 8 → (z_R ((w 24 1) + (w 24 2))) ∧ ((0 : Int) ≤ (((w 24 1) + (w 24 2)).tmod 8) ∧ (((w 24 1) + (w 24 2)).tmod 8) < 8) ∧ z_CV mX3_copyFrom [z_r (26 + 11 * (((w 24 1) + (w 24 2)).tmod 8).toNat), z_r o1] sh w (fun w4 => (z_R ((w4 24 2) + 1)) ∧ ∀ w6 : Nat → Int → Int, w6 = z_W w4 24 2 ((w4 24 2) + 1) → Q none (sh, w6))))) : z_Sem mX0_remember (sh.length, 0) 0 [(0, z_r 24), (1, z_r o1)] [] (sh, w) Q := by
  refine z_aload_n 0 dX0_remember_0 rfl rfl ?_
  refine z_getI (ki := 2) zfRX0_22 dX0_remember_1 hh0.1 rfl rfl ?_
  refine z_bipush dX0_remember_4 (by decide) (by decide) ?_
  refine z_icmp_ne (tgt := 32) dX0_remember_6 (by decide) (fun c1 => ?_) (fun c1 => ?_)
  · replace h := h.2 c1
    refine z_aload_n 0 dX0_remember_32 rfl rfl ?_
    refine z_getR (r := 25) zfRX0_11 dX0_remember_33 hh0.1 rfl ?_
    refine z_aload_n 0 dX0_remember_36 rfl rfl ?_
    refine z_getI (ki := 1) zfRX0_18 dX0_remember_37 hh0.1 rfl rfl ?_
    refine z_aload_n 0 dX0_remember_40 rfl rfl ?_
    refine z_getI (ki := 2) zfRX0_22 dX0_remember_41 hh0.1 rfl rfl ?_
    obtain ⟨q2, h⟩ := h
    refine z_iadd dX0_remember_44 q2 ?_
    refine z_bipush dX0_remember_45 (by decide) (by decide) ?_
    refine z_irem dX0_remember_47 (by decide) ?_
    obtain ⟨q3, h⟩ := h
    refine z_aald (r := (26 + 11 * (((w 24 1) + (w 24 2)).tmod 8).toNat)) dX0_remember_48 hh0.2.1 q3.1 (z_ral (k := ((((w 24 1) + (w 24 2)).tmod 8)).toNat) (by omega)) ?_
    refine z_aload_n 1 dX0_remember_49 rfl rfl ?_
    refine z_callV (As := [z_r o1]) (rest := []) zmX3_copyFrom znX3_copyFrom zsX3_copyFrom (show z_Cl[3]? = some (RX3, TX3, 12) from rfl) zlRX0_25 ⟨Nat.le_of_ble_eq_true rfl, Nat.le_of_ble_eq_true rfl⟩ dX0_remember_50 (hh0.2.2 (((w 24 1) + (w 24 2)).tmod 8).toNat (by omega)).1 rfl rfl (z_ar z_a0) (Nat.le_of_ble_eq_true rfl) (Nat.le_of_ble_eq_true rfl) ⟨rfl, rfl⟩ (z_CVm h ?_)
    intro w4 h
    show z_Sem mX0_remember (sh.length, 0) 53 [(0, z_r 24), (1, z_r o1)] [] (sh, w4) Q
    refine z_aload_n 0 dX0_remember_53 rfl rfl ?_
    refine z_dup dX0_remember_54 rfl ?_
    refine z_getI (ki := 2) zfRX0_22 dX0_remember_55 hh0.1 rfl rfl ?_
    refine z_iconst dX0_remember_58 (by decide) ?_
    obtain ⟨q5, h⟩ := h
    refine z_iadd dX0_remember_59 q5 ?_
    refine z_putI (ki := 2) zfRX0_22 dX0_remember_60 hh0.1 rfl rfl ?_
    refine z_genw (fun w6 hw6 => ?_)
    replace h := h w6 hw6
    exact z_ret (v := none) dX0_remember_63 ⟨rfl, rfl⟩ rfl h
  · replace h := h.1 c1
    refine z_aload_n 0 dX0_remember_9 rfl rfl ?_
    refine z_aload_n 0 dX0_remember_10 rfl rfl ?_
    refine z_getI (ki := 1) zfRX0_18 dX0_remember_11 hh0.1 rfl rfl ?_
    refine z_iconst dX0_remember_14 (by decide) ?_
    obtain ⟨q7, h⟩ := h
    refine z_iadd dX0_remember_15 q7 ?_
    refine z_bipush dX0_remember_16 (by decide) (by decide) ?_
    refine z_irem dX0_remember_18 (by decide) ?_
    refine z_putI (ki := 1) zfRX0_18 dX0_remember_19 hh0.1 rfl rfl ?_
    refine z_genw (fun w8 hw8 => ?_)
    replace h := h w8 hw8
    refine z_aload_n 0 dX0_remember_22 rfl rfl ?_
    refine z_dup dX0_remember_23 rfl ?_
    refine z_getI (ki := 2) zfRX0_22 dX0_remember_24 hh0.1 rfl rfl ?_
    refine z_iconst dX0_remember_27 (by decide) ?_
    obtain ⟨q9, h⟩ := h
    refine z_isub dX0_remember_28 q9 ?_
    refine z_putI (ki := 2) zfRX0_22 dX0_remember_29 hh0.1 rfl rfl ?_
    refine z_genw (fun w10 hw10 => ?_)
    replace h := h w10 hw10
    refine z_aload_n 0 dX0_remember_32 rfl rfl ?_
    refine z_getR (r := 25) zfRX0_11 dX0_remember_33 hh0.1 rfl ?_
    refine z_aload_n 0 dX0_remember_36 rfl rfl ?_
    refine z_getI (ki := 1) zfRX0_18 dX0_remember_37 hh0.1 rfl rfl ?_
    refine z_aload_n 0 dX0_remember_40 rfl rfl ?_
    refine z_getI (ki := 2) zfRX0_22 dX0_remember_41 hh0.1 rfl rfl ?_
    obtain ⟨q11, h⟩ := h
    refine z_iadd dX0_remember_44 q11 ?_
    refine z_bipush dX0_remember_45 (by decide) (by decide) ?_
    refine z_irem dX0_remember_47 (by decide) ?_
    obtain ⟨q12, h⟩ := h
    refine z_aald (r := (26 + 11 * (((w10 24 1) + (w10 24 2)).tmod 8).toNat)) dX0_remember_48 hh0.2.1 q12.1 (z_ral (k := ((((w10 24 1) + (w10 24 2)).tmod 8)).toNat) (by omega)) ?_
    refine z_aload_n 1 dX0_remember_49 rfl rfl ?_
    refine z_callV (As := [z_r o1]) (rest := []) zmX3_copyFrom znX3_copyFrom zsX3_copyFrom (show z_Cl[3]? = some (RX3, TX3, 12) from rfl) zlRX0_25 ⟨Nat.le_of_ble_eq_true rfl, Nat.le_of_ble_eq_true rfl⟩ dX0_remember_50 (hh0.2.2 (((w10 24 1) + (w10 24 2)).tmod 8).toNat (by omega)).1 rfl rfl (z_ar z_a0) (Nat.le_of_ble_eq_true rfl) (Nat.le_of_ble_eq_true rfl) ⟨rfl, rfl⟩ (z_CVm h ?_)
    intro w13 h
    show z_Sem mX0_remember (sh.length, 0) 53 [(0, z_r 24), (1, z_r o1)] [] (sh, w13) Q
    refine z_aload_n 0 dX0_remember_53 rfl rfl ?_
    refine z_dup dX0_remember_54 rfl ?_
    refine z_getI (ki := 2) zfRX0_22 dX0_remember_55 hh0.1 rfl rfl ?_
    refine z_iconst dX0_remember_58 (by decide) ?_
    obtain ⟨q14, h⟩ := h
    refine z_iadd dX0_remember_59 q14 ?_
    refine z_putI (ki := 2) zfRX0_22 dX0_remember_60 hh0.1 rfl rfl ?_
    refine z_genw (fun w15 hw15 => ?_)
    replace h := h w15 hw15
    exact z_ret (v := none) dX0_remember_63 ⟨rfl, rfl⟩ rfl h
set_option maxRecDepth 100000 in
theorem t_X0_bringBack {sh : List z_C} {w : Nat → Int → Int} {Q : Option z_V → z_S → Prop} {o1 : Nat} (hh0 : z_isHis sh 24) (hh1 : z_isPla sh o1) (h : (((w 24 2) ≤ 0 → Q none (sh, w)) ∧ (¬ (w 24 2) ≤ 0 → (z_R ((w 24 2) - 1)) ∧ ∀ w3 : Nat → Int → Int, w3 = z_W w 24 2 ((w 24 2) - 1) → (z_R ((w3 24 1) + (w3 24 2))) ∧ ((0 : Int) ≤ (((w3 24 1) + (w3 24 2)).tmod 8) ∧ (((w3 24 1) + (w3 24 2)).tmod 8) < 8) ∧ z_CV mX3_copyFrom [z_r o1, z_r (26 + 11 * (((w3 24 1) + (w3 24 2)).tmod 8).toNat)] sh w3 (fun w6 => Q none (sh, w6))))) : z_Sem mX0_bringBack (sh.length, 0) 0 [(0, z_r 24), (1, z_r o1)] [] (sh, w) Q := by
  refine z_aload_n 0 dX0_bringBack_0 rfl rfl ?_
  refine z_getI (ki := 2) zfRX0_22 dX0_bringBack_1 hh0.1 rfl rfl ?_
  refine z_if_le (tgt := 38) dX0_bringBack_4 (by decide) (fun c1 => ?_) (fun c1 => ?_)
  · replace h := h.1 c1
    exact z_ret (v := none) dX0_bringBack_38 ⟨rfl, rfl⟩ rfl h
  · replace h := h.2 c1
    refine z_aload_n 0 dX0_bringBack_7 rfl rfl ?_
    refine z_dup dX0_bringBack_8 rfl ?_
    refine z_getI (ki := 2) zfRX0_22 dX0_bringBack_9 hh0.1 rfl rfl ?_
    refine z_iconst dX0_bringBack_12 (by decide) ?_
    obtain ⟨q2, h⟩ := h
    refine z_isub dX0_bringBack_13 q2 ?_
    refine z_putI (ki := 2) zfRX0_22 dX0_bringBack_14 hh0.1 rfl rfl ?_
    refine z_genw (fun w3 hw3 => ?_)
    replace h := h w3 hw3
    refine z_aload_n 1 dX0_bringBack_17 rfl rfl ?_
    refine z_aload_n 0 dX0_bringBack_18 rfl rfl ?_
    refine z_getR (r := 25) zfRX0_11 dX0_bringBack_19 hh0.1 rfl ?_
    refine z_aload_n 0 dX0_bringBack_22 rfl rfl ?_
    refine z_getI (ki := 1) zfRX0_18 dX0_bringBack_23 hh0.1 rfl rfl ?_
    refine z_aload_n 0 dX0_bringBack_26 rfl rfl ?_
    refine z_getI (ki := 2) zfRX0_22 dX0_bringBack_27 hh0.1 rfl rfl ?_
    obtain ⟨q4, h⟩ := h
    refine z_iadd dX0_bringBack_30 q4 ?_
    refine z_bipush dX0_bringBack_31 (by decide) (by decide) ?_
    refine z_irem dX0_bringBack_33 (by decide) ?_
    obtain ⟨q5, h⟩ := h
    refine z_aald (r := (26 + 11 * (((w3 24 1) + (w3 24 2)).tmod 8).toNat)) dX0_bringBack_34 hh0.2.1 q5.1 (z_ral (k := ((((w3 24 1) + (w3 24 2)).tmod 8)).toNat) (by omega)) ?_
    refine z_callV (As := [z_r (26 + 11 * (((w3 24 1) + (w3 24 2)).tmod 8).toNat)]) (rest := []) zmX3_copyFrom znX3_copyFrom zsX3_copyFrom (show z_Cl[3]? = some (RX3, TX3, 12) from rfl) zlRX0_25 ⟨Nat.le_of_ble_eq_true rfl, Nat.le_of_ble_eq_true rfl⟩ dX0_bringBack_35 hh1.1 rfl rfl (z_ar z_a0) (Nat.le_of_ble_eq_true rfl) (Nat.le_of_ble_eq_true rfl) ⟨rfl, rfl⟩ (z_CVm h ?_)
    intro w6 h
    show z_Sem mX0_bringBack (sh.length, 0) 38 [(0, z_r 24), (1, z_r o1)] [] (sh, w6) Q
    exact z_ret (v := none) dX0_bringBack_38 ⟨rfl, rfl⟩ rfl h
set_option maxRecDepth 100000 in
theorem t_X1_clear {sh : List z_C} {w : Nat → Int → Int} {Q : Option z_V → z_S → Prop} {o0 : Nat} (hh0 : z_isLog sh o0) (h : ∀ w1 : Nat → Int → Int, w1 = z_W w o0 1 0 → ∀ w2 : Nat → Int → Int, w2 = z_W w1 o0 2 0 → Q none (sh, w2)) : z_Sem mX1_clear (sh.length, 0) 0 [(0, z_r o0)] [] (sh, w) Q := by
  refine z_aload_n 0 dX1_clear_0 rfl rfl ?_
  refine z_iconst dX1_clear_1 (by decide) ?_
  refine z_putI (ki := 1) zfRX1_15 dX1_clear_2 hh0.1 rfl rfl ?_
  refine z_genw (fun w1 hw1 => ?_)
  replace h := h w1 hw1
  refine z_aload_n 0 dX1_clear_5 rfl rfl ?_
  refine z_iconst dX1_clear_6 (by decide) ?_
  refine z_putI (ki := 2) zfRX1_19 dX1_clear_7 hh0.1 rfl rfl ?_
  refine z_genw (fun w2 hw2 => ?_)
  replace h := h w2 hw2
  exact z_ret (v := none) dX1_clear_10 ⟨rfl, rfl⟩ rfl h
set_option maxRecDepth 100000 in
theorem t_X1_note {sh : List z_C} {w : Nat → Int → Int} {Q : Option z_V → z_S → Prop} {o0 : Nat} {x1 : Int} {x2 : Int} {x3 : Int} (hh0 : z_isLog sh o0) (h : (((w o0 2) = 40 → (z_R ((w o0 1) + 1)) ∧ ∀ w16 : Nat → Int → Int, w16 = z_W w o0 1 (((w o0 1) + 1).tmod 40) → (z_R ((w16 o0 2) - 1)) ∧ ∀ w18 : Nat → Int → Int, w18 = z_W w16 o0 2 ((w16 o0 2) - 1) → (z_R ((w18 o0 1) + (w18 o0 2))) ∧ (z_R ((((w18 o0 1) + (w18 o0 2)).tmod 40) * 3)) ∧ ∀ y21 : Int, y21 = ((((w18 o0 1) + (w18 o0 2)).tmod 40) * 3) → ((0 : Int) ≤ y21 ∧ y21 < 120) ∧ ∀ w22 : Nat → Int → Int, w22 = z_W w18 (o0 + 1) y21 x1 → (z_R (y21 + 1)) ∧ ((0 : Int) ≤ (y21 + 1) ∧ (y21 + 1) < 120) ∧ ∀ w25 : Nat → Int → Int, w25 = z_W w22 (o0 + 1) (y21 + 1) x2 → (z_R (y21 + 2)) ∧ ((0 : Int) ≤ (y21 + 2) ∧ (y21 + 2) < 120) ∧ ∀ w28 : Nat → Int → Int, w28 = z_W w25 (o0 + 1) (y21 + 2) x3 → (z_R ((w28 o0 2) + 1)) ∧ ∀ w31 : Nat → Int → Int, w31 = z_W w28 o0 2 ((w28 o0 2) + 1) → Q none (sh, w31)) ∧ (¬ (w o0 2) = 40 → (z_R ((w o0 1) + (w o0 2))) ∧ (z_R ((((w o0 1) + (w o0 2)).tmod 40) * 3)) ∧ ∀ y4 : Int, y4 = ((((w o0 1) + (w o0 2)).tmod 40) * 3) → ((0 : Int) ≤ y4 ∧ y4 < 120) ∧ ∀ w5 : Nat → Int → Int, w5 = z_W w (o0 + 1) y4 x1 → (z_R (y4 + 1)) ∧ ((0 : Int) ≤ (y4 + 1) ∧ (y4 + 1) < 120) ∧ ∀ w8 : Nat → Int → Int, w8 = z_W w5 (o0 + 1) (y4 + 1) x2 → (z_R (y4 + 2)) ∧ ((0 : Int) ≤ (y4 + 2) ∧ (y4 + 2) < 120) ∧ ∀ w11 : Nat → Int → Int, w11 = z_W w8 (o0 + 1) (y4 + 2) x3 → (z_R ((w11 o0 2) + 1)) ∧ ∀ w14 : Nat → Int → Int, w14 = z_W w11 o0 2 ((w11 o0 2) + 1) → Q none (sh, w14)))) : z_Sem mX1_note (sh.length, 0) 0 [(0, z_r o0), (1, z_i x1), (2, z_i x2), (3, z_i x3)] [] (sh, w) Q := by
  refine z_aload_n 0 dX1_note_0 rfl rfl ?_
  refine z_getI (ki := 2) zfRX1_19 dX1_note_1 hh0.1 rfl rfl ?_
  refine z_bipush dX1_note_4 (by decide) (by decide) ?_
  refine z_icmp_ne (tgt := 32) dX1_note_6 (by decide) (fun c1 => ?_) (fun c1 => ?_)
  · replace h := h.2 c1
    refine z_aload_n 0 dX1_note_32 rfl rfl ?_
    refine z_getI (ki := 1) zfRX1_15 dX1_note_33 hh0.1 rfl rfl ?_
    refine z_aload_n 0 dX1_note_36 rfl rfl ?_
    refine z_getI (ki := 2) zfRX1_19 dX1_note_37 hh0.1 rfl rfl ?_
    obtain ⟨q2, h⟩ := h
    refine z_iadd dX1_note_40 q2 ?_
    refine z_bipush dX1_note_41 (by decide) (by decide) ?_
    refine z_irem dX1_note_43 (by decide) ?_
    refine z_iconst dX1_note_44 (by decide) ?_
    obtain ⟨q3, h⟩ := h
    refine z_imul dX1_note_45 q3 ?_
    refine z_nam (fun y4 hy4 => ?_)
    replace h := h y4 hy4
    refine z_istore (L' := [(4, z_i y4), (0, z_r o0), (1, z_i x1), (2, z_i x2), (3, z_i x3)]) dX1_note_46 (by decide) rfl ?_
    refine z_aload_n 1 dX1_note_48 rfl rfl ?_
    refine z_getR (r := (o0 + 1)) zfRX1_11 dX1_note_49 hh0.1 rfl ?_
    refine z_iload 0 dX1_note_52 rfl ?_
    refine z_iload_n 2 dX1_note_54 rfl rfl ?_
    obtain ⟨q6, h⟩ := h
    refine z_iast dX1_note_55 hh0.2 q6 ?_
    refine z_genw (fun w5 hw5 => ?_)
    replace h := h w5 hw5
    refine z_aload_n 1 dX1_note_56 rfl rfl ?_
    refine z_getR (r := (o0 + 1)) zfRX1_11 dX1_note_57 hh0.1 rfl ?_
    refine z_iload 0 dX1_note_60 rfl ?_
    refine z_iconst dX1_note_62 (by decide) ?_
    obtain ⟨q7, h⟩ := h
    refine z_iadd dX1_note_63 q7 ?_
    refine z_iload_n 3 dX1_note_64 rfl rfl ?_
    obtain ⟨q9, h⟩ := h
    refine z_iast dX1_note_65 hh0.2 q9 ?_
    refine z_genw (fun w8 hw8 => ?_)
    replace h := h w8 hw8
    refine z_aload_n 1 dX1_note_66 rfl rfl ?_
    refine z_getR (r := (o0 + 1)) zfRX1_11 dX1_note_67 hh0.1 rfl ?_
    refine z_iload 0 dX1_note_70 rfl ?_
    refine z_iconst dX1_note_72 (by decide) ?_
    obtain ⟨q10, h⟩ := h
    refine z_iadd dX1_note_73 q10 ?_
    refine z_iload_n 4 dX1_note_74 rfl rfl ?_
    obtain ⟨q12, h⟩ := h
    refine z_iast dX1_note_75 hh0.2 q12 ?_
    refine z_genw (fun w11 hw11 => ?_)
    replace h := h w11 hw11
    refine z_aload_n 1 dX1_note_76 rfl rfl ?_
    refine z_dup dX1_note_77 rfl ?_
    refine z_getI (ki := 2) zfRX1_19 dX1_note_78 hh0.1 rfl rfl ?_
    refine z_iconst dX1_note_81 (by decide) ?_
    obtain ⟨q13, h⟩ := h
    refine z_iadd dX1_note_82 q13 ?_
    refine z_putI (ki := 2) zfRX1_19 dX1_note_83 hh0.1 rfl rfl ?_
    refine z_genw (fun w14 hw14 => ?_)
    replace h := h w14 hw14
    exact z_ret (v := none) dX1_note_86 ⟨rfl, rfl⟩ rfl h
  · replace h := h.1 c1
    refine z_aload_n 0 dX1_note_9 rfl rfl ?_
    refine z_aload_n 0 dX1_note_10 rfl rfl ?_
    refine z_getI (ki := 1) zfRX1_15 dX1_note_11 hh0.1 rfl rfl ?_
    refine z_iconst dX1_note_14 (by decide) ?_
    obtain ⟨q15, h⟩ := h
    refine z_iadd dX1_note_15 q15 ?_
    refine z_bipush dX1_note_16 (by decide) (by decide) ?_
    refine z_irem dX1_note_18 (by decide) ?_
    refine z_putI (ki := 1) zfRX1_15 dX1_note_19 hh0.1 rfl rfl ?_
    refine z_genw (fun w16 hw16 => ?_)
    replace h := h w16 hw16
    refine z_aload_n 0 dX1_note_22 rfl rfl ?_
    refine z_dup dX1_note_23 rfl ?_
    refine z_getI (ki := 2) zfRX1_19 dX1_note_24 hh0.1 rfl rfl ?_
    refine z_iconst dX1_note_27 (by decide) ?_
    obtain ⟨q17, h⟩ := h
    refine z_isub dX1_note_28 q17 ?_
    refine z_putI (ki := 2) zfRX1_19 dX1_note_29 hh0.1 rfl rfl ?_
    refine z_genw (fun w18 hw18 => ?_)
    replace h := h w18 hw18
    refine z_aload_n 0 dX1_note_32 rfl rfl ?_
    refine z_getI (ki := 1) zfRX1_15 dX1_note_33 hh0.1 rfl rfl ?_
    refine z_aload_n 0 dX1_note_36 rfl rfl ?_
    refine z_getI (ki := 2) zfRX1_19 dX1_note_37 hh0.1 rfl rfl ?_
    obtain ⟨q19, h⟩ := h
    refine z_iadd dX1_note_40 q19 ?_
    refine z_bipush dX1_note_41 (by decide) (by decide) ?_
    refine z_irem dX1_note_43 (by decide) ?_
    refine z_iconst dX1_note_44 (by decide) ?_
    obtain ⟨q20, h⟩ := h
    refine z_imul dX1_note_45 q20 ?_
    refine z_nam (fun y21 hy21 => ?_)
    replace h := h y21 hy21
    refine z_istore (L' := [(4, z_i y21), (0, z_r o0), (1, z_i x1), (2, z_i x2), (3, z_i x3)]) dX1_note_46 (by decide) rfl ?_
    refine z_aload_n 1 dX1_note_48 rfl rfl ?_
    refine z_getR (r := (o0 + 1)) zfRX1_11 dX1_note_49 hh0.1 rfl ?_
    refine z_iload 0 dX1_note_52 rfl ?_
    refine z_iload_n 2 dX1_note_54 rfl rfl ?_
    obtain ⟨q23, h⟩ := h
    refine z_iast dX1_note_55 hh0.2 q23 ?_
    refine z_genw (fun w22 hw22 => ?_)
    replace h := h w22 hw22
    refine z_aload_n 1 dX1_note_56 rfl rfl ?_
    refine z_getR (r := (o0 + 1)) zfRX1_11 dX1_note_57 hh0.1 rfl ?_
    refine z_iload 0 dX1_note_60 rfl ?_
    refine z_iconst dX1_note_62 (by decide) ?_
    obtain ⟨q24, h⟩ := h
    refine z_iadd dX1_note_63 q24 ?_
    refine z_iload_n 3 dX1_note_64 rfl rfl ?_
    obtain ⟨q26, h⟩ := h
    refine z_iast dX1_note_65 hh0.2 q26 ?_
    refine z_genw (fun w25 hw25 => ?_)
    replace h := h w25 hw25
    refine z_aload_n 1 dX1_note_66 rfl rfl ?_
    refine z_getR (r := (o0 + 1)) zfRX1_11 dX1_note_67 hh0.1 rfl ?_
    refine z_iload 0 dX1_note_70 rfl ?_
    refine z_iconst dX1_note_72 (by decide) ?_
    obtain ⟨q27, h⟩ := h
    refine z_iadd dX1_note_73 q27 ?_
    refine z_iload_n 4 dX1_note_74 rfl rfl ?_
    obtain ⟨q29, h⟩ := h
    refine z_iast dX1_note_75 hh0.2 q29 ?_
    refine z_genw (fun w28 hw28 => ?_)
    replace h := h w28 hw28
    refine z_aload_n 1 dX1_note_76 rfl rfl ?_
    refine z_dup dX1_note_77 rfl ?_
    refine z_getI (ki := 2) zfRX1_19 dX1_note_78 hh0.1 rfl rfl ?_
    refine z_iconst dX1_note_81 (by decide) ?_
    obtain ⟨q30, h⟩ := h
    refine z_iadd dX1_note_82 q30 ?_
    refine z_putI (ki := 2) zfRX1_19 dX1_note_83 hh0.1 rfl rfl ?_
    refine z_genw (fun w31 hw31 => ?_)
    replace h := h w31 hw31
    exact z_ret (v := none) dX1_note_86 ⟨rfl, rfl⟩ rfl h
def f_X1_part (w : Nat → Int → Int) (o0 : Nat) (x1 : Int) (x2 : Int) : Int := w (o0 + 1) (((((w o0 1) + x1).tmod 40) * 3) + x2)
def s_X1_part (w : Nat → Int → Int) (o0 : Nat) (x1 : Int) (x2 : Int) : Prop := (z_R ((w o0 1) + x1)) ∧ (z_R ((((w o0 1) + x1).tmod 40) * 3)) ∧ (z_R (((((w o0 1) + x1).tmod 40) * 3) + x2)) ∧ ((0 : Int) ≤ (((((w o0 1) + x1).tmod 40) * 3) + x2) ∧ (((((w o0 1) + x1).tmod 40) * 3) + x2) < 120) ∧ True
set_option maxRecDepth 100000 in
theorem t_X1_part {sh : List z_C} {w : Nat → Int → Int} {Q : Option z_V → z_S → Prop} {o0 : Nat} {x1 : Int} {x2 : Int} (hh0 : z_isLog sh o0) (hs : s_X1_part w o0 x1 x2) (h : Q (some (z_i (f_X1_part w o0 x1 x2))) (sh, w)) : z_Sem mX1_part (sh.length, 0) 0 [(0, z_r o0), (1, z_i x1), (2, z_i x2)] [] (sh, w) Q := by
  unfold f_X1_part at h
  unfold s_X1_part at hs
  refine z_aload_n 0 dX1_part_0 rfl rfl ?_
  refine z_getR (r := (o0 + 1)) zfRX1_11 dX1_part_1 hh0.1 rfl ?_
  refine z_aload_n 0 dX1_part_4 rfl rfl ?_
  refine z_getI (ki := 1) zfRX1_15 dX1_part_5 hh0.1 rfl rfl ?_
  refine z_iload_n 1 dX1_part_8 rfl rfl ?_
  obtain ⟨q1, hs⟩ := hs
  refine z_iadd dX1_part_9 q1 ?_
  refine z_bipush dX1_part_10 (by decide) (by decide) ?_
  refine z_irem dX1_part_12 (by decide) ?_
  refine z_iconst dX1_part_13 (by decide) ?_
  obtain ⟨q2, hs⟩ := hs
  refine z_imul dX1_part_14 q2 ?_
  refine z_iload_n 2 dX1_part_15 rfl rfl ?_
  obtain ⟨q3, hs⟩ := hs
  refine z_iadd dX1_part_16 q3 ?_
  obtain ⟨q4, hs⟩ := hs
  refine z_iald dX1_part_17 hh0.2 q4 ?_
  exact z_ret (v := some (z_i (w (o0 + 1) (((((w o0 1) + x1).tmod 40) * 3) + x2)))) dX1_part_18 ⟨rfl, Or.inl rfl⟩ rfl h
def f_X8_stepBegin (w : Nat → Int → Int) (x0 : Int) (x1 : Int) (x2 : Int) : Int := if x2 = 0 then x0 else x1
set_option maxRecDepth 100000 in
theorem t_X8_stepBegin {sh : List z_C} {w : Nat → Int → Int} {Q : Option z_V → z_S → Prop} {x0 : Int} {x1 : Int} {x2 : Int}  (h : Q (some (z_i (f_X8_stepBegin w x0 x1 x2))) (sh, w)) : z_Sem mX8_stepBegin (sh.length, 0) 0 [(0, z_i x0), (1, z_i x1), (2, z_i x2)] [] (sh, w) Q := by
  unfold f_X8_stepBegin at h
  refine z_iload_n 2 dX8_stepBegin_0 rfl rfl ?_
  suffices hJ1 : z_Sem mX8_stepBegin (sh.length, 0) 9 [] [z_i (if x2 = 0 then x0 else x1)] (sh, w) Q by
    refine z_if_ne (tgt := 8) dX8_stepBegin_1 (by decide) (fun c2 => ?_) (fun c2 => ?_)
    · skip
      refine z_iload_n 1 dX8_stepBegin_8 rfl rfl ?_
      refine z_sub (L' := []) [] rfl ?_
      simp only [if_neg c2] at hJ1
      exact hJ1
    · skip
      refine z_iload_n 0 dX8_stepBegin_4 rfl rfl ?_
      refine z_goto (tgt := 9) dX8_stepBegin_5 (by decide) ?_
      refine z_sub (L' := []) [] rfl ?_
      simp only [if_pos c2] at hJ1
      exact hJ1
  exact z_ret (v := some (z_i (if x2 = 0 then x0 else x1))) dX8_stepBegin_9 ⟨rfl, Or.inl rfl⟩ rfl h
def f_X8_stepFinish (w : Nat → Int → Int) (x0 : Int) (x1 : Int) (x2 : Int) : Int := if x2 = 0 then x1 else x0
set_option maxRecDepth 100000 in
theorem t_X8_stepFinish {sh : List z_C} {w : Nat → Int → Int} {Q : Option z_V → z_S → Prop} {x0 : Int} {x1 : Int} {x2 : Int}  (h : Q (some (z_i (f_X8_stepFinish w x0 x1 x2))) (sh, w)) : z_Sem mX8_stepFinish (sh.length, 0) 0 [(0, z_i x0), (1, z_i x1), (2, z_i x2)] [] (sh, w) Q := by
  unfold f_X8_stepFinish at h
  refine z_iload_n 2 dX8_stepFinish_0 rfl rfl ?_
  suffices hJ1 : z_Sem mX8_stepFinish (sh.length, 0) 9 [] [z_i (if x2 = 0 then x1 else x0)] (sh, w) Q by
    refine z_if_ne (tgt := 8) dX8_stepFinish_1 (by decide) (fun c2 => ?_) (fun c2 => ?_)
    · skip
      refine z_iload_n 0 dX8_stepFinish_8 rfl rfl ?_
      refine z_sub (L' := []) [] rfl ?_
      simp only [if_neg c2] at hJ1
      exact hJ1
    · skip
      refine z_iload_n 1 dX8_stepFinish_4 rfl rfl ?_
      refine z_goto (tgt := 9) dX8_stepFinish_5 (by decide) ?_
      refine z_sub (L' := []) [] rfl ?_
      simp only [if_pos c2] at hJ1
      exact hJ1
  exact z_ret (v := some (z_i (if x2 = 0 then x1 else x0))) dX8_stepFinish_9 ⟨rfl, Or.inl rfl⟩ rfl h
def f_X8_stepLength (w : Nat → Int → Int) (x0 : Int) (x1 : Int) : Int := if x0 = 0 then x1 else -x1
def s_X8_stepLength (w : Nat → Int → Int) (x0 : Int) (x1 : Int) : Prop := (¬ x0 = 0 → (z_R (-x1)) ∧ True) ∧ True
set_option maxRecDepth 100000 in
theorem t_X8_stepLength {sh : List z_C} {w : Nat → Int → Int} {Q : Option z_V → z_S → Prop} {x0 : Int} {x1 : Int}  (hs : s_X8_stepLength w x0 x1) (h : Q (some (z_i (f_X8_stepLength w x0 x1))) (sh, w)) : z_Sem mX8_stepLength (sh.length, 0) 0 [(0, z_i x0), (1, z_i x1)] [] (sh, w) Q := by
  unfold f_X8_stepLength at h
  unfold s_X8_stepLength at hs
  refine z_iload_n 0 dX8_stepLength_0 rfl rfl ?_
  obtain ⟨m3, hs⟩ := hs
  suffices hJ1 : z_Sem mX8_stepLength (sh.length, 0) 10 [] [z_i (if x0 = 0 then x1 else -x1)] (sh, w) Q by
    refine z_if_ne (tgt := 8) dX8_stepLength_1 (by decide) (fun c2 => ?_) (fun c2 => ?_)
    · skip
      have ho4 := m3 c2
      refine z_iload_n 1 dX8_stepLength_8 rfl rfl ?_
      obtain ⟨q5, ho4⟩ := ho4
      refine z_ineg dX8_stepLength_9 q5 ?_
      refine z_sub (L' := []) [] rfl ?_
      simp only [if_neg c2] at hJ1
      exact hJ1
    · skip
      refine z_iload_n 1 dX8_stepLength_4 rfl rfl ?_
      refine z_goto (tgt := 10) dX8_stepLength_5 (by decide) ?_
      refine z_sub (L' := []) [] rfl ?_
      simp only [if_pos c2] at hJ1
      exact hJ1
  exact z_ret (v := some (z_i (if x0 = 0 then x1 else -x1))) dX8_stepLength_10 ⟨rfl, Or.inl rfl⟩ rfl h
set_option maxRecDepth 100000 in
theorem t_X2_collect {sh : List z_C} {w : Nat → Int → Int} {Q : Option z_V → z_S → Prop} {o0 : Nat} {x1 : Int} {x2 : Int} {x3 : Int} {x4 : Int} (hh0 : z_isNet sh o0) (h : ((60 ≤ (w o0 5) → Q none (sh, w)) ∧ (¬ 60 ≤ (w o0 5) → ((0 : Int) ≤ (w o0 5) ∧ (w o0 5) < 60) ∧ ∀ w2 : Nat → Int → Int, w2 = z_W w (o0 + 1) (w o0 5) x1 → ((0 : Int) ≤ (w2 o0 5) ∧ (w2 o0 5) < 60) ∧ ∀ w4 : Nat → Int → Int, w4 = z_W w2 (o0 + 2) (w2 o0 5) x2 → ((0 : Int) ≤ (w4 o0 5) ∧ (w4 o0 5) < 60) ∧ ∀ w6 : Nat → Int → Int, w6 = z_W w4 (o0 + 3) (w4 o0 5) x3 → ((0 : Int) ≤ (w6 o0 5) ∧ (w6 o0 5) < 60) ∧ ∀ w8 : Nat → Int → Int, w8 = z_W w6 (o0 + 4) (w6 o0 5) x4 → (z_R ((w8 o0 5) + 1)) ∧ ∀ w11 : Nat → Int → Int, w11 = z_W w8 o0 5 ((w8 o0 5) + 1) → Q none (sh, w11)))) : z_Sem mX2_collect (sh.length, 0) 0 [(0, z_r o0), (1, z_i x1), (2, z_i x2), (3, z_i x3), (4, z_i x4)] [] (sh, w) Q := by
  refine z_aload_n 0 dX2_collect_0 rfl rfl ?_
  refine z_getI (ki := 5) zfRX2_44 dX2_collect_1 hh0.1 rfl rfl ?_
  refine z_bipush dX2_collect_4 (by decide) (by decide) ?_
  refine z_icmp_ge (tgt := 60) dX2_collect_6 (by decide) (fun c1 => ?_) (fun c1 => ?_)
  · replace h := h.1 c1
    exact z_ret (v := none) dX2_collect_60 ⟨rfl, rfl⟩ rfl h
  · replace h := h.2 c1
    refine z_aload_n 0 dX2_collect_9 rfl rfl ?_
    refine z_getR (r := (o0 + 1)) zfRX2_9 dX2_collect_10 hh0.1 rfl ?_
    refine z_aload_n 0 dX2_collect_13 rfl rfl ?_
    refine z_getI (ki := 5) zfRX2_44 dX2_collect_14 hh0.1 rfl rfl ?_
    refine z_iload_n 1 dX2_collect_17 rfl rfl ?_
    obtain ⟨q3, h⟩ := h
    refine z_iast dX2_collect_18 hh0.2.1 q3 ?_
    refine z_genw (fun w2 hw2 => ?_)
    replace h := h w2 hw2
    refine z_aload_n 0 dX2_collect_19 rfl rfl ?_
    refine z_getR (r := (o0 + 2)) zfRX2_15 dX2_collect_20 hh0.1 rfl ?_
    refine z_aload_n 0 dX2_collect_23 rfl rfl ?_
    refine z_getI (ki := 5) zfRX2_44 dX2_collect_24 hh0.1 rfl rfl ?_
    refine z_iload_n 2 dX2_collect_27 rfl rfl ?_
    obtain ⟨q5, h⟩ := h
    refine z_iast dX2_collect_28 hh0.2.2.1 q5 ?_
    refine z_genw (fun w4 hw4 => ?_)
    replace h := h w4 hw4
    refine z_aload_n 0 dX2_collect_29 rfl rfl ?_
    refine z_getR (r := (o0 + 3)) zfRX2_18 dX2_collect_30 hh0.1 rfl ?_
    refine z_aload_n 0 dX2_collect_33 rfl rfl ?_
    refine z_getI (ki := 5) zfRX2_44 dX2_collect_34 hh0.1 rfl rfl ?_
    refine z_iload_n 3 dX2_collect_37 rfl rfl ?_
    obtain ⟨q7, h⟩ := h
    refine z_iast dX2_collect_38 hh0.2.2.2.1 q7 ?_
    refine z_genw (fun w6 hw6 => ?_)
    replace h := h w6 hw6
    refine z_aload_n 0 dX2_collect_39 rfl rfl ?_
    refine z_getR (r := (o0 + 4)) zfRX2_21 dX2_collect_40 hh0.1 rfl ?_
    refine z_aload_n 0 dX2_collect_43 rfl rfl ?_
    refine z_getI (ki := 5) zfRX2_44 dX2_collect_44 hh0.1 rfl rfl ?_
    refine z_iload 4 dX2_collect_47 rfl ?_
    obtain ⟨q9, h⟩ := h
    refine z_iast dX2_collect_49 hh0.2.2.2.2.1 q9 ?_
    refine z_genw (fun w8 hw8 => ?_)
    replace h := h w8 hw8
    refine z_aload_n 0 dX2_collect_50 rfl rfl ?_
    refine z_dup dX2_collect_51 rfl ?_
    refine z_getI (ki := 5) zfRX2_44 dX2_collect_52 hh0.1 rfl rfl ?_
    refine z_iconst dX2_collect_55 (by decide) ?_
    obtain ⟨q10, h⟩ := h
    refine z_iadd dX2_collect_56 q10 ?_
    refine z_putI (ki := 5) zfRX2_44 dX2_collect_57 hh0.1 rfl rfl ?_
    refine z_genw (fun w11 hw11 => ?_)
    replace h := h w11 hw11
    exact z_ret (v := none) dX2_collect_60 ⟨rfl, rfl⟩ rfl h
def f_X3_isPinned (w : Nat → Int → Int) (o0 : Nat) (x1 : Int) : Int := if (w (o0 + 3) x1) = (-1) then 0 else 1
def s_X3_isPinned (w : Nat → Int → Int) (o0 : Nat) (x1 : Int) : Prop := ((0 : Int) ≤ x1 ∧ x1 < 10) ∧ True
set_option maxRecDepth 100000 in
theorem t_X3_isPinned {sh : List z_C} {w : Nat → Int → Int} {Q : Option z_V → z_S → Prop} {o0 : Nat} {x1 : Int} (hh0 : z_isPla sh o0) (hs : s_X3_isPinned w o0 x1) (h : Q (some (z_i (f_X3_isPinned w o0 x1))) (sh, w)) : z_Sem mX3_isPinned (sh.length, 0) 0 [(0, z_r o0), (1, z_i x1)] [] (sh, w) Q := by
  unfold f_X3_isPinned at h
  unfold s_X3_isPinned at hs
  refine z_aload_n 0 dX3_isPinned_0 rfl rfl ?_
  refine z_getR (r := (o0 + 3)) zfRX3_18 dX3_isPinned_1 hh0.1 rfl ?_
  refine z_iload_n 1 dX3_isPinned_4 rfl rfl ?_
  obtain ⟨q1, hs⟩ := hs
  refine z_iald dX3_isPinned_5 hh0.2.2.2.1 q1 ?_
  refine z_iconst dX3_isPinned_6 (by decide) ?_
  suffices hJ2 : z_Sem mX3_isPinned (sh.length, 0) 15 [] [z_i (if (w (o0 + 3) x1) = (-1) then 0 else 1)] (sh, w) Q by
    refine z_icmp_eq (tgt := 14) dX3_isPinned_7 (by decide) (fun c3 => ?_) (fun c3 => ?_)
    · skip
      refine z_iconst dX3_isPinned_14 (by decide) ?_
      refine z_sub (L' := []) [] rfl ?_
      simp only [if_pos c3] at hJ2
      exact hJ2
    · skip
      refine z_iconst dX3_isPinned_10 (by decide) ?_
      refine z_goto (tgt := 15) dX3_isPinned_11 (by decide) ?_
      refine z_sub (L' := []) [] rfl ?_
      simp only [if_neg c3] at hJ2
      exact hJ2
  exact z_ret (v := some (z_i (if (w (o0 + 3) x1) = (-1) then 0 else 1))) dX3_isPinned_15 ⟨rfl, Or.inr (Or.inl ⟨rfl, (z_it01 (by decide) (by decide))⟩)⟩ rfl h
set_option maxRecDepth 100000 in
theorem t_X2_collectSteps {sh : List z_C} {w : Nat → Int → Int} {Q : Option z_V → z_S → Prop} {o0 : Nat} {o1 : Nat} {x2 : Int} (hh0 : z_isNet sh o0) (hh1 : z_isPla sh o1) (h : ∀ w1 : Nat → Int → Int, w1 = z_W w o0 5 0 → z_Sem mX2_collectSteps (sh.length, 0) 7 [(0, z_r o0), (1, z_r o1), (2, z_i x2), (3, z_i 0)] [] (sh, w1) Q) : z_Sem mX2_collectSteps (sh.length, 0) 0 [(0, z_r o0), (1, z_r o1), (2, z_i x2)] [] (sh, w) Q := by
  refine z_aload_n 0 dX2_collectSteps_0 rfl rfl ?_
  refine z_iconst dX2_collectSteps_1 (by decide) ?_
  refine z_putI (ki := 5) zfRX2_44 dX2_collectSteps_2 hh0.1 rfl rfl ?_
  refine z_genw (fun w1 hw1 => ?_)
  replace h := h w1 hw1
  refine z_iconst dX2_collectSteps_5 (by decide) ?_
  refine z_istore_n (L' := [(3, z_i 0), (0, z_r o0), (1, z_r o1), (2, z_i x2)]) dX2_collectSteps_6 rfl (by decide) rfl ?_
  refine z_sub (L' := [(0, z_r o0), (1, z_r o1), (2, z_i x2), (3, z_i 0)]) [1, 2, 3, 0] rfl ?_
  exact h
set_option maxRecDepth 100000 in
theorem t_X2_collectSteps_7 {sh : List z_C} {w : Nat → Int → Int} {Q : Option z_V → z_S → Prop} {o0 : Nat} {o1 : Nat} {x2 : Int} {x3 : Int} (hh0 : z_isNet sh o0) (hh1 : z_isPla sh o1) (h : (((w o1 11) ≤ x3 → z_Sem mX2_collectSteps (sh.length, 0) 95 [(0, z_r o0), (1, z_r o1), (3, z_i 1)] [] (sh, w) Q) ∧ (¬ (w o1 11) ≤ x3 → ((0 : Int) ≤ x3 ∧ x3 < 24) ∧ (((w (o1 + 8) x3) = 0 → (z_R (x3 + 1)) ∧ z_Sem mX2_collectSteps (sh.length, 0) 7 [(0, z_r o0), (1, z_r o1), (2, z_i x2), (3, z_i (x3 + 1))] [] (sh, w) Q) ∧ (¬ (w (o1 + 8) x3) = 0 → ((x3 = x2 → (z_R (x3 + 1)) ∧ z_Sem mX2_collectSteps (sh.length, 0) 7 [(0, z_r o0), (1, z_r o1), (2, z_i x2), (3, z_i (x3 + 1))] [] (sh, w) Q) ∧ (¬ x3 = x2 → ((0 : Int) ≤ x3 ∧ x3 < 24) ∧ ∀ y8 : Int, y8 = (w (o1 + 4) x3) → ((0 : Int) ≤ x3 ∧ x3 < 24) ∧ ∀ y10 : Int, y10 = (w (o1 + 5) x3) → ((0 : Int) ≤ x3 ∧ x3 < 24) ∧ ∀ y12 : Int, y12 = (w (o1 + 6) x3) → ((0 : Int) ≤ x3 ∧ x3 < 24) ∧ (s_X8_stepLength w y12 (w (o1 + 7) x3)) ∧ z_CV mX2_collect [z_r o0, z_i (f_X8_stepBegin w y8 y10 y12), z_i (f_X8_stepFinish w y8 y10 y12), z_i (f_X8_stepLength w y12 (w (o1 + 7) x3)), z_i x3] sh w (fun w15 => (z_R (x3 + 1)) ∧ z_Sem mX2_collectSteps (sh.length, 0) 7 [(0, z_r o0), (1, z_r o1), (2, z_i x2), (3, z_i (x3 + 1))] [] (sh, w15) Q)))))))) : z_Sem mX2_collectSteps (sh.length, 0) 7 [(0, z_r o0), (1, z_r o1), (2, z_i x2), (3, z_i x3)] [] (sh, w) Q := by
  refine z_iload_n 3 dX2_collectSteps_7 rfl rfl ?_
  refine z_aload_n 1 dX2_collectSteps_8 rfl rfl ?_
  refine z_getI (ki := 11) zfRX2_47 dX2_collectSteps_9 hh1.1 rfl rfl ?_
  refine z_icmp_ge (tgt := 93) dX2_collectSteps_12 (by decide) (fun c1 => ?_) (fun c1 => ?_)
  · replace h := h.1 c1
    refine z_iconst dX2_collectSteps_93 (by decide) ?_
    refine z_istore_n (L' := [(3, z_i 1), (0, z_r o0), (1, z_r o1), (2, z_i x2)]) dX2_collectSteps_94 rfl (by decide) rfl ?_
    refine z_sub (L' := [(0, z_r o0), (1, z_r o1), (3, z_i 1)]) [1, 2, 0] rfl ?_
    exact h
  · replace h := h.2 c1
    refine z_aload_n 1 dX2_collectSteps_15 rfl rfl ?_
    refine z_getR (r := (o1 + 8)) zfRX2_50 dX2_collectSteps_16 hh1.1 rfl ?_
    refine z_iload_n 3 dX2_collectSteps_19 rfl rfl ?_
    obtain ⟨q2, h⟩ := h
    refine z_zald dX2_collectSteps_20 hh1.2.2.2.2.2.2.2.2.1 q2 ?_
    refine z_if_eq (tgt := 87) dX2_collectSteps_21 (by decide) (fun c3 => ?_) (fun c3 => ?_)
    · replace h := h.1 c3
      obtain ⟨q4, h⟩ := h
      refine z_iinc (L' := [(3, z_i (x3 + 1)), (0, z_r o0), (1, z_r o1), (2, z_i x2)]) 3 dX2_collectSteps_87 rfl (by decide) rfl q4 ?_
      refine z_goto (tgt := 7) dX2_collectSteps_90 (by decide) ?_
      refine z_sub (L' := [(0, z_r o0), (1, z_r o1), (2, z_i x2), (3, z_i (x3 + 1))]) [1, 2, 3, 0] rfl ?_
      exact h
    · replace h := h.2 c3
      refine z_iload_n 3 dX2_collectSteps_24 rfl rfl ?_
      refine z_iload_n 2 dX2_collectSteps_25 rfl rfl ?_
      refine z_icmp_eq (tgt := 87) dX2_collectSteps_26 (by decide) (fun c5 => ?_) (fun c5 => ?_)
      · replace h := h.1 c5
        obtain ⟨q6, h⟩ := h
        refine z_iinc (L' := [(3, z_i (x3 + 1)), (0, z_r o0), (1, z_r o1), (2, z_i x2)]) 3 dX2_collectSteps_87 rfl (by decide) rfl q6 ?_
        refine z_goto (tgt := 7) dX2_collectSteps_90 (by decide) ?_
        refine z_sub (L' := [(0, z_r o0), (1, z_r o1), (2, z_i x2), (3, z_i (x3 + 1))]) [1, 2, 3, 0] rfl ?_
        exact h
      · replace h := h.2 c5
        refine z_aload_n 1 dX2_collectSteps_29 rfl rfl ?_
        refine z_getR (r := (o1 + 4)) zfRX2_54 dX2_collectSteps_30 hh1.1 rfl ?_
        refine z_iload_n 3 dX2_collectSteps_33 rfl rfl ?_
        obtain ⟨q7, h⟩ := h
        refine z_iald dX2_collectSteps_34 hh1.2.2.2.2.1 q7 ?_
        refine z_nam (fun y8 hy8 => ?_)
        replace h := h y8 hy8
        refine z_istore (L' := [(4, z_i y8), (0, z_r o0), (1, z_r o1), (2, z_i x2), (3, z_i x3)]) dX2_collectSteps_35 (by decide) rfl ?_
        refine z_aload_n 2 dX2_collectSteps_37 rfl rfl ?_
        refine z_getR (r := (o1 + 5)) zfRX2_57 dX2_collectSteps_38 hh1.1 rfl ?_
        refine z_iload_n 4 dX2_collectSteps_41 rfl rfl ?_
        obtain ⟨q9, h⟩ := h
        refine z_iald dX2_collectSteps_42 hh1.2.2.2.2.2.1 q9 ?_
        refine z_nam (fun y10 hy10 => ?_)
        replace h := h y10 hy10
        refine z_istore (L' := [(5, z_i y10), (4, z_i y8), (0, z_r o0), (1, z_r o1), (2, z_i x2), (3, z_i x3)]) dX2_collectSteps_43 (by decide) rfl ?_
        refine z_aload_n 3 dX2_collectSteps_45 rfl rfl ?_
        refine z_getR (r := (o1 + 6)) zfRX2_60 dX2_collectSteps_46 hh1.1 rfl ?_
        refine z_iload_n 5 dX2_collectSteps_49 rfl rfl ?_
        obtain ⟨q11, h⟩ := h
        refine z_iald dX2_collectSteps_50 hh1.2.2.2.2.2.2.1 q11 ?_
        refine z_nam (fun y12 hy12 => ?_)
        replace h := h y12 hy12
        refine z_istore (L' := [(6, z_i y12), (5, z_i y10), (4, z_i y8), (0, z_r o0), (1, z_r o1), (2, z_i x2), (3, z_i x3)]) dX2_collectSteps_51 (by decide) rfl ?_
        refine z_aload_n 3 dX2_collectSteps_53 rfl rfl ?_
        refine z_iload 2 dX2_collectSteps_54 rfl ?_
        refine z_iload 1 dX2_collectSteps_56 rfl ?_
        refine z_iload 0 dX2_collectSteps_58 rfl ?_
        refine z_callS (As := [z_i y8, z_i y10, z_i y12]) (rest := [z_r o0]) zmX8_stepBegin ztX8_stepBegin zlRX2_63 ⟨Nat.le_of_ble_eq_true rfl, Nat.le_of_ble_eq_true rfl⟩ dX2_collectSteps_60 rfl rfl (z_ai (z_ai (z_ai z_a0))) (Nat.le_of_ble_eq_true rfl) (Nat.le_of_ble_eq_true rfl) ⟨rfl, rfl⟩ ?_
        refine t_X8_stepBegin  ?_
        show z_Sem mX2_collectSteps (sh.length, 0) 63 [(6, z_i y12), (5, z_i y10), (4, z_i y8), (0, z_r o0), (1, z_r o1), (2, z_i x2), (3, z_i x3)] [z_i (f_X8_stepBegin w y8 y10 y12), z_r o0] (sh, w) Q
        refine z_iload 2 dX2_collectSteps_63 rfl ?_
        refine z_iload 1 dX2_collectSteps_65 rfl ?_
        refine z_iload 0 dX2_collectSteps_67 rfl ?_
        refine z_callS (As := [z_i y8, z_i y10, z_i y12]) (rest := [z_i (f_X8_stepBegin w y8 y10 y12), z_r o0]) zmX8_stepFinish ztX8_stepFinish zlRX2_67 ⟨Nat.le_of_ble_eq_true rfl, Nat.le_of_ble_eq_true rfl⟩ dX2_collectSteps_69 rfl rfl (z_ai (z_ai (z_ai z_a0))) (Nat.le_of_ble_eq_true rfl) (Nat.le_of_ble_eq_true rfl) ⟨rfl, rfl⟩ ?_
        refine t_X8_stepFinish  ?_
        show z_Sem mX2_collectSteps (sh.length, 0) 72 [(6, z_i y12), (5, z_i y10), (4, z_i y8), (0, z_r o0), (1, z_r o1), (2, z_i x2), (3, z_i x3)] [z_i (f_X8_stepFinish w y8 y10 y12), z_i (f_X8_stepBegin w y8 y10 y12), z_r o0] (sh, w) Q
        refine z_iload 0 dX2_collectSteps_72 rfl ?_
        refine z_aload_n 4 dX2_collectSteps_74 rfl rfl ?_
        refine z_getR (r := (o1 + 7)) zfRX2_70 dX2_collectSteps_75 hh1.1 rfl ?_
        refine z_iload_n 6 dX2_collectSteps_78 rfl rfl ?_
        obtain ⟨q13, h⟩ := h
        refine z_iald dX2_collectSteps_79 hh1.2.2.2.2.2.2.2.1 q13 ?_
        obtain ⟨q14, h⟩ := h
        refine z_callS (As := [z_i y12, z_i (w (o1 + 7) x3)]) (rest := [z_i (f_X8_stepFinish w y8 y10 y12), z_i (f_X8_stepBegin w y8 y10 y12), z_r o0]) zmX8_stepLength ztX8_stepLength zlRX2_73 ⟨Nat.le_of_ble_eq_true rfl, Nat.le_of_ble_eq_true rfl⟩ dX2_collectSteps_80 rfl rfl (z_ai (z_ai z_a0)) (Nat.le_of_ble_eq_true rfl) (Nat.le_of_ble_eq_true rfl) ⟨rfl, rfl⟩ ?_
        refine t_X8_stepLength  q14 ?_
        show z_Sem mX2_collectSteps (sh.length, 0) 83 [(6, z_i y12), (5, z_i y10), (4, z_i y8), (0, z_r o0), (1, z_r o1), (2, z_i x2), (3, z_i x3)] [z_i (f_X8_stepLength w y12 (w (o1 + 7) x3)), z_i (f_X8_stepFinish w y8 y10 y12), z_i (f_X8_stepBegin w y8 y10 y12), z_r o0] (sh, w) Q
        refine z_iload_n 6 dX2_collectSteps_83 rfl rfl ?_
        refine z_callV (As := [z_i (f_X8_stepBegin w y8 y10 y12), z_i (f_X8_stepFinish w y8 y10 y12), z_i (f_X8_stepLength w y12 (w (o1 + 7) x3)), z_i x3]) (rest := []) zmX2_collect znX2_collect zsX2_collect (show z_Cl[2]? = some (RX2, TX2, 7) from rfl) zlRX2_77 ⟨Nat.le_of_ble_eq_true rfl, Nat.le_of_ble_eq_true rfl⟩ dX2_collectSteps_84 hh0.1 rfl rfl (z_ai (z_ai (z_ai (z_ai z_a0)))) (Nat.le_of_ble_eq_true rfl) (Nat.le_of_ble_eq_true rfl) ⟨rfl, rfl⟩ (z_CVm h ?_)
        intro w15 h
        show z_Sem mX2_collectSteps (sh.length, 0) 87 [(6, z_i y12), (5, z_i y10), (4, z_i y8), (0, z_r o0), (1, z_r o1), (2, z_i x2), (3, z_i x3)] [] (sh, w15) Q
        obtain ⟨q16, h⟩ := h
        refine z_iinc (L' := [(3, z_i (x3 + 1)), (6, z_i y12), (5, z_i y10), (4, z_i y8), (0, z_r o0), (1, z_r o1), (2, z_i x2)]) 6 dX2_collectSteps_87 rfl (by decide) rfl q16 ?_
        refine z_goto (tgt := 7) dX2_collectSteps_90 (by decide) ?_
        refine z_sub (L' := [(0, z_r o0), (1, z_r o1), (2, z_i x2), (3, z_i (x3 + 1))]) [4, 5, 6, 0] rfl ?_
        exact h
set_option maxRecDepth 100000 in
theorem t_X2_collectSteps_95 {sh : List z_C} {w : Nat → Int → Int} {Q : Option z_V → z_S → Prop} {o0 : Nat} {o1 : Nat} {x3 : Int} (hh0 : z_isNet sh o0) (hh1 : z_isPla sh o1) (h : (((w o1 10) ≤ x3 → z_Sem mX2_collectSteps (sh.length, 0) 137 [(0, z_r o0), (1, z_r o1), (3, z_i 1)] [] (sh, w) Q) ∧ (¬ (w o1 10) ≤ x3 → (z_R (100 + x3)) ∧ z_CV mX2_collect [z_r o0, z_i 0, z_i x3, z_i (w o1 9), z_i (100 + x3)] sh w (fun w3 => (z_R (200 + x3)) ∧ z_CV mX2_collect [z_r o0, z_i x3, z_i 0, z_i 0, z_i (200 + x3)] sh w3 (fun w5 => (z_R (x3 + 1)) ∧ z_Sem mX2_collectSteps (sh.length, 0) 95 [(0, z_r o0), (1, z_r o1), (3, z_i (x3 + 1))] [] (sh, w5) Q))))) : z_Sem mX2_collectSteps (sh.length, 0) 95 [(0, z_r o0), (1, z_r o1), (3, z_i x3)] [] (sh, w) Q := by
  refine z_iload_n 2 dX2_collectSteps_95 rfl rfl ?_
  refine z_aload_n 1 dX2_collectSteps_96 rfl rfl ?_
  refine z_getI (ki := 10) zfRX2_27 dX2_collectSteps_97 hh1.1 rfl rfl ?_
  refine z_icmp_ge (tgt := 135) dX2_collectSteps_100 (by decide) (fun c1 => ?_) (fun c1 => ?_)
  · replace h := h.1 c1
    refine z_iconst dX2_collectSteps_135 (by decide) ?_
    refine z_istore_n (L' := [(3, z_i 1), (0, z_r o0), (1, z_r o1)]) dX2_collectSteps_136 rfl (by decide) rfl ?_
    refine z_sub (L' := [(0, z_r o0), (1, z_r o1), (3, z_i 1)]) [1, 2, 0] rfl ?_
    exact h
  · replace h := h.2 c1
    refine z_aload_n 0 dX2_collectSteps_103 rfl rfl ?_
    refine z_iconst dX2_collectSteps_104 (by decide) ?_
    refine z_iload_n 2 dX2_collectSteps_105 rfl rfl ?_
    refine z_aload_n 1 dX2_collectSteps_106 rfl rfl ?_
    refine z_getI (ki := 9) zfRX2_81 dX2_collectSteps_107 hh1.1 rfl rfl ?_
    refine z_bipush dX2_collectSteps_110 (by decide) (by decide) ?_
    refine z_iload_n 2 dX2_collectSteps_112 rfl rfl ?_
    obtain ⟨q2, h⟩ := h
    refine z_iadd dX2_collectSteps_113 q2 ?_
    refine z_callV (As := [z_i 0, z_i x3, z_i (w o1 9), z_i (100 + x3)]) (rest := []) zmX2_collect znX2_collect zsX2_collect (show z_Cl[2]? = some (RX2, TX2, 7) from rfl) zlRX2_77 ⟨Nat.le_of_ble_eq_true rfl, Nat.le_of_ble_eq_true rfl⟩ dX2_collectSteps_114 hh0.1 rfl rfl (z_ai (z_ai (z_ai (z_ai z_a0)))) (Nat.le_of_ble_eq_true rfl) (Nat.le_of_ble_eq_true rfl) ⟨rfl, rfl⟩ (z_CVm h ?_)
    intro w3 h
    show z_Sem mX2_collectSteps (sh.length, 0) 117 [(0, z_r o0), (1, z_r o1), (3, z_i x3)] [] (sh, w3) Q
    refine z_aload_n 0 dX2_collectSteps_117 rfl rfl ?_
    refine z_iload_n 2 dX2_collectSteps_118 rfl rfl ?_
    refine z_iconst dX2_collectSteps_119 (by decide) ?_
    refine z_iconst dX2_collectSteps_120 (by decide) ?_
    refine z_sipush dX2_collectSteps_121 (by decide) (by decide) ?_
    refine z_iload_n 2 dX2_collectSteps_124 rfl rfl ?_
    obtain ⟨q4, h⟩ := h
    refine z_iadd dX2_collectSteps_125 q4 ?_
    refine z_callV (As := [z_i x3, z_i 0, z_i 0, z_i (200 + x3)]) (rest := []) zmX2_collect znX2_collect zsX2_collect (show z_Cl[2]? = some (RX2, TX2, 7) from rfl) zlRX2_77 ⟨Nat.le_of_ble_eq_true rfl, Nat.le_of_ble_eq_true rfl⟩ dX2_collectSteps_126 hh0.1 rfl rfl (z_ai (z_ai (z_ai (z_ai z_a0)))) (Nat.le_of_ble_eq_true rfl) (Nat.le_of_ble_eq_true rfl) ⟨rfl, rfl⟩ (z_CVm h ?_)
    intro w5 h
    show z_Sem mX2_collectSteps (sh.length, 0) 129 [(0, z_r o0), (1, z_r o1), (3, z_i x3)] [] (sh, w5) Q
    obtain ⟨q6, h⟩ := h
    refine z_iinc (L' := [(3, z_i (x3 + 1)), (0, z_r o0), (1, z_r o1)]) 2 dX2_collectSteps_129 rfl (by decide) rfl q6 ?_
    refine z_goto (tgt := 95) dX2_collectSteps_132 (by decide) ?_
    refine z_sub (L' := [(0, z_r o0), (1, z_r o1), (3, z_i (x3 + 1))]) [1, 2, 0] rfl ?_
    exact h
set_option maxRecDepth 100000 in
theorem t_X2_collectSteps_137 {sh : List z_C} {w : Nat → Int → Int} {Q : Option z_V → z_S → Prop} {o0 : Nat} {o1 : Nat} {x3 : Int} (hh0 : z_isNet sh o0) (hh1 : z_isPla sh o1) (h : (((w o1 10) ≤ x3 → Q none (sh, w)) ∧ (¬ (w o1 10) ≤ x3 → (s_X3_isPinned w o1 x3) ∧ (((f_X3_isPinned w o1 x3) = 0 → (z_R (x3 + 1)) ∧ z_Sem mX2_collectSteps (sh.length, 0) 137 [(0, z_r o0), (1, z_r o1), (3, z_i (x3 + 1))] [] (sh, w) Q) ∧ (¬ (f_X3_isPinned w o1 x3) = 0 → ((0 : Int) ≤ x3 ∧ x3 < 10) ∧ (z_R (300 + x3)) ∧ z_CV mX2_collect [z_r o0, z_i 0, z_i x3, z_i (w (o1 + 3) x3), z_i (300 + x3)] sh w (fun w7 => ((0 : Int) ≤ x3 ∧ x3 < 10) ∧ (z_R (-(w7 (o1 + 3) x3))) ∧ (z_R (400 + x3)) ∧ z_CV mX2_collect [z_r o0, z_i x3, z_i 0, z_i (-(w7 (o1 + 3) x3)), z_i (400 + x3)] sh w7 (fun w11 => (z_R (x3 + 1)) ∧ z_Sem mX2_collectSteps (sh.length, 0) 137 [(0, z_r o0), (1, z_r o1), (3, z_i (x3 + 1))] [] (sh, w11) Q))))))) : z_Sem mX2_collectSteps (sh.length, 0) 137 [(0, z_r o0), (1, z_r o1), (3, z_i x3)] [] (sh, w) Q := by
  refine z_iload_n 2 dX2_collectSteps_137 rfl rfl ?_
  refine z_aload_n 1 dX2_collectSteps_138 rfl rfl ?_
  refine z_getI (ki := 10) zfRX2_27 dX2_collectSteps_139 hh1.1 rfl rfl ?_
  refine z_icmp_ge (tgt := 194) dX2_collectSteps_142 (by decide) (fun c1 => ?_) (fun c1 => ?_)
  · replace h := h.1 c1
    exact z_ret (v := none) dX2_collectSteps_194 ⟨rfl, rfl⟩ rfl h
  · replace h := h.2 c1
    refine z_aload_n 1 dX2_collectSteps_145 rfl rfl ?_
    refine z_iload_n 2 dX2_collectSteps_146 rfl rfl ?_
    obtain ⟨q2, h⟩ := h
    refine z_callV (As := [z_i x3]) (rest := []) zmX3_isPinned znX3_isPinned zsX3_isPinned (show z_Cl[3]? = some (RX3, TX3, 12) from rfl) zlRX2_84 ⟨Nat.le_of_ble_eq_true rfl, Nat.le_of_ble_eq_true rfl⟩ dX2_collectSteps_147 hh1.1 rfl rfl (z_ai z_a0) (Nat.le_of_ble_eq_true rfl) (Nat.le_of_ble_eq_true rfl) ⟨rfl, rfl⟩ ?_
    refine t_X3_isPinned hh1 q2 ?_
    show z_Sem mX2_collectSteps (sh.length, 0) 150 [(0, z_r o0), (1, z_r o1), (3, z_i x3)] [z_i (f_X3_isPinned w o1 x3)] (sh, w) Q
    refine z_if_eq (tgt := 188) dX2_collectSteps_150 (by decide) (fun c3 => ?_) (fun c3 => ?_)
    · replace h := h.1 c3
      obtain ⟨q4, h⟩ := h
      refine z_iinc (L' := [(3, z_i (x3 + 1)), (0, z_r o0), (1, z_r o1)]) 2 dX2_collectSteps_188 rfl (by decide) rfl q4 ?_
      refine z_goto (tgt := 137) dX2_collectSteps_191 (by decide) ?_
      refine z_sub (L' := [(0, z_r o0), (1, z_r o1), (3, z_i (x3 + 1))]) [1, 2, 0] rfl ?_
      exact h
    · replace h := h.2 c3
      refine z_aload_n 0 dX2_collectSteps_153 rfl rfl ?_
      refine z_iconst dX2_collectSteps_154 (by decide) ?_
      refine z_iload_n 2 dX2_collectSteps_155 rfl rfl ?_
      refine z_aload_n 1 dX2_collectSteps_156 rfl rfl ?_
      refine z_getR (r := (o1 + 3)) zfRX2_88 dX2_collectSteps_157 hh1.1 rfl ?_
      refine z_iload_n 2 dX2_collectSteps_160 rfl rfl ?_
      obtain ⟨q5, h⟩ := h
      refine z_iald dX2_collectSteps_161 hh1.2.2.2.1 q5 ?_
      refine z_sipush dX2_collectSteps_162 (by decide) (by decide) ?_
      refine z_iload_n 2 dX2_collectSteps_165 rfl rfl ?_
      obtain ⟨q6, h⟩ := h
      refine z_iadd dX2_collectSteps_166 q6 ?_
      refine z_callV (As := [z_i 0, z_i x3, z_i (w (o1 + 3) x3), z_i (300 + x3)]) (rest := []) zmX2_collect znX2_collect zsX2_collect (show z_Cl[2]? = some (RX2, TX2, 7) from rfl) zlRX2_77 ⟨Nat.le_of_ble_eq_true rfl, Nat.le_of_ble_eq_true rfl⟩ dX2_collectSteps_167 hh0.1 rfl rfl (z_ai (z_ai (z_ai (z_ai z_a0)))) (Nat.le_of_ble_eq_true rfl) (Nat.le_of_ble_eq_true rfl) ⟨rfl, rfl⟩ (z_CVm h ?_)
      intro w7 h
      show z_Sem mX2_collectSteps (sh.length, 0) 170 [(0, z_r o0), (1, z_r o1), (3, z_i x3)] [] (sh, w7) Q
      refine z_aload_n 0 dX2_collectSteps_170 rfl rfl ?_
      refine z_iload_n 2 dX2_collectSteps_171 rfl rfl ?_
      refine z_iconst dX2_collectSteps_172 (by decide) ?_
      refine z_aload_n 1 dX2_collectSteps_173 rfl rfl ?_
      refine z_getR (r := (o1 + 3)) zfRX2_88 dX2_collectSteps_174 hh1.1 rfl ?_
      refine z_iload_n 2 dX2_collectSteps_177 rfl rfl ?_
      obtain ⟨q8, h⟩ := h
      refine z_iald dX2_collectSteps_178 hh1.2.2.2.1 q8 ?_
      obtain ⟨q9, h⟩ := h
      refine z_ineg dX2_collectSteps_179 q9 ?_
      refine z_sipush dX2_collectSteps_180 (by decide) (by decide) ?_
      refine z_iload_n 2 dX2_collectSteps_183 rfl rfl ?_
      obtain ⟨q10, h⟩ := h
      refine z_iadd dX2_collectSteps_184 q10 ?_
      refine z_callV (As := [z_i x3, z_i 0, z_i (-(w7 (o1 + 3) x3)), z_i (400 + x3)]) (rest := []) zmX2_collect znX2_collect zsX2_collect (show z_Cl[2]? = some (RX2, TX2, 7) from rfl) zlRX2_77 ⟨Nat.le_of_ble_eq_true rfl, Nat.le_of_ble_eq_true rfl⟩ dX2_collectSteps_185 hh0.1 rfl rfl (z_ai (z_ai (z_ai (z_ai z_a0)))) (Nat.le_of_ble_eq_true rfl) (Nat.le_of_ble_eq_true rfl) ⟨rfl, rfl⟩ (z_CVm h ?_)
      intro w11 h
      show z_Sem mX2_collectSteps (sh.length, 0) 188 [(0, z_r o0), (1, z_r o1), (3, z_i x3)] [] (sh, w11) Q
      obtain ⟨q12, h⟩ := h
      refine z_iinc (L' := [(3, z_i (x3 + 1)), (0, z_r o0), (1, z_r o1)]) 2 dX2_collectSteps_188 rfl (by decide) rfl q12 ?_
      refine z_goto (tgt := 137) dX2_collectSteps_191 (by decide) ?_
      refine z_sub (L' := [(0, z_r o0), (1, z_r o1), (3, z_i (x3 + 1))]) [1, 2, 0] rfl ?_
      exact h
def f_X2_weightOf (w : Nat → Int → Int) (x0 : Int) : Int := (x0 * 64) + 1
def s_X2_weightOf (w : Nat → Int → Int) (x0 : Int) : Prop := (z_R (x0 * 64)) ∧ (z_R ((x0 * 64) + 1)) ∧ True
set_option maxRecDepth 100000 in
theorem t_X2_weightOf {sh : List z_C} {w : Nat → Int → Int} {Q : Option z_V → z_S → Prop} {x0 : Int}  (hs : s_X2_weightOf w x0) (h : Q (some (z_i (f_X2_weightOf w x0))) (sh, w)) : z_Sem mX2_weightOf (sh.length, 0) 0 [(0, z_i x0)] [] (sh, w) Q := by
  unfold f_X2_weightOf at h
  unfold s_X2_weightOf at hs
  refine z_iload_n 0 dX2_weightOf_0 rfl rfl ?_
  refine z_bipush dX2_weightOf_1 (by decide) (by decide) ?_
  obtain ⟨q1, hs⟩ := hs
  refine z_imul dX2_weightOf_3 q1 ?_
  refine z_iconst dX2_weightOf_4 (by decide) ?_
  obtain ⟨q2, hs⟩ := hs
  refine z_iadd dX2_weightOf_5 q2 ?_
  exact z_ret (v := some (z_i ((x0 * 64) + 1))) dX2_weightOf_6 ⟨rfl, Or.inl rfl⟩ rfl h
def f_J9_min_7cf53 (w : Nat → Int → Int) (x0 : Int) (x1 : Int) : Int := if x1 < x0 then x1 else x0
set_option maxRecDepth 100000 in
theorem t_J9_min_7cf53 {sh : List z_C} {w : Nat → Int → Int} {Q : Option z_V → z_S → Prop} {x0 : Int} {x1 : Int}  (h : Q (some (z_i (f_J9_min_7cf53 w x0 x1))) (sh, w)) : z_Sem mJ9_min_7cf53 (sh.length, 0) 0 [(0, z_i x0), (1, z_i x1)] [] (sh, w) Q := by
  unfold f_J9_min_7cf53 at h
  refine z_iload_n 0 dJ9_min_7cf53_0 rfl rfl ?_
  refine z_iload_n 1 dJ9_min_7cf53_1 rfl rfl ?_
  suffices hJ1 : z_Sem mJ9_min_7cf53 (sh.length, 0) 10 [] [z_i (if x1 < x0 then x1 else x0)] (sh, w) Q by
    refine z_icmp_gt (tgt := 9) dJ9_min_7cf53_2 (by decide) (fun c2 => ?_) (fun c2 => ?_)
    · skip
      refine z_iload_n 1 dJ9_min_7cf53_9 rfl rfl ?_
      refine z_sub (L' := []) [] rfl ?_
      simp only [if_pos c2] at hJ1
      exact hJ1
    · skip
      refine z_iload_n 0 dJ9_min_7cf53_5 rfl rfl ?_
      refine z_goto (tgt := 10) dJ9_min_7cf53_6 (by decide) ?_
      refine z_sub (L' := []) [] rfl ?_
      simp only [if_neg c2] at hJ1
      exact hJ1
  exact z_ret (v := some (z_i (if x1 < x0 then x1 else x0))) dJ9_min_7cf53_10 ⟨rfl, Or.inl rfl⟩ rfl h
set_option maxRecDepth 100000 in
theorem t_X2_startWeights {sh : List z_C} {w : Nat → Int → Int} {Q : Option z_V → z_S → Prop} {o0 : Nat} (hh0 : z_isNet sh o0) (h : z_Sem mX2_startWeights (sh.length, 0) 2 [(0, z_r o0), (1, z_i 0)] [] (sh, w) Q) : z_Sem mX2_startWeights (sh.length, 0) 0 [(0, z_r o0)] [] (sh, w) Q := by
  refine z_iconst dX2_startWeights_0 (by decide) ?_
  refine z_istore_n (L' := [(1, z_i 0), (0, z_r o0)]) dX2_startWeights_1 rfl (by decide) rfl ?_
  refine z_sub (L' := [(0, z_r o0), (1, z_i 0)]) [1, 0] rfl ?_
  exact h
set_option maxRecDepth 100000 in
theorem t_X2_startWeights_2 {sh : List z_C} {w : Nat → Int → Int} {Q : Option z_V → z_S → Prop} {o0 : Nat} {x1 : Int} (hh0 : z_isNet sh o0) (h : (((w o0 6) ≤ x1 → z_Sem mX2_startWeights (sh.length, 0) 56 [(0, z_r o0), (1, z_i 0)] [] (sh, w) Q) ∧ (¬ (w o0 6) ≤ x1 → z_Sem mX2_startWeights (sh.length, 0) 12 [(0, z_r o0), (1, z_i x1), (2, z_i 0)] [] (sh, w) Q))) : z_Sem mX2_startWeights (sh.length, 0) 2 [(0, z_r o0), (1, z_i x1)] [] (sh, w) Q := by
  refine z_iload_n 1 dX2_startWeights_2 rfl rfl ?_
  refine z_aload_n 0 dX2_startWeights_3 rfl rfl ?_
  refine z_getI (ki := 6) zfRX2_33 dX2_startWeights_4 hh0.1 rfl rfl ?_
  refine z_icmp_ge (tgt := 54) dX2_startWeights_7 (by decide) (fun c1 => ?_) (fun c1 => ?_)
  · replace h := h.1 c1
    refine z_iconst dX2_startWeights_54 (by decide) ?_
    refine z_istore_n (L' := [(1, z_i 0), (0, z_r o0)]) dX2_startWeights_55 rfl (by decide) rfl ?_
    refine z_sub (L' := [(0, z_r o0), (1, z_i 0)]) [1, 0] rfl ?_
    exact h
  · replace h := h.2 c1
    refine z_iconst dX2_startWeights_10 (by decide) ?_
    refine z_istore_n (L' := [(2, z_i 0), (0, z_r o0), (1, z_i x1)]) dX2_startWeights_11 rfl (by decide) rfl ?_
    refine z_sub (L' := [(0, z_r o0), (1, z_i x1), (2, z_i 0)]) [1, 2, 0] rfl ?_
    exact h
set_option maxRecDepth 100000 in
theorem t_X2_startWeights_56 {sh : List z_C} {w : Nat → Int → Int} {Q : Option z_V → z_S → Prop} {o0 : Nat} {x1 : Int} (hh0 : z_isNet sh o0) (h : (((w o0 5) ≤ x1 → Q none (sh, w)) ∧ (¬ (w o0 5) ≤ x1 → ((0 : Int) ≤ x1 ∧ x1 < 60) ∧ (z_R ((w (o0 + 1) x1) * 10)) ∧ ((0 : Int) ≤ x1 ∧ x1 < 60) ∧ (z_R (((w (o0 + 1) x1) * 10) + (w (o0 + 2) x1))) ∧ ∀ y6 : Int, y6 = (((w (o0 + 1) x1) * 10) + (w (o0 + 2) x1)) → ((0 : Int) ≤ y6 ∧ y6 < 100) ∧ ((0 : Int) ≤ x1 ∧ x1 < 60) ∧ (s_X2_weightOf w (w (o0 + 3) x1)) ∧ ((0 : Int) ≤ y6 ∧ y6 < 100) ∧ ∀ w10 : Nat → Int → Int, w10 = z_W w (o0 + 5) y6 (f_J9_min_7cf53 w (w (o0 + 5) y6) (f_X2_weightOf w (w (o0 + 3) x1))) → (z_R (x1 + 1)) ∧ z_Sem mX2_startWeights (sh.length, 0) 56 [(0, z_r o0), (1, z_i (x1 + 1))] [] (sh, w10) Q))) : z_Sem mX2_startWeights (sh.length, 0) 56 [(0, z_r o0), (1, z_i x1)] [] (sh, w) Q := by
  refine z_iload_n 1 dX2_startWeights_56 rfl rfl ?_
  refine z_aload_n 0 dX2_startWeights_57 rfl rfl ?_
  refine z_getI (ki := 5) zfRX2_44 dX2_startWeights_58 hh0.1 rfl rfl ?_
  refine z_icmp_ge (tgt := 111) dX2_startWeights_61 (by decide) (fun c1 => ?_) (fun c1 => ?_)
  · replace h := h.1 c1
    exact z_ret (v := none) dX2_startWeights_111 ⟨rfl, rfl⟩ rfl h
  · replace h := h.2 c1
    refine z_aload_n 0 dX2_startWeights_64 rfl rfl ?_
    refine z_getR (r := (o0 + 1)) zfRX2_9 dX2_startWeights_65 hh0.1 rfl ?_
    refine z_iload_n 1 dX2_startWeights_68 rfl rfl ?_
    obtain ⟨q2, h⟩ := h
    refine z_iald dX2_startWeights_69 hh0.2.1 q2 ?_
    refine z_bipush dX2_startWeights_70 (by decide) (by decide) ?_
    obtain ⟨q3, h⟩ := h
    refine z_imul dX2_startWeights_72 q3 ?_
    refine z_aload_n 0 dX2_startWeights_73 rfl rfl ?_
    refine z_getR (r := (o0 + 2)) zfRX2_15 dX2_startWeights_74 hh0.1 rfl ?_
    refine z_iload_n 1 dX2_startWeights_77 rfl rfl ?_
    obtain ⟨q4, h⟩ := h
    refine z_iald dX2_startWeights_78 hh0.2.2.1 q4 ?_
    obtain ⟨q5, h⟩ := h
    refine z_iadd dX2_startWeights_79 q5 ?_
    refine z_nam (fun y6 hy6 => ?_)
    replace h := h y6 hy6
    refine z_istore_n (L' := [(2, z_i y6), (0, z_r o0), (1, z_i x1)]) dX2_startWeights_80 rfl (by decide) rfl ?_
    refine z_aload_n 1 dX2_startWeights_81 rfl rfl ?_
    refine z_getR (r := (o0 + 5)) zfRX2_24 dX2_startWeights_82 hh0.1 rfl ?_
    refine z_iload_n 0 dX2_startWeights_85 rfl rfl ?_
    refine z_aload_n 1 dX2_startWeights_86 rfl rfl ?_
    refine z_getR (r := (o0 + 5)) zfRX2_24 dX2_startWeights_87 hh0.1 rfl ?_
    refine z_iload_n 0 dX2_startWeights_90 rfl rfl ?_
    obtain ⟨q7, h⟩ := h
    refine z_iald dX2_startWeights_91 hh0.2.2.2.2.2 q7 ?_
    refine z_aload_n 1 dX2_startWeights_92 rfl rfl ?_
    refine z_getR (r := (o0 + 3)) zfRX2_18 dX2_startWeights_93 hh0.1 rfl ?_
    refine z_iload_n 2 dX2_startWeights_96 rfl rfl ?_
    obtain ⟨q8, h⟩ := h
    refine z_iald dX2_startWeights_97 hh0.2.2.2.1 q8 ?_
    obtain ⟨q9, h⟩ := h
    refine z_callS (As := [z_i (w (o0 + 3) x1)]) (rest := [z_i (w (o0 + 5) y6), z_i y6, z_r (o0 + 5)]) zmX2_weightOf ztX2_weightOf zlRX2_92 ⟨Nat.le_of_ble_eq_true rfl, Nat.le_of_ble_eq_true rfl⟩ dX2_startWeights_98 rfl rfl (z_ai z_a0) (Nat.le_of_ble_eq_true rfl) (Nat.le_of_ble_eq_true rfl) ⟨rfl, rfl⟩ ?_
    refine t_X2_weightOf  q9 ?_
    show z_Sem mX2_startWeights (sh.length, 0) 101 [(2, z_i y6), (0, z_r o0), (1, z_i x1)] [z_i (f_X2_weightOf w (w (o0 + 3) x1)), z_i (w (o0 + 5) y6), z_i y6, z_r (o0 + 5)] (sh, w) Q
    refine z_callS (As := [z_i (w (o0 + 5) y6), z_i (f_X2_weightOf w (w (o0 + 3) x1))]) (rest := [z_i y6, z_r (o0 + 5)]) zmJ9_min_7cf53 ztJ9_min_7cf53 zlRX2_96 ⟨Nat.le_of_ble_eq_true rfl, Nat.le_of_ble_eq_true rfl⟩ dX2_startWeights_101 rfl rfl (z_ai (z_ai z_a0)) (Nat.le_of_ble_eq_true rfl) (Nat.le_of_ble_eq_true rfl) ⟨rfl, rfl⟩ ?_
    refine t_J9_min_7cf53  ?_
    show z_Sem mX2_startWeights (sh.length, 0) 104 [(2, z_i y6), (0, z_r o0), (1, z_i x1)] [z_i (f_J9_min_7cf53 w (w (o0 + 5) y6) (f_X2_weightOf w (w (o0 + 3) x1))), z_i y6, z_r (o0 + 5)] (sh, w) Q
    obtain ⟨q11, h⟩ := h
    refine z_iast dX2_startWeights_104 hh0.2.2.2.2.2 q11 ?_
    refine z_genw (fun w10 hw10 => ?_)
    replace h := h w10 hw10
    obtain ⟨q12, h⟩ := h
    refine z_iinc (L' := [(1, z_i (x1 + 1)), (2, z_i y6), (0, z_r o0)]) 2 dX2_startWeights_105 rfl (by decide) rfl q12 ?_
    refine z_goto (tgt := 56) dX2_startWeights_108 (by decide) ?_
    refine z_sub (L' := [(0, z_r o0), (1, z_i (x1 + 1))]) [2, 0] rfl ?_
    exact h
set_option maxRecDepth 100000 in
theorem t_X2_startWeights_12 {sh : List z_C} {w : Nat → Int → Int} {Q : Option z_V → z_S → Prop} {o0 : Nat} {x1 : Int} {x2 : Int} (hh0 : z_isNet sh o0) (h : (((w o0 6) ≤ x2 → (z_R (x1 + 1)) ∧ z_Sem mX2_startWeights (sh.length, 0) 2 [(0, z_r o0), (1, z_i (x1 + 1))] [] (sh, w) Q) ∧ (¬ (w o0 6) ≤ x2 → (z_R (x1 * 10)) ∧ (z_R ((x1 * 10) + x2)) ∧ ((0 : Int) ≤ ((x1 * 10) + x2) ∧ ((x1 * 10) + x2) < 100) ∧ ∀ w9 : Nat → Int → Int, w9 = z_W w (o0 + 5) ((x1 * 10) + x2) (if x1 = x2 then 0 else 268435456) → (z_R (x2 + 1)) ∧ z_Sem mX2_startWeights (sh.length, 0) 12 [(0, z_r o0), (1, z_i x1), (2, z_i (x2 + 1))] [] (sh, w9) Q))) : z_Sem mX2_startWeights (sh.length, 0) 12 [(0, z_r o0), (1, z_i x1), (2, z_i x2)] [] (sh, w) Q := by
  refine z_iload_n 2 dX2_startWeights_12 rfl rfl ?_
  refine z_aload_n 0 dX2_startWeights_13 rfl rfl ?_
  refine z_getI (ki := 6) zfRX2_33 dX2_startWeights_14 hh0.1 rfl rfl ?_
  refine z_icmp_ge (tgt := 48) dX2_startWeights_17 (by decide) (fun c1 => ?_) (fun c1 => ?_)
  · replace h := h.1 c1
    obtain ⟨q2, h⟩ := h
    refine z_iinc (L' := [(1, z_i (x1 + 1)), (0, z_r o0), (2, z_i x2)]) 1 dX2_startWeights_48 rfl (by decide) rfl q2 ?_
    refine z_goto (tgt := 2) dX2_startWeights_51 (by decide) ?_
    refine z_sub (L' := [(0, z_r o0), (1, z_i (x1 + 1))]) [1, 0] rfl ?_
    exact h
  · replace h := h.2 c1
    refine z_aload_n 0 dX2_startWeights_20 rfl rfl ?_
    refine z_getR (r := (o0 + 5)) zfRX2_24 dX2_startWeights_21 hh0.1 rfl ?_
    refine z_iload_n 1 dX2_startWeights_24 rfl rfl ?_
    refine z_bipush dX2_startWeights_25 (by decide) (by decide) ?_
    obtain ⟨q3, h⟩ := h
    refine z_imul dX2_startWeights_27 q3 ?_
    refine z_iload_n 2 dX2_startWeights_28 rfl rfl ?_
    obtain ⟨q4, h⟩ := h
    refine z_iadd dX2_startWeights_29 q4 ?_
    refine z_iload_n 1 dX2_startWeights_30 rfl rfl ?_
    refine z_iload_n 2 dX2_startWeights_31 rfl rfl ?_
    suffices hJ5 : z_Sem mX2_startWeights (sh.length, 0) 41 [(0, z_r o0), (1, z_i x1), (2, z_i x2)] [z_i (if x1 = x2 then 0 else 268435456), z_i ((x1 * 10) + x2), z_r (o0 + 5)] (sh, w) Q by
      refine z_icmp_ne (tgt := 39) dX2_startWeights_32 (by decide) (fun c6 => ?_) (fun c6 => ?_)
      · skip
        refine z_ldc (n := 268435456) zkRX2_91 dX2_startWeights_39 (by decide) (by decide) ?_
        simp only [if_neg c6] at hJ5
        exact hJ5
      · skip
        refine z_iconst dX2_startWeights_35 (by decide) ?_
        refine z_goto (tgt := 41) dX2_startWeights_36 (by decide) ?_
        simp only [if_pos c6] at hJ5
        exact hJ5
    obtain ⟨q10, h⟩ := h
    refine z_iast dX2_startWeights_41 hh0.2.2.2.2.2 q10 ?_
    refine z_genw (fun w9 hw9 => ?_)
    replace h := h w9 hw9
    obtain ⟨q11, h⟩ := h
    refine z_iinc (L' := [(2, z_i (x2 + 1)), (0, z_r o0), (1, z_i x1)]) 2 dX2_startWeights_42 rfl (by decide) rfl q11 ?_
    refine z_goto (tgt := 12) dX2_startWeights_45 (by decide) ?_
    refine z_sub (L' := [(0, z_r o0), (1, z_i x1), (2, z_i (x2 + 1))]) [1, 2, 0] rfl ?_
    exact h
set_option maxRecDepth 100000 in
theorem t_X2_closeWeights {sh : List z_C} {w : Nat → Int → Int} {Q : Option z_V → z_S → Prop} {o0 : Nat} (hh0 : z_isNet sh o0) (h : z_Sem mX2_closeWeights (sh.length, 0) 2 [(0, z_r o0), (1, z_i 0)] [] (sh, w) Q) : z_Sem mX2_closeWeights (sh.length, 0) 0 [(0, z_r o0)] [] (sh, w) Q := by
  refine z_iconst dX2_closeWeights_0 (by decide) ?_
  refine z_istore_n (L' := [(1, z_i 0), (0, z_r o0)]) dX2_closeWeights_1 rfl (by decide) rfl ?_
  refine z_sub (L' := [(0, z_r o0), (1, z_i 0)]) [1, 0] rfl ?_
  exact h
set_option maxRecDepth 100000 in
theorem t_X2_closeWeights_2 {sh : List z_C} {w : Nat → Int → Int} {Q : Option z_V → z_S → Prop} {o0 : Nat} {x1 : Int} (hh0 : z_isNet sh o0) (h : (((w o0 6) ≤ x1 → Q none (sh, w)) ∧ (¬ (w o0 6) ≤ x1 → z_Sem mX2_closeWeights (sh.length, 0) 12 [(0, z_r o0), (1, z_i x1), (2, z_i 0)] [] (sh, w) Q))) : z_Sem mX2_closeWeights (sh.length, 0) 2 [(0, z_r o0), (1, z_i x1)] [] (sh, w) Q := by
  refine z_iload_n 1 dX2_closeWeights_2 rfl rfl ?_
  refine z_aload_n 0 dX2_closeWeights_3 rfl rfl ?_
  refine z_getI (ki := 6) zfRX2_33 dX2_closeWeights_4 hh0.1 rfl rfl ?_
  refine z_icmp_ge (tgt := 106) dX2_closeWeights_7 (by decide) (fun c1 => ?_) (fun c1 => ?_)
  · replace h := h.1 c1
    exact z_ret (v := none) dX2_closeWeights_106 ⟨rfl, rfl⟩ rfl h
  · replace h := h.2 c1
    refine z_iconst dX2_closeWeights_10 (by decide) ?_
    refine z_istore_n (L' := [(2, z_i 0), (0, z_r o0), (1, z_i x1)]) dX2_closeWeights_11 rfl (by decide) rfl ?_
    refine z_sub (L' := [(0, z_r o0), (1, z_i x1), (2, z_i 0)]) [1, 2, 0] rfl ?_
    exact h
set_option maxRecDepth 100000 in
theorem t_X2_closeWeights_12 {sh : List z_C} {w : Nat → Int → Int} {Q : Option z_V → z_S → Prop} {o0 : Nat} {x1 : Int} {x2 : Int} (hh0 : z_isNet sh o0) (h : (((w o0 6) ≤ x2 → (z_R (x1 + 1)) ∧ z_Sem mX2_closeWeights (sh.length, 0) 2 [(0, z_r o0), (1, z_i (x1 + 1))] [] (sh, w) Q) ∧ (¬ (w o0 6) ≤ x2 → (z_R (x2 * 10)) ∧ (z_R ((x2 * 10) + x1)) ∧ ((0 : Int) ≤ ((x2 * 10) + x1) ∧ ((x2 * 10) + x1) < 100) ∧ ∀ y6 : Int, y6 = (w (o0 + 5) ((x2 * 10) + x1)) → z_Sem mX2_closeWeights (sh.length, 0) 35 [(0, z_r o0), (1, z_i x1), (2, z_i x2), (3, z_i y6), (4, z_i 0)] [] (sh, w) Q))) : z_Sem mX2_closeWeights (sh.length, 0) 12 [(0, z_r o0), (1, z_i x1), (2, z_i x2)] [] (sh, w) Q := by
  refine z_iload_n 2 dX2_closeWeights_12 rfl rfl ?_
  refine z_aload_n 0 dX2_closeWeights_13 rfl rfl ?_
  refine z_getI (ki := 6) zfRX2_33 dX2_closeWeights_14 hh0.1 rfl rfl ?_
  refine z_icmp_ge (tgt := 100) dX2_closeWeights_17 (by decide) (fun c1 => ?_) (fun c1 => ?_)
  · replace h := h.1 c1
    obtain ⟨q2, h⟩ := h
    refine z_iinc (L' := [(1, z_i (x1 + 1)), (0, z_r o0), (2, z_i x2)]) 1 dX2_closeWeights_100 rfl (by decide) rfl q2 ?_
    refine z_goto (tgt := 2) dX2_closeWeights_103 (by decide) ?_
    refine z_sub (L' := [(0, z_r o0), (1, z_i (x1 + 1))]) [1, 0] rfl ?_
    exact h
  · replace h := h.2 c1
    refine z_aload_n 0 dX2_closeWeights_20 rfl rfl ?_
    refine z_getR (r := (o0 + 5)) zfRX2_24 dX2_closeWeights_21 hh0.1 rfl ?_
    refine z_iload_n 2 dX2_closeWeights_24 rfl rfl ?_
    refine z_bipush dX2_closeWeights_25 (by decide) (by decide) ?_
    obtain ⟨q3, h⟩ := h
    refine z_imul dX2_closeWeights_27 q3 ?_
    refine z_iload_n 1 dX2_closeWeights_28 rfl rfl ?_
    obtain ⟨q4, h⟩ := h
    refine z_iadd dX2_closeWeights_29 q4 ?_
    obtain ⟨q5, h⟩ := h
    refine z_iald dX2_closeWeights_30 hh0.2.2.2.2.2 q5 ?_
    refine z_nam (fun y6 hy6 => ?_)
    replace h := h y6 hy6
    refine z_istore_n (L' := [(3, z_i y6), (0, z_r o0), (1, z_i x1), (2, z_i x2)]) dX2_closeWeights_31 rfl (by decide) rfl ?_
    refine z_iconst dX2_closeWeights_32 (by decide) ?_
    refine z_istore (L' := [(4, z_i 0), (3, z_i y6), (0, z_r o0), (1, z_i x1), (2, z_i x2)]) dX2_closeWeights_33 (by decide) rfl ?_
    refine z_sub (L' := [(0, z_r o0), (1, z_i x1), (2, z_i x2), (3, z_i y6), (4, z_i 0)]) [2, 3, 4, 1, 0] rfl ?_
    exact h
set_option maxRecDepth 100000 in
theorem t_X2_closeWeights_35 {sh : List z_C} {w : Nat → Int → Int} {Q : Option z_V → z_S → Prop} {o0 : Nat} {x1 : Int} {x2 : Int} {x3 : Int} {x4 : Int} (hh0 : z_isNet sh o0) (h : (((w o0 6) ≤ x4 → (z_R (x2 + 1)) ∧ z_Sem mX2_closeWeights (sh.length, 0) 12 [(0, z_r o0), (1, z_i x1), (2, z_i (x2 + 1))] [] (sh, w) Q) ∧ (¬ (w o0 6) ≤ x4 → (z_R (x1 * 10)) ∧ (z_R ((x1 * 10) + x4)) ∧ ((0 : Int) ≤ ((x1 * 10) + x4) ∧ ((x1 * 10) + x4) < 100) ∧ (z_R (x3 + (w (o0 + 5) ((x1 * 10) + x4)))) ∧ ∀ y7 : Int, y7 = (x3 + (w (o0 + 5) ((x1 * 10) + x4))) → (z_R (x2 * 10)) ∧ (z_R ((x2 * 10) + x4)) ∧ ((0 : Int) ≤ ((x2 * 10) + x4) ∧ ((x2 * 10) + x4) < 100) ∧ ((0 : Int) ≤ ((x2 * 10) + x4) ∧ ((x2 * 10) + x4) < 100) ∧ ∀ w11 : Nat → Int → Int, w11 = z_W w (o0 + 5) ((x2 * 10) + x4) (f_J9_min_7cf53 w (w (o0 + 5) ((x2 * 10) + x4)) y7) → (z_R (x4 + 1)) ∧ z_Sem mX2_closeWeights (sh.length, 0) 35 [(0, z_r o0), (1, z_i x1), (2, z_i x2), (3, z_i x3), (4, z_i (x4 + 1))] [] (sh, w11) Q))) : z_Sem mX2_closeWeights (sh.length, 0) 35 [(0, z_r o0), (1, z_i x1), (2, z_i x2), (3, z_i x3), (4, z_i x4)] [] (sh, w) Q := by
  refine z_iload 4 dX2_closeWeights_35 rfl ?_
  refine z_aload_n 0 dX2_closeWeights_37 rfl rfl ?_
  refine z_getI (ki := 6) zfRX2_33 dX2_closeWeights_38 hh0.1 rfl rfl ?_
  refine z_icmp_ge (tgt := 94) dX2_closeWeights_41 (by decide) (fun c1 => ?_) (fun c1 => ?_)
  · replace h := h.1 c1
    obtain ⟨q2, h⟩ := h
    refine z_iinc (L' := [(2, z_i (x2 + 1)), (0, z_r o0), (1, z_i x1), (3, z_i x3), (4, z_i x4)]) 2 dX2_closeWeights_94 rfl (by decide) rfl q2 ?_
    refine z_goto (tgt := 12) dX2_closeWeights_97 (by decide) ?_
    refine z_sub (L' := [(0, z_r o0), (1, z_i x1), (2, z_i (x2 + 1))]) [1, 2, 0] rfl ?_
    exact h
  · replace h := h.2 c1
    refine z_iload_n 3 dX2_closeWeights_44 rfl rfl ?_
    refine z_aload_n 0 dX2_closeWeights_45 rfl rfl ?_
    refine z_getR (r := (o0 + 5)) zfRX2_24 dX2_closeWeights_46 hh0.1 rfl ?_
    refine z_iload_n 1 dX2_closeWeights_49 rfl rfl ?_
    refine z_bipush dX2_closeWeights_50 (by decide) (by decide) ?_
    obtain ⟨q3, h⟩ := h
    refine z_imul dX2_closeWeights_52 q3 ?_
    refine z_iload 4 dX2_closeWeights_53 rfl ?_
    obtain ⟨q4, h⟩ := h
    refine z_iadd dX2_closeWeights_55 q4 ?_
    obtain ⟨q5, h⟩ := h
    refine z_iald dX2_closeWeights_56 hh0.2.2.2.2.2 q5 ?_
    obtain ⟨q6, h⟩ := h
    refine z_iadd dX2_closeWeights_57 q6 ?_
    refine z_nam (fun y7 hy7 => ?_)
    replace h := h y7 hy7
    refine z_istore (L' := [(5, z_i y7), (0, z_r o0), (1, z_i x1), (2, z_i x2), (3, z_i x3), (4, z_i x4)]) dX2_closeWeights_58 (by decide) rfl ?_
    refine z_iload_n 3 dX2_closeWeights_60 rfl rfl ?_
    refine z_bipush dX2_closeWeights_61 (by decide) (by decide) ?_
    obtain ⟨q8, h⟩ := h
    refine z_imul dX2_closeWeights_63 q8 ?_
    refine z_iload 5 dX2_closeWeights_64 rfl ?_
    obtain ⟨q9, h⟩ := h
    refine z_iadd dX2_closeWeights_66 q9 ?_
    refine z_istore (L' := [(6, z_i ((x2 * 10) + x4)), (5, z_i y7), (0, z_r o0), (1, z_i x1), (2, z_i x2), (3, z_i x3), (4, z_i x4)]) dX2_closeWeights_67 (by decide) rfl ?_
    refine z_aload_n 2 dX2_closeWeights_69 rfl rfl ?_
    refine z_getR (r := (o0 + 5)) zfRX2_24 dX2_closeWeights_70 hh0.1 rfl ?_
    refine z_iload 0 dX2_closeWeights_73 rfl ?_
    refine z_aload_n 2 dX2_closeWeights_75 rfl rfl ?_
    refine z_getR (r := (o0 + 5)) zfRX2_24 dX2_closeWeights_76 hh0.1 rfl ?_
    refine z_iload 0 dX2_closeWeights_79 rfl ?_
    obtain ⟨q10, h⟩ := h
    refine z_iald dX2_closeWeights_81 hh0.2.2.2.2.2 q10 ?_
    refine z_iload 1 dX2_closeWeights_82 rfl ?_
    refine z_callS (As := [z_i (w (o0 + 5) ((x2 * 10) + x4)), z_i y7]) (rest := [z_i ((x2 * 10) + x4), z_r (o0 + 5)]) zmJ9_min_7cf53 ztJ9_min_7cf53 zlRX2_96 ⟨Nat.le_of_ble_eq_true rfl, Nat.le_of_ble_eq_true rfl⟩ dX2_closeWeights_84 rfl rfl (z_ai (z_ai z_a0)) (Nat.le_of_ble_eq_true rfl) (Nat.le_of_ble_eq_true rfl) ⟨rfl, rfl⟩ ?_
    refine t_J9_min_7cf53  ?_
    show z_Sem mX2_closeWeights (sh.length, 0) 87 [(6, z_i ((x2 * 10) + x4)), (5, z_i y7), (0, z_r o0), (1, z_i x1), (2, z_i x2), (3, z_i x3), (4, z_i x4)] [z_i (f_J9_min_7cf53 w (w (o0 + 5) ((x2 * 10) + x4)) y7), z_i ((x2 * 10) + x4), z_r (o0 + 5)] (sh, w) Q
    obtain ⟨q12, h⟩ := h
    refine z_iast dX2_closeWeights_87 hh0.2.2.2.2.2 q12 ?_
    refine z_genw (fun w11 hw11 => ?_)
    replace h := h w11 hw11
    obtain ⟨q13, h⟩ := h
    refine z_iinc (L' := [(4, z_i (x4 + 1)), (6, z_i ((x2 * 10) + x4)), (5, z_i y7), (0, z_r o0), (1, z_i x1), (2, z_i x2), (3, z_i x3)]) 6 dX2_closeWeights_88 rfl (by decide) rfl q13 ?_
    refine z_goto (tgt := 35) dX2_closeWeights_91 (by decide) ?_
    refine z_sub (L' := [(0, z_r o0), (1, z_i x1), (2, z_i x2), (3, z_i x3), (4, z_i (x4 + 1))]) [3, 4, 5, 6, 0] rfl ?_
    exact h
set_option maxRecDepth 100000 in
theorem t_X2_build {sh : List z_C} {w : Nat → Int → Int} {Q : Option z_V → z_S → Prop} {o0 : Nat} {o1 : Nat} {x2 : Int} (hh0 : z_isNet sh o0) (hh1 : z_isPla sh o1) (h : ∀ w1 : Nat → Int → Int, w1 = z_W w o0 6 (w o1 10) → z_CV mX2_collectSteps [z_r o0, z_r o1, z_i x2] sh w1 (fun w2 => z_CV mX2_startWeights [z_r o0] sh w2 (fun w3 => z_CV mX2_closeWeights [z_r o0] sh w3 (fun w4 => Q none (sh, w4))))) : z_Sem mX2_build (sh.length, 0) 0 [(0, z_r o0), (1, z_r o1), (2, z_i x2)] [] (sh, w) Q := by
  refine z_aload_n 0 dX2_build_0 rfl rfl ?_
  refine z_aload_n 1 dX2_build_1 rfl rfl ?_
  refine z_getI (ki := 10) zfRX2_27 dX2_build_2 hh1.1 rfl rfl ?_
  refine z_putI (ki := 6) zfRX2_33 dX2_build_5 hh0.1 rfl rfl ?_
  refine z_genw (fun w1 hw1 => ?_)
  replace h := h w1 hw1
  refine z_aload_n 0 dX2_build_8 rfl rfl ?_
  refine z_aload_n 1 dX2_build_9 rfl rfl ?_
  refine z_iload_n 2 dX2_build_10 rfl rfl ?_
  refine z_callV (As := [z_r o1, z_i x2]) (rest := []) zmX2_collectSteps znX2_collectSteps zsX2_collectSteps (show z_Cl[2]? = some (RX2, TX2, 7) from rfl) zlRX2_34 ⟨Nat.le_of_ble_eq_true rfl, Nat.le_of_ble_eq_true rfl⟩ dX2_build_11 hh0.1 rfl rfl (z_ar (z_ai z_a0)) (Nat.le_of_ble_eq_true rfl) (Nat.le_of_ble_eq_true rfl) ⟨rfl, rfl⟩ (z_CVm h ?_)
  intro w2 h
  show z_Sem mX2_build (sh.length, 0) 14 [(0, z_r o0), (1, z_r o1), (2, z_i x2)] [] (sh, w2) Q
  refine z_aload_n 0 dX2_build_14 rfl rfl ?_
  refine z_callV (As := []) (rest := []) zmX2_startWeights znX2_startWeights zsX2_startWeights (show z_Cl[2]? = some (RX2, TX2, 7) from rfl) zlRX2_38 ⟨Nat.le_of_ble_eq_true rfl, Nat.le_of_ble_eq_true rfl⟩ dX2_build_15 hh0.1 rfl rfl z_a0 (Nat.le_of_ble_eq_true rfl) (Nat.le_of_ble_eq_true rfl) ⟨rfl, rfl⟩ (z_CVm h ?_)
  intro w3 h
  show z_Sem mX2_build (sh.length, 0) 18 [(0, z_r o0), (1, z_r o1), (2, z_i x2)] [] (sh, w3) Q
  refine z_aload_n 0 dX2_build_18 rfl rfl ?_
  refine z_callV (As := []) (rest := []) zmX2_closeWeights znX2_closeWeights zsX2_closeWeights (show z_Cl[2]? = some (RX2, TX2, 7) from rfl) zlRX2_41 ⟨Nat.le_of_ble_eq_true rfl, Nat.le_of_ble_eq_true rfl⟩ dX2_build_19 hh0.1 rfl rfl z_a0 (Nat.le_of_ble_eq_true rfl) (Nat.le_of_ble_eq_true rfl) ⟨rfl, rfl⟩ (z_CVm h ?_)
  intro w4 h
  show z_Sem mX2_build (sh.length, 0) 22 [(0, z_r o0), (1, z_r o1), (2, z_i x2)] [] (sh, w4) Q
  exact z_ret (v := none) dX2_build_22 ⟨rfl, rfl⟩ rfl h
set_option maxRecDepth 100000 in
theorem t_X2_copyBounds {sh : List z_C} {w : Nat → Int → Int} {Q : Option z_V → z_S → Prop} {o0 : Nat} {o1 : Nat} (hh0 : z_isNet sh o0) (hh1 : z_isNet sh o1) (h : ∀ w1 : Nat → Int → Int, w1 = z_CP w (o1 + 5) 0 (o0 + 5) 0 100 → ∀ w2 : Nat → Int → Int, w2 = z_W w1 o0 6 (w1 o1 6) → ∀ w3 : Nat → Int → Int, w3 = z_W w2 o0 5 0 → Q none (sh, w3)) : z_Sem mX2_copyBounds (sh.length, 0) 0 [(0, z_r o0), (1, z_r o1)] [] (sh, w) Q := by
  refine z_aload_n 1 dX2_copyBounds_0 rfl rfl ?_
  refine z_getR (r := (o1 + 5)) zfRX2_24 dX2_copyBounds_1 hh1.1 rfl ?_
  refine z_iconst dX2_copyBounds_4 (by decide) ?_
  refine z_aload_n 0 dX2_copyBounds_5 rfl rfl ?_
  refine z_getR (r := (o0 + 5)) zfRX2_24 dX2_copyBounds_6 hh0.1 rfl ?_
  refine z_iconst dX2_copyBounds_9 (by decide) ?_
  refine z_aload_n 0 dX2_copyBounds_10 rfl rfl ?_
  refine z_getR (r := (o0 + 5)) zfRX2_24 dX2_copyBounds_11 hh0.1 rfl ?_
  refine z_alen dX2_copyBounds_14 (by decide) hh0.2.2.2.2.2 (by decide) ?_
  refine z_copy zl_cpRX2 zl_cpn zl_cps zl_cpi hh1.2.2.2.2.2 hh0.2.2.2.2.2 (by decide) (by decide) ⟨by decide, by decide⟩ dX2_copyBounds_15 ?_
  refine z_genc (fun w1 hw1 => ?_)
  replace h := h w1 hw1
  refine z_aload_n 0 dX2_copyBounds_18 rfl rfl ?_
  refine z_aload_n 1 dX2_copyBounds_19 rfl rfl ?_
  refine z_getI (ki := 6) zfRX2_33 dX2_copyBounds_20 hh1.1 rfl rfl ?_
  refine z_putI (ki := 6) zfRX2_33 dX2_copyBounds_23 hh0.1 rfl rfl ?_
  refine z_genw (fun w2 hw2 => ?_)
  replace h := h w2 hw2
  refine z_aload_n 0 dX2_copyBounds_26 rfl rfl ?_
  refine z_iconst dX2_copyBounds_27 (by decide) ?_
  refine z_putI (ki := 5) zfRX2_44 dX2_copyBounds_28 hh0.1 rfl rfl ?_
  refine z_genw (fun w3 hw3 => ?_)
  replace h := h w3 hw3
  exact z_ret (v := none) dX2_copyBounds_31 ⟨rfl, rfl⟩ rfl h
set_option maxRecDepth 100000 in
theorem t_X2_addStep {sh : List z_C} {w : Nat → Int → Int} {Q : Option z_V → z_S → Prop} {o0 : Nat} {x1 : Int} {x2 : Int} {x3 : Int} (hh0 : z_isNet sh o0) (h : z_Sem mX2_addStep (sh.length, 0) 3 [(0, z_r o0), (1, z_i x1), (2, z_i x2), (3, z_i x3), (4, z_i 0)] [] (sh, w) Q) : z_Sem mX2_addStep (sh.length, 0) 0 [(0, z_r o0), (1, z_i x1), (2, z_i x2), (3, z_i x3)] [] (sh, w) Q := by
  refine z_iconst dX2_addStep_0 (by decide) ?_
  refine z_istore (L' := [(4, z_i 0), (0, z_r o0), (1, z_i x1), (2, z_i x2), (3, z_i x3)]) dX2_addStep_1 (by decide) rfl ?_
  refine z_sub (L' := [(0, z_r o0), (1, z_i x1), (2, z_i x2), (3, z_i x3), (4, z_i 0)]) [1, 2, 3, 4, 0] rfl ?_
  exact h
set_option maxRecDepth 100000 in
theorem t_X2_addStep_3 {sh : List z_C} {w : Nat → Int → Int} {Q : Option z_V → z_S → Prop} {o0 : Nat} {x1 : Int} {x2 : Int} {x3 : Int} {x4 : Int} (hh0 : z_isNet sh o0) (h : (((w o0 6) ≤ x4 → Q none (sh, w)) ∧ (¬ (w o0 6) ≤ x4 → (z_R (x4 * 10)) ∧ (z_R ((x4 * 10) + x1)) ∧ ((0 : Int) ≤ ((x4 * 10) + x1) ∧ ((x4 * 10) + x1) < 100) ∧ (s_X2_weightOf w x3) ∧ (z_R ((w (o0 + 5) ((x4 * 10) + x1)) + (f_X2_weightOf w x3))) ∧ ∀ y7 : Int, y7 = ((w (o0 + 5) ((x4 * 10) + x1)) + (f_X2_weightOf w x3)) → z_Sem mX2_addStep (sh.length, 0) 34 [(0, z_r o0), (1, z_i x1), (2, z_i x2), (3, z_i x3), (4, z_i x4), (5, z_i y7), (6, z_i 0)] [] (sh, w) Q))) : z_Sem mX2_addStep (sh.length, 0) 3 [(0, z_r o0), (1, z_i x1), (2, z_i x2), (3, z_i x3), (4, z_i x4)] [] (sh, w) Q := by
  refine z_iload 4 dX2_addStep_3 rfl ?_
  refine z_aload_n 0 dX2_addStep_5 rfl rfl ?_
  refine z_getI (ki := 6) zfRX2_33 dX2_addStep_6 hh0.1 rfl rfl ?_
  refine z_icmp_ge (tgt := 101) dX2_addStep_9 (by decide) (fun c1 => ?_) (fun c1 => ?_)
  · replace h := h.1 c1
    exact z_ret (v := none) dX2_addStep_101 ⟨rfl, rfl⟩ rfl h
  · replace h := h.2 c1
    refine z_aload_n 0 dX2_addStep_12 rfl rfl ?_
    refine z_getR (r := (o0 + 5)) zfRX2_24 dX2_addStep_13 hh0.1 rfl ?_
    refine z_iload 4 dX2_addStep_16 rfl ?_
    refine z_bipush dX2_addStep_18 (by decide) (by decide) ?_
    obtain ⟨q2, h⟩ := h
    refine z_imul dX2_addStep_20 q2 ?_
    refine z_iload_n 1 dX2_addStep_21 rfl rfl ?_
    obtain ⟨q3, h⟩ := h
    refine z_iadd dX2_addStep_22 q3 ?_
    obtain ⟨q4, h⟩ := h
    refine z_iald dX2_addStep_23 hh0.2.2.2.2.2 q4 ?_
    refine z_iload_n 3 dX2_addStep_24 rfl rfl ?_
    obtain ⟨q5, h⟩ := h
    refine z_callS (As := [z_i x3]) (rest := [z_i (w (o0 + 5) ((x4 * 10) + x1))]) zmX2_weightOf ztX2_weightOf zlRX2_92 ⟨Nat.le_of_ble_eq_true rfl, Nat.le_of_ble_eq_true rfl⟩ dX2_addStep_25 rfl rfl (z_ai z_a0) (Nat.le_of_ble_eq_true rfl) (Nat.le_of_ble_eq_true rfl) ⟨rfl, rfl⟩ ?_
    refine t_X2_weightOf  q5 ?_
    show z_Sem mX2_addStep (sh.length, 0) 28 [(0, z_r o0), (1, z_i x1), (2, z_i x2), (3, z_i x3), (4, z_i x4)] [z_i (f_X2_weightOf w x3), z_i (w (o0 + 5) ((x4 * 10) + x1))] (sh, w) Q
    obtain ⟨q6, h⟩ := h
    refine z_iadd dX2_addStep_28 q6 ?_
    refine z_nam (fun y7 hy7 => ?_)
    replace h := h y7 hy7
    refine z_istore (L' := [(5, z_i y7), (0, z_r o0), (1, z_i x1), (2, z_i x2), (3, z_i x3), (4, z_i x4)]) dX2_addStep_29 (by decide) rfl ?_
    refine z_iconst dX2_addStep_31 (by decide) ?_
    refine z_istore (L' := [(6, z_i 0), (5, z_i y7), (0, z_r o0), (1, z_i x1), (2, z_i x2), (3, z_i x3), (4, z_i x4)]) dX2_addStep_32 (by decide) rfl ?_
    refine z_sub (L' := [(0, z_r o0), (1, z_i x1), (2, z_i x2), (3, z_i x3), (4, z_i x4), (5, z_i y7), (6, z_i 0)]) [2, 3, 4, 5, 6, 1, 0] rfl ?_
    exact h
set_option maxRecDepth 100000 in
theorem t_X2_addStep_34 {sh : List z_C} {w : Nat → Int → Int} {Q : Option z_V → z_S → Prop} {o0 : Nat} {x1 : Int} {x2 : Int} {x3 : Int} {x4 : Int} {x5 : Int} {x6 : Int} (hh0 : z_isNet sh o0) (h : (((w o0 6) ≤ x6 → (z_R (x4 + 1)) ∧ z_Sem mX2_addStep (sh.length, 0) 3 [(0, z_r o0), (1, z_i x1), (2, z_i x2), (3, z_i x3), (4, z_i (x4 + 1))] [] (sh, w) Q) ∧ (¬ (w o0 6) ≤ x6 → (z_R (x2 * 10)) ∧ (z_R ((x2 * 10) + x6)) ∧ ((0 : Int) ≤ ((x2 * 10) + x6) ∧ ((x2 * 10) + x6) < 100) ∧ (z_R (x5 + (w (o0 + 5) ((x2 * 10) + x6)))) ∧ ∀ y7 : Int, y7 = (x5 + (w (o0 + 5) ((x2 * 10) + x6))) → (z_R (x4 * 10)) ∧ (z_R ((x4 * 10) + x6)) ∧ ((0 : Int) ≤ ((x4 * 10) + x6) ∧ ((x4 * 10) + x6) < 100) ∧ ((0 : Int) ≤ ((x4 * 10) + x6) ∧ ((x4 * 10) + x6) < 100) ∧ ∀ w11 : Nat → Int → Int, w11 = z_W w (o0 + 5) ((x4 * 10) + x6) (f_J9_min_7cf53 w (w (o0 + 5) ((x4 * 10) + x6)) y7) → (z_R (x6 + 1)) ∧ z_Sem mX2_addStep (sh.length, 0) 34 [(0, z_r o0), (1, z_i x1), (2, z_i x2), (3, z_i x3), (4, z_i x4), (5, z_i x5), (6, z_i (x6 + 1))] [] (sh, w11) Q))) : z_Sem mX2_addStep (sh.length, 0) 34 [(0, z_r o0), (1, z_i x1), (2, z_i x2), (3, z_i x3), (4, z_i x4), (5, z_i x5), (6, z_i x6)] [] (sh, w) Q := by
  refine z_iload 6 dX2_addStep_34 rfl ?_
  refine z_aload_n 0 dX2_addStep_36 rfl rfl ?_
  refine z_getI (ki := 6) zfRX2_33 dX2_addStep_37 hh0.1 rfl rfl ?_
  refine z_icmp_ge (tgt := 95) dX2_addStep_40 (by decide) (fun c1 => ?_) (fun c1 => ?_)
  · replace h := h.1 c1
    obtain ⟨q2, h⟩ := h
    refine z_iinc (L' := [(4, z_i (x4 + 1)), (0, z_r o0), (1, z_i x1), (2, z_i x2), (3, z_i x3), (5, z_i x5), (6, z_i x6)]) 4 dX2_addStep_95 rfl (by decide) rfl q2 ?_
    refine z_goto (tgt := 3) dX2_addStep_98 (by decide) ?_
    refine z_sub (L' := [(0, z_r o0), (1, z_i x1), (2, z_i x2), (3, z_i x3), (4, z_i (x4 + 1))]) [1, 2, 3, 4, 0] rfl ?_
    exact h
  · replace h := h.2 c1
    refine z_iload 5 dX2_addStep_43 rfl ?_
    refine z_aload_n 0 dX2_addStep_45 rfl rfl ?_
    refine z_getR (r := (o0 + 5)) zfRX2_24 dX2_addStep_46 hh0.1 rfl ?_
    refine z_iload_n 2 dX2_addStep_49 rfl rfl ?_
    refine z_bipush dX2_addStep_50 (by decide) (by decide) ?_
    obtain ⟨q3, h⟩ := h
    refine z_imul dX2_addStep_52 q3 ?_
    refine z_iload 6 dX2_addStep_53 rfl ?_
    obtain ⟨q4, h⟩ := h
    refine z_iadd dX2_addStep_55 q4 ?_
    obtain ⟨q5, h⟩ := h
    refine z_iald dX2_addStep_56 hh0.2.2.2.2.2 q5 ?_
    obtain ⟨q6, h⟩ := h
    refine z_iadd dX2_addStep_57 q6 ?_
    refine z_nam (fun y7 hy7 => ?_)
    replace h := h y7 hy7
    refine z_istore (L' := [(7, z_i y7), (0, z_r o0), (1, z_i x1), (2, z_i x2), (3, z_i x3), (4, z_i x4), (5, z_i x5), (6, z_i x6)]) dX2_addStep_58 (by decide) rfl ?_
    refine z_iload 5 dX2_addStep_60 rfl ?_
    refine z_bipush dX2_addStep_62 (by decide) (by decide) ?_
    obtain ⟨q8, h⟩ := h
    refine z_imul dX2_addStep_64 q8 ?_
    refine z_iload 7 dX2_addStep_65 rfl ?_
    obtain ⟨q9, h⟩ := h
    refine z_iadd dX2_addStep_67 q9 ?_
    refine z_istore (L' := [(8, z_i ((x4 * 10) + x6)), (7, z_i y7), (0, z_r o0), (1, z_i x1), (2, z_i x2), (3, z_i x3), (4, z_i x4), (5, z_i x5), (6, z_i x6)]) dX2_addStep_68 (by decide) rfl ?_
    refine z_aload_n 2 dX2_addStep_70 rfl rfl ?_
    refine z_getR (r := (o0 + 5)) zfRX2_24 dX2_addStep_71 hh0.1 rfl ?_
    refine z_iload 0 dX2_addStep_74 rfl ?_
    refine z_aload_n 2 dX2_addStep_76 rfl rfl ?_
    refine z_getR (r := (o0 + 5)) zfRX2_24 dX2_addStep_77 hh0.1 rfl ?_
    refine z_iload 0 dX2_addStep_80 rfl ?_
    obtain ⟨q10, h⟩ := h
    refine z_iald dX2_addStep_82 hh0.2.2.2.2.2 q10 ?_
    refine z_iload 1 dX2_addStep_83 rfl ?_
    refine z_callS (As := [z_i (w (o0 + 5) ((x4 * 10) + x6)), z_i y7]) (rest := [z_i ((x4 * 10) + x6), z_r (o0 + 5)]) zmJ9_min_7cf53 ztJ9_min_7cf53 zlRX2_96 ⟨Nat.le_of_ble_eq_true rfl, Nat.le_of_ble_eq_true rfl⟩ dX2_addStep_85 rfl rfl (z_ai (z_ai z_a0)) (Nat.le_of_ble_eq_true rfl) (Nat.le_of_ble_eq_true rfl) ⟨rfl, rfl⟩ ?_
    refine t_J9_min_7cf53  ?_
    show z_Sem mX2_addStep (sh.length, 0) 88 [(8, z_i ((x4 * 10) + x6)), (7, z_i y7), (0, z_r o0), (1, z_i x1), (2, z_i x2), (3, z_i x3), (4, z_i x4), (5, z_i x5), (6, z_i x6)] [z_i (f_J9_min_7cf53 w (w (o0 + 5) ((x4 * 10) + x6)) y7), z_i ((x4 * 10) + x6), z_r (o0 + 5)] (sh, w) Q
    obtain ⟨q12, h⟩ := h
    refine z_iast dX2_addStep_88 hh0.2.2.2.2.2 q12 ?_
    refine z_genw (fun w11 hw11 => ?_)
    replace h := h w11 hw11
    obtain ⟨q13, h⟩ := h
    refine z_iinc (L' := [(6, z_i (x6 + 1)), (8, z_i ((x4 * 10) + x6)), (7, z_i y7), (0, z_r o0), (1, z_i x1), (2, z_i x2), (3, z_i x3), (4, z_i x4), (5, z_i x5)]) 8 dX2_addStep_89 rfl (by decide) rfl q13 ?_
    refine z_goto (tgt := 34) dX2_addStep_92 (by decide) ?_
    refine z_sub (L' := [(0, z_r o0), (1, z_i x1), (2, z_i x2), (3, z_i x3), (4, z_i x4), (5, z_i x5), (6, z_i (x6 + 1))]) [3, 4, 5, 6, 7, 8, 0] rfl ?_
    exact h
set_option maxRecDepth 100000 in
theorem t_X2_addGapStep {sh : List z_C} {w : Nat → Int → Int} {Q : Option z_V → z_S → Prop} {o0 : Nat} {x1 : Int} {x2 : Int} {x3 : Int} {x4 : Int} (hh0 : z_isNet sh o0) (h : (s_X8_stepLength w x3 x4) ∧ z_CV mX2_addStep [z_r o0, z_i (f_X8_stepBegin w x1 x2 x3), z_i (f_X8_stepFinish w x1 x2 x3), z_i (f_X8_stepLength w x3 x4)] sh w (fun w2 => Q none (sh, w2))) : z_Sem mX2_addGapStep (sh.length, 0) 0 [(0, z_r o0), (1, z_i x1), (2, z_i x2), (3, z_i x3), (4, z_i x4)] [] (sh, w) Q := by
  refine z_aload_n 0 dX2_addGapStep_0 rfl rfl ?_
  refine z_iload_n 1 dX2_addGapStep_1 rfl rfl ?_
  refine z_iload_n 2 dX2_addGapStep_2 rfl rfl ?_
  refine z_iload_n 3 dX2_addGapStep_3 rfl rfl ?_
  refine z_callS (As := [z_i x1, z_i x2, z_i x3]) (rest := [z_r o0]) zmX8_stepBegin ztX8_stepBegin zlRX2_63 ⟨Nat.le_of_ble_eq_true rfl, Nat.le_of_ble_eq_true rfl⟩ dX2_addGapStep_4 rfl rfl (z_ai (z_ai (z_ai z_a0))) (Nat.le_of_ble_eq_true rfl) (Nat.le_of_ble_eq_true rfl) ⟨rfl, rfl⟩ ?_
  refine t_X8_stepBegin  ?_
  show z_Sem mX2_addGapStep (sh.length, 0) 7 [(0, z_r o0), (1, z_i x1), (2, z_i x2), (3, z_i x3), (4, z_i x4)] [z_i (f_X8_stepBegin w x1 x2 x3), z_r o0] (sh, w) Q
  refine z_iload_n 1 dX2_addGapStep_7 rfl rfl ?_
  refine z_iload_n 2 dX2_addGapStep_8 rfl rfl ?_
  refine z_iload_n 3 dX2_addGapStep_9 rfl rfl ?_
  refine z_callS (As := [z_i x1, z_i x2, z_i x3]) (rest := [z_i (f_X8_stepBegin w x1 x2 x3), z_r o0]) zmX8_stepFinish ztX8_stepFinish zlRX2_67 ⟨Nat.le_of_ble_eq_true rfl, Nat.le_of_ble_eq_true rfl⟩ dX2_addGapStep_10 rfl rfl (z_ai (z_ai (z_ai z_a0))) (Nat.le_of_ble_eq_true rfl) (Nat.le_of_ble_eq_true rfl) ⟨rfl, rfl⟩ ?_
  refine t_X8_stepFinish  ?_
  show z_Sem mX2_addGapStep (sh.length, 0) 13 [(0, z_r o0), (1, z_i x1), (2, z_i x2), (3, z_i x3), (4, z_i x4)] [z_i (f_X8_stepFinish w x1 x2 x3), z_i (f_X8_stepBegin w x1 x2 x3), z_r o0] (sh, w) Q
  refine z_iload_n 3 dX2_addGapStep_13 rfl rfl ?_
  refine z_iload 4 dX2_addGapStep_14 rfl ?_
  obtain ⟨q1, h⟩ := h
  refine z_callS (As := [z_i x3, z_i x4]) (rest := [z_i (f_X8_stepFinish w x1 x2 x3), z_i (f_X8_stepBegin w x1 x2 x3), z_r o0]) zmX8_stepLength ztX8_stepLength zlRX2_73 ⟨Nat.le_of_ble_eq_true rfl, Nat.le_of_ble_eq_true rfl⟩ dX2_addGapStep_16 rfl rfl (z_ai (z_ai z_a0)) (Nat.le_of_ble_eq_true rfl) (Nat.le_of_ble_eq_true rfl) ⟨rfl, rfl⟩ ?_
  refine t_X8_stepLength  q1 ?_
  show z_Sem mX2_addGapStep (sh.length, 0) 19 [(0, z_r o0), (1, z_i x1), (2, z_i x2), (3, z_i x3), (4, z_i x4)] [z_i (f_X8_stepLength w x3 x4), z_i (f_X8_stepFinish w x1 x2 x3), z_i (f_X8_stepBegin w x1 x2 x3), z_r o0] (sh, w) Q
  refine z_callV (As := [z_i (f_X8_stepBegin w x1 x2 x3), z_i (f_X8_stepFinish w x1 x2 x3), z_i (f_X8_stepLength w x3 x4)]) (rest := []) zmX2_addStep znX2_addStep zsX2_addStep (show z_Cl[2]? = some (RX2, TX2, 7) from rfl) zlRX2_107 ⟨Nat.le_of_ble_eq_true rfl, Nat.le_of_ble_eq_true rfl⟩ dX2_addGapStep_19 hh0.1 rfl rfl (z_ai (z_ai (z_ai z_a0))) (Nat.le_of_ble_eq_true rfl) (Nat.le_of_ble_eq_true rfl) ⟨rfl, rfl⟩ (z_CVm h ?_)
  intro w2 h
  show z_Sem mX2_addGapStep (sh.length, 0) 22 [(0, z_r o0), (1, z_i x1), (2, z_i x2), (3, z_i x3), (4, z_i x4)] [] (sh, w2) Q
  exact z_ret (v := none) dX2_addGapStep_22 ⟨rfl, rfl⟩ rfl h
set_option maxRecDepth 100000 in
theorem t_X2_addPin {sh : List z_C} {w : Nat → Int → Int} {Q : Option z_V → z_S → Prop} {o0 : Nat} {x1 : Int} {x2 : Int} (hh0 : z_isNet sh o0) (h : z_CV mX2_addStep [z_r o0, z_i 0, z_i x1, z_i x2] sh w (fun w1 => (z_R (-x2)) ∧ z_CV mX2_addStep [z_r o0, z_i x1, z_i 0, z_i (-x2)] sh w1 (fun w3 => Q none (sh, w3)))) : z_Sem mX2_addPin (sh.length, 0) 0 [(0, z_r o0), (1, z_i x1), (2, z_i x2)] [] (sh, w) Q := by
  refine z_aload_n 0 dX2_addPin_0 rfl rfl ?_
  refine z_iconst dX2_addPin_1 (by decide) ?_
  refine z_iload_n 1 dX2_addPin_2 rfl rfl ?_
  refine z_iload_n 2 dX2_addPin_3 rfl rfl ?_
  refine z_callV (As := [z_i 0, z_i x1, z_i x2]) (rest := []) zmX2_addStep znX2_addStep zsX2_addStep (show z_Cl[2]? = some (RX2, TX2, 7) from rfl) zlRX2_107 ⟨Nat.le_of_ble_eq_true rfl, Nat.le_of_ble_eq_true rfl⟩ dX2_addPin_4 hh0.1 rfl rfl (z_ai (z_ai (z_ai z_a0))) (Nat.le_of_ble_eq_true rfl) (Nat.le_of_ble_eq_true rfl) ⟨rfl, rfl⟩ (z_CVm h ?_)
  intro w1 h
  show z_Sem mX2_addPin (sh.length, 0) 7 [(0, z_r o0), (1, z_i x1), (2, z_i x2)] [] (sh, w1) Q
  refine z_aload_n 0 dX2_addPin_7 rfl rfl ?_
  refine z_iload_n 1 dX2_addPin_8 rfl rfl ?_
  refine z_iconst dX2_addPin_9 (by decide) ?_
  refine z_iload_n 2 dX2_addPin_10 rfl rfl ?_
  obtain ⟨q2, h⟩ := h
  refine z_ineg dX2_addPin_11 q2 ?_
  refine z_callV (As := [z_i x1, z_i 0, z_i (-x2)]) (rest := []) zmX2_addStep znX2_addStep zsX2_addStep (show z_Cl[2]? = some (RX2, TX2, 7) from rfl) zlRX2_107 ⟨Nat.le_of_ble_eq_true rfl, Nat.le_of_ble_eq_true rfl⟩ dX2_addPin_12 hh0.1 rfl rfl (z_ai (z_ai (z_ai z_a0))) (Nat.le_of_ble_eq_true rfl) (Nat.le_of_ble_eq_true rfl) ⟨rfl, rfl⟩ (z_CVm h ?_)
  intro w3 h
  show z_Sem mX2_addPin (sh.length, 0) 15 [(0, z_r o0), (1, z_i x1), (2, z_i x2)] [] (sh, w3) Q
  exact z_ret (v := none) dX2_addPin_15 ⟨rfl, rfl⟩ rfl h
def f_J9_floorDiv_7cf53 (w : Nat → Int → Int) (x0 : Int) (x1 : Int) : Int := if 0 ≤ (z_xor x0 x1) then x0.tdiv x1 else if ((x0.tdiv x1) * x1) = x0 then x0.tdiv x1 else (x0.tdiv x1) - 1
def s_J9_floorDiv_7cf53 (w : Nat → Int → Int) (x0 : Int) (x1 : Int) : Prop := ((0 : Int) < x1) ∧ (¬ 0 ≤ (z_xor x0 x1) → (z_R ((x0.tdiv x1) * x1)) ∧ (¬ ((x0.tdiv x1) * x1) = x0 → (z_R ((x0.tdiv x1) - 1)) ∧ True) ∧ True) ∧ True
set_option maxRecDepth 100000 in
theorem t_J9_floorDiv_7cf53 {sh : List z_C} {w : Nat → Int → Int} {Q : Option z_V → z_S → Prop} {x0 : Int} {x1 : Int}  (hs : s_J9_floorDiv_7cf53 w x0 x1) (h : Q (some (z_i (f_J9_floorDiv_7cf53 w x0 x1))) (sh, w)) : z_Sem mJ9_floorDiv_7cf53 (sh.length, 0) 0 [(0, z_i x0), (1, z_i x1)] [] (sh, w) Q := by
  unfold f_J9_floorDiv_7cf53 at h
  unfold s_J9_floorDiv_7cf53 at hs
  refine z_iload_n 0 dJ9_floorDiv_7cf53_0 rfl rfl ?_
  refine z_iload_n 1 dJ9_floorDiv_7cf53_1 rfl rfl ?_
  obtain ⟨q1, hs⟩ := hs
  refine z_idiv dJ9_floorDiv_7cf53_2 q1 ?_
  refine z_istore_n (L' := [(2, z_i (x0.tdiv x1)), (0, z_i x0), (1, z_i x1)]) dJ9_floorDiv_7cf53_3 rfl (by decide) rfl ?_
  refine z_iload_n 1 dJ9_floorDiv_7cf53_4 rfl rfl ?_
  refine z_iload_n 2 dJ9_floorDiv_7cf53_5 rfl rfl ?_
  refine z_ixor dJ9_floorDiv_7cf53_6 ?_
  obtain ⟨m7, hs⟩ := hs
  refine z_if_ge (tgt := 21) dJ9_floorDiv_7cf53_7 (by decide) (fun c2 => ?_) (fun c2 => ?_)
  · skip
    rw [if_pos c2] at h
    refine z_iload_n 0 dJ9_floorDiv_7cf53_21 rfl rfl ?_
    exact z_ret (v := some (z_i (x0.tdiv x1))) dJ9_floorDiv_7cf53_22 ⟨rfl, Or.inl rfl⟩ rfl h
  · skip
    rw [if_neg c2] at h
    replace hs := m7 c2
    refine z_iload_n 0 dJ9_floorDiv_7cf53_10 rfl rfl ?_
    refine z_iload_n 2 dJ9_floorDiv_7cf53_11 rfl rfl ?_
    obtain ⟨q3, hs⟩ := hs
    refine z_imul dJ9_floorDiv_7cf53_12 q3 ?_
    refine z_iload_n 1 dJ9_floorDiv_7cf53_13 rfl rfl ?_
    obtain ⟨m6, hs⟩ := hs
    refine z_icmp_eq (tgt := 21) dJ9_floorDiv_7cf53_14 (by decide) (fun c4 => ?_) (fun c4 => ?_)
    · skip
      rw [if_pos c4] at h
      refine z_iload_n 0 dJ9_floorDiv_7cf53_21 rfl rfl ?_
      exact z_ret (v := some (z_i (x0.tdiv x1))) dJ9_floorDiv_7cf53_22 ⟨rfl, Or.inl rfl⟩ rfl h
    · skip
      rw [if_neg c4] at h
      replace hs := m6 c4
      refine z_iload_n 0 dJ9_floorDiv_7cf53_17 rfl rfl ?_
      refine z_iconst dJ9_floorDiv_7cf53_18 (by decide) ?_
      obtain ⟨q5, hs⟩ := hs
      refine z_isub dJ9_floorDiv_7cf53_19 q5 ?_
      exact z_ret (v := some (z_i ((x0.tdiv x1) - 1))) dJ9_floorDiv_7cf53_20 ⟨rfl, Or.inl rfl⟩ rfl h
def f_X2_between (w : Nat → Int → Int) (o0 : Nat) (x1 : Int) (x2 : Int) : Int := f_J9_floorDiv_7cf53 w (w (o0 + 5) ((x1 * 10) + x2)) 64
def s_X2_between (w : Nat → Int → Int) (o0 : Nat) (x1 : Int) (x2 : Int) : Prop := (z_R (x1 * 10)) ∧ (z_R ((x1 * 10) + x2)) ∧ ((0 : Int) ≤ ((x1 * 10) + x2) ∧ ((x1 * 10) + x2) < 100) ∧ (s_J9_floorDiv_7cf53 w (w (o0 + 5) ((x1 * 10) + x2)) 64) ∧ True
set_option maxRecDepth 100000 in
theorem t_X2_between {sh : List z_C} {w : Nat → Int → Int} {Q : Option z_V → z_S → Prop} {o0 : Nat} {x1 : Int} {x2 : Int} (hh0 : z_isNet sh o0) (hs : s_X2_between w o0 x1 x2) (h : Q (some (z_i (f_X2_between w o0 x1 x2))) (sh, w)) : z_Sem mX2_between (sh.length, 0) 0 [(0, z_r o0), (1, z_i x1), (2, z_i x2)] [] (sh, w) Q := by
  unfold f_X2_between at h
  unfold s_X2_between at hs
  refine z_aload_n 0 dX2_between_0 rfl rfl ?_
  refine z_getR (r := (o0 + 5)) zfRX2_24 dX2_between_1 hh0.1 rfl ?_
  refine z_iload_n 1 dX2_between_4 rfl rfl ?_
  refine z_bipush dX2_between_5 (by decide) (by decide) ?_
  obtain ⟨q1, hs⟩ := hs
  refine z_imul dX2_between_7 q1 ?_
  refine z_iload_n 2 dX2_between_8 rfl rfl ?_
  obtain ⟨q2, hs⟩ := hs
  refine z_iadd dX2_between_9 q2 ?_
  obtain ⟨q3, hs⟩ := hs
  refine z_iald dX2_between_10 hh0.2.2.2.2.2 q3 ?_
  refine z_bipush dX2_between_11 (by decide) (by decide) ?_
  obtain ⟨q4, hs⟩ := hs
  refine z_callS (As := [z_i (w (o0 + 5) ((x1 * 10) + x2)), z_i 64]) (rest := []) zmJ9_floorDiv_7cf53 ztJ9_floorDiv_7cf53 zlRX2_111 ⟨Nat.le_of_ble_eq_true rfl, Nat.le_of_ble_eq_true rfl⟩ dX2_between_13 rfl rfl (z_ai (z_ai z_a0)) (Nat.le_of_ble_eq_true rfl) (Nat.le_of_ble_eq_true rfl) ⟨rfl, rfl⟩ ?_
  refine t_J9_floorDiv_7cf53  q4 ?_
  show z_Sem mX2_between (sh.length, 0) 16 [(0, z_r o0), (1, z_i x1), (2, z_i x2)] [z_i (f_J9_floorDiv_7cf53 w (w (o0 + 5) ((x1 * 10) + x2)) 64)] (sh, w) Q
  exact z_ret (v := some (z_i (f_J9_floorDiv_7cf53 w (w (o0 + 5) ((x1 * 10) + x2)) 64))) dX2_between_16 ⟨rfl, Or.inl rfl⟩ rfl h
def f_J9_floorMod_7cf53 (w : Nat → Int → Int) (x0 : Int) (x1 : Int) : Int := if 0 ≤ (z_xor x0 x1) then x0.tmod x1 else if (x0.tmod x1) = 0 then x0.tmod x1 else (x0.tmod x1) + x1
def s_J9_floorMod_7cf53 (w : Nat → Int → Int) (x0 : Int) (x1 : Int) : Prop := ((0 : Int) < x1) ∧ (¬ 0 ≤ (z_xor x0 x1) → (¬ (x0.tmod x1) = 0 → (z_R ((x0.tmod x1) + x1)) ∧ True) ∧ True) ∧ True
set_option maxRecDepth 100000 in
theorem t_J9_floorMod_7cf53 {sh : List z_C} {w : Nat → Int → Int} {Q : Option z_V → z_S → Prop} {x0 : Int} {x1 : Int}  (hs : s_J9_floorMod_7cf53 w x0 x1) (h : Q (some (z_i (f_J9_floorMod_7cf53 w x0 x1))) (sh, w)) : z_Sem mJ9_floorMod_7cf53 (sh.length, 0) 0 [(0, z_i x0), (1, z_i x1)] [] (sh, w) Q := by
  unfold f_J9_floorMod_7cf53 at h
  unfold s_J9_floorMod_7cf53 at hs
  refine z_iload_n 0 dJ9_floorMod_7cf53_0 rfl rfl ?_
  refine z_iload_n 1 dJ9_floorMod_7cf53_1 rfl rfl ?_
  obtain ⟨q1, hs⟩ := hs
  refine z_irem dJ9_floorMod_7cf53_2 q1 ?_
  refine z_istore_n (L' := [(2, z_i (x0.tmod x1)), (0, z_i x0), (1, z_i x1)]) dJ9_floorMod_7cf53_3 rfl (by decide) rfl ?_
  refine z_iload_n 1 dJ9_floorMod_7cf53_4 rfl rfl ?_
  refine z_iload_n 2 dJ9_floorMod_7cf53_5 rfl rfl ?_
  refine z_ixor dJ9_floorMod_7cf53_6 ?_
  obtain ⟨m6, hs⟩ := hs
  refine z_if_ge (tgt := 18) dJ9_floorMod_7cf53_7 (by decide) (fun c2 => ?_) (fun c2 => ?_)
  · skip
    rw [if_pos c2] at h
    refine z_iload_n 0 dJ9_floorMod_7cf53_18 rfl rfl ?_
    exact z_ret (v := some (z_i (x0.tmod x1))) dJ9_floorMod_7cf53_19 ⟨rfl, Or.inl rfl⟩ rfl h
  · skip
    rw [if_neg c2] at h
    replace hs := m6 c2
    refine z_iload_n 0 dJ9_floorMod_7cf53_10 rfl rfl ?_
    obtain ⟨m5, hs⟩ := hs
    refine z_if_eq (tgt := 18) dJ9_floorMod_7cf53_11 (by decide) (fun c3 => ?_) (fun c3 => ?_)
    · skip
      rw [if_pos c3] at h
      refine z_iload_n 0 dJ9_floorMod_7cf53_18 rfl rfl ?_
      exact z_ret (v := some (z_i (x0.tmod x1))) dJ9_floorMod_7cf53_19 ⟨rfl, Or.inl rfl⟩ rfl h
    · skip
      rw [if_neg c3] at h
      replace hs := m5 c3
      refine z_iload_n 0 dJ9_floorMod_7cf53_14 rfl rfl ?_
      refine z_iload_n 2 dJ9_floorMod_7cf53_15 rfl rfl ?_
      obtain ⟨q4, hs⟩ := hs
      refine z_iadd dJ9_floorMod_7cf53_16 q4 ?_
      exact z_ret (v := some (z_i ((x0.tmod x1) + x1))) dJ9_floorMod_7cf53_17 ⟨rfl, Or.inl rfl⟩ rfl h
def f_X2_stepsBetween (w : Nat → Int → Int) (o0 : Nat) (x1 : Int) (x2 : Int) : Int := f_J9_floorMod_7cf53 w (w (o0 + 5) ((x1 * 10) + x2)) 64
def s_X2_stepsBetween (w : Nat → Int → Int) (o0 : Nat) (x1 : Int) (x2 : Int) : Prop := (z_R (x1 * 10)) ∧ (z_R ((x1 * 10) + x2)) ∧ ((0 : Int) ≤ ((x1 * 10) + x2) ∧ ((x1 * 10) + x2) < 100) ∧ (s_J9_floorMod_7cf53 w (w (o0 + 5) ((x1 * 10) + x2)) 64) ∧ True
set_option maxRecDepth 100000 in
theorem t_X2_stepsBetween {sh : List z_C} {w : Nat → Int → Int} {Q : Option z_V → z_S → Prop} {o0 : Nat} {x1 : Int} {x2 : Int} (hh0 : z_isNet sh o0) (hs : s_X2_stepsBetween w o0 x1 x2) (h : Q (some (z_i (f_X2_stepsBetween w o0 x1 x2))) (sh, w)) : z_Sem mX2_stepsBetween (sh.length, 0) 0 [(0, z_r o0), (1, z_i x1), (2, z_i x2)] [] (sh, w) Q := by
  unfold f_X2_stepsBetween at h
  unfold s_X2_stepsBetween at hs
  refine z_aload_n 0 dX2_stepsBetween_0 rfl rfl ?_
  refine z_getR (r := (o0 + 5)) zfRX2_24 dX2_stepsBetween_1 hh0.1 rfl ?_
  refine z_iload_n 1 dX2_stepsBetween_4 rfl rfl ?_
  refine z_bipush dX2_stepsBetween_5 (by decide) (by decide) ?_
  obtain ⟨q1, hs⟩ := hs
  refine z_imul dX2_stepsBetween_7 q1 ?_
  refine z_iload_n 2 dX2_stepsBetween_8 rfl rfl ?_
  obtain ⟨q2, hs⟩ := hs
  refine z_iadd dX2_stepsBetween_9 q2 ?_
  obtain ⟨q3, hs⟩ := hs
  refine z_iald dX2_stepsBetween_10 hh0.2.2.2.2.2 q3 ?_
  refine z_bipush dX2_stepsBetween_11 (by decide) (by decide) ?_
  obtain ⟨q4, hs⟩ := hs
  refine z_callS (As := [z_i (w (o0 + 5) ((x1 * 10) + x2)), z_i 64]) (rest := []) zmJ9_floorMod_7cf53 ztJ9_floorMod_7cf53 zlRX2_114 ⟨Nat.le_of_ble_eq_true rfl, Nat.le_of_ble_eq_true rfl⟩ dX2_stepsBetween_13 rfl rfl (z_ai (z_ai z_a0)) (Nat.le_of_ble_eq_true rfl) (Nat.le_of_ble_eq_true rfl) ⟨rfl, rfl⟩ ?_
  refine t_J9_floorMod_7cf53  q4 ?_
  show z_Sem mX2_stepsBetween (sh.length, 0) 16 [(0, z_r o0), (1, z_i x1), (2, z_i x2)] [z_i (f_J9_floorMod_7cf53 w (w (o0 + 5) ((x1 * 10) + x2)) 64)] (sh, w) Q
  exact z_ret (v := some (z_i (f_J9_floorMod_7cf53 w (w (o0 + 5) ((x1 * 10) + x2)) 64))) dX2_stepsBetween_16 ⟨rfl, Or.inl rfl⟩ rfl h
def f_X2_earliest (w : Nat → Int → Int) (o0 : Nat) (x1 : Int) : Int := -(f_X2_between w o0 x1 0)
def s_X2_earliest (w : Nat → Int → Int) (o0 : Nat) (x1 : Int) : Prop := (s_X2_between w o0 x1 0) ∧ (z_R (-(f_X2_between w o0 x1 0))) ∧ True
set_option maxRecDepth 100000 in
theorem t_X2_earliest {sh : List z_C} {w : Nat → Int → Int} {Q : Option z_V → z_S → Prop} {o0 : Nat} {x1 : Int} (hh0 : z_isNet sh o0) (hs : s_X2_earliest w o0 x1) (h : Q (some (z_i (f_X2_earliest w o0 x1))) (sh, w)) : z_Sem mX2_earliest (sh.length, 0) 0 [(0, z_r o0), (1, z_i x1)] [] (sh, w) Q := by
  unfold f_X2_earliest at h
  unfold s_X2_earliest at hs
  refine z_aload_n 0 dX2_earliest_0 rfl rfl ?_
  refine z_iload_n 1 dX2_earliest_1 rfl rfl ?_
  refine z_iconst dX2_earliest_2 (by decide) ?_
  obtain ⟨q1, hs⟩ := hs
  refine z_callV (As := [z_i x1, z_i 0]) (rest := []) zmX2_between znX2_between zsX2_between (show z_Cl[2]? = some (RX2, TX2, 7) from rfl) zlRX2_117 ⟨Nat.le_of_ble_eq_true rfl, Nat.le_of_ble_eq_true rfl⟩ dX2_earliest_3 hh0.1 rfl rfl (z_ai (z_ai z_a0)) (Nat.le_of_ble_eq_true rfl) (Nat.le_of_ble_eq_true rfl) ⟨rfl, rfl⟩ ?_
  refine t_X2_between hh0 q1 ?_
  show z_Sem mX2_earliest (sh.length, 0) 6 [(0, z_r o0), (1, z_i x1)] [z_i (f_X2_between w o0 x1 0)] (sh, w) Q
  obtain ⟨q2, hs⟩ := hs
  refine z_ineg dX2_earliest_6 q2 ?_
  exact z_ret (v := some (z_i (-(f_X2_between w o0 x1 0)))) dX2_earliest_7 ⟨rfl, Or.inl rfl⟩ rfl h
def f_X2_latest (w : Nat → Int → Int) (o0 : Nat) (x1 : Int) : Int := f_X2_between w o0 0 x1
def s_X2_latest (w : Nat → Int → Int) (o0 : Nat) (x1 : Int) : Prop := (s_X2_between w o0 0 x1) ∧ True
set_option maxRecDepth 100000 in
theorem t_X2_latest {sh : List z_C} {w : Nat → Int → Int} {Q : Option z_V → z_S → Prop} {o0 : Nat} {x1 : Int} (hh0 : z_isNet sh o0) (hs : s_X2_latest w o0 x1) (h : Q (some (z_i (f_X2_latest w o0 x1))) (sh, w)) : z_Sem mX2_latest (sh.length, 0) 0 [(0, z_r o0), (1, z_i x1)] [] (sh, w) Q := by
  unfold f_X2_latest at h
  unfold s_X2_latest at hs
  refine z_aload_n 0 dX2_latest_0 rfl rfl ?_
  refine z_iconst dX2_latest_1 (by decide) ?_
  refine z_iload_n 1 dX2_latest_2 rfl rfl ?_
  obtain ⟨q1, hs⟩ := hs
  refine z_callV (As := [z_i 0, z_i x1]) (rest := []) zmX2_between znX2_between zsX2_between (show z_Cl[2]? = some (RX2, TX2, 7) from rfl) zlRX2_117 ⟨Nat.le_of_ble_eq_true rfl, Nat.le_of_ble_eq_true rfl⟩ dX2_latest_3 hh0.1 rfl rfl (z_ai (z_ai z_a0)) (Nat.le_of_ble_eq_true rfl) (Nat.le_of_ble_eq_true rfl) ⟨rfl, rfl⟩ ?_
  refine t_X2_between hh0 q1 ?_
  show z_Sem mX2_latest (sh.length, 0) 6 [(0, z_r o0), (1, z_i x1)] [z_i (f_X2_between w o0 0 x1)] (sh, w) Q
  exact z_ret (v := some (z_i (f_X2_between w o0 0 x1))) dX2_latest_6 ⟨rfl, Or.inl rfl⟩ rfl h
def f_X2_possibleTimes (w : Nat → Int → Int) (o0 : Nat) (x1 : Int) : Int := ((f_X2_latest w o0 x1) - (f_X2_earliest w o0 x1)) + 1
def s_X2_possibleTimes (w : Nat → Int → Int) (o0 : Nat) (x1 : Int) : Prop := (s_X2_latest w o0 x1) ∧ (s_X2_earliest w o0 x1) ∧ (z_R ((f_X2_latest w o0 x1) - (f_X2_earliest w o0 x1))) ∧ (z_R (((f_X2_latest w o0 x1) - (f_X2_earliest w o0 x1)) + 1)) ∧ True
set_option maxRecDepth 100000 in
theorem t_X2_possibleTimes {sh : List z_C} {w : Nat → Int → Int} {Q : Option z_V → z_S → Prop} {o0 : Nat} {x1 : Int} (hh0 : z_isNet sh o0) (hs : s_X2_possibleTimes w o0 x1) (h : Q (some (z_i (f_X2_possibleTimes w o0 x1))) (sh, w)) : z_Sem mX2_possibleTimes (sh.length, 0) 0 [(0, z_r o0), (1, z_i x1)] [] (sh, w) Q := by
  unfold f_X2_possibleTimes at h
  unfold s_X2_possibleTimes at hs
  refine z_aload_n 0 dX2_possibleTimes_0 rfl rfl ?_
  refine z_iload_n 1 dX2_possibleTimes_1 rfl rfl ?_
  obtain ⟨q1, hs⟩ := hs
  refine z_callV (As := [z_i x1]) (rest := []) zmX2_latest znX2_latest zsX2_latest (show z_Cl[2]? = some (RX2, TX2, 7) from rfl) zlRX2_120 ⟨Nat.le_of_ble_eq_true rfl, Nat.le_of_ble_eq_true rfl⟩ dX2_possibleTimes_2 hh0.1 rfl rfl (z_ai z_a0) (Nat.le_of_ble_eq_true rfl) (Nat.le_of_ble_eq_true rfl) ⟨rfl, rfl⟩ ?_
  refine t_X2_latest hh0 q1 ?_
  show z_Sem mX2_possibleTimes (sh.length, 0) 5 [(0, z_r o0), (1, z_i x1)] [z_i (f_X2_latest w o0 x1)] (sh, w) Q
  refine z_aload_n 0 dX2_possibleTimes_5 rfl rfl ?_
  refine z_iload_n 1 dX2_possibleTimes_6 rfl rfl ?_
  obtain ⟨q2, hs⟩ := hs
  refine z_callV (As := [z_i x1]) (rest := [z_i (f_X2_latest w o0 x1)]) zmX2_earliest znX2_earliest zsX2_earliest (show z_Cl[2]? = some (RX2, TX2, 7) from rfl) zlRX2_123 ⟨Nat.le_of_ble_eq_true rfl, Nat.le_of_ble_eq_true rfl⟩ dX2_possibleTimes_7 hh0.1 rfl rfl (z_ai z_a0) (Nat.le_of_ble_eq_true rfl) (Nat.le_of_ble_eq_true rfl) ⟨rfl, rfl⟩ ?_
  refine t_X2_earliest hh0 q2 ?_
  show z_Sem mX2_possibleTimes (sh.length, 0) 10 [(0, z_r o0), (1, z_i x1)] [z_i (f_X2_earliest w o0 x1), z_i (f_X2_latest w o0 x1)] (sh, w) Q
  obtain ⟨q3, hs⟩ := hs
  refine z_isub dX2_possibleTimes_10 q3 ?_
  refine z_iconst dX2_possibleTimes_11 (by decide) ?_
  obtain ⟨q4, hs⟩ := hs
  refine z_iadd dX2_possibleTimes_12 q4 ?_
  exact z_ret (v := some (z_i (((f_X2_latest w o0 x1) - (f_X2_earliest w o0 x1)) + 1))) dX2_possibleTimes_13 ⟨rfl, Or.inl rfl⟩ rfl h
def f_X2_allows (w : Nat → Int → Int) (o0 : Nat) (x1 : Int) (x2 : Int) : Int := if x2 < (f_X2_earliest w o0 x1) then 0 else if (f_X2_latest w o0 x1) < x2 then 0 else 1
def s_X2_allows (w : Nat → Int → Int) (o0 : Nat) (x1 : Int) (x2 : Int) : Prop := (s_X2_earliest w o0 x1) ∧ (¬ x2 < (f_X2_earliest w o0 x1) → (s_X2_latest w o0 x1) ∧ True) ∧ True
set_option maxRecDepth 100000 in
theorem t_X2_allows {sh : List z_C} {w : Nat → Int → Int} {Q : Option z_V → z_S → Prop} {o0 : Nat} {x1 : Int} {x2 : Int} (hh0 : z_isNet sh o0) (hs : s_X2_allows w o0 x1 x2) (h : Q (some (z_i (f_X2_allows w o0 x1 x2))) (sh, w)) : z_Sem mX2_allows (sh.length, 0) 0 [(0, z_r o0), (1, z_i x1), (2, z_i x2)] [] (sh, w) Q := by
  unfold f_X2_allows at h
  unfold s_X2_allows at hs
  refine z_iload_n 2 dX2_allows_0 rfl rfl ?_
  refine z_aload_n 0 dX2_allows_1 rfl rfl ?_
  refine z_iload_n 1 dX2_allows_2 rfl rfl ?_
  obtain ⟨q1, hs⟩ := hs
  refine z_callV (As := [z_i x1]) (rest := [z_i x2]) zmX2_earliest znX2_earliest zsX2_earliest (show z_Cl[2]? = some (RX2, TX2, 7) from rfl) zlRX2_123 ⟨Nat.le_of_ble_eq_true rfl, Nat.le_of_ble_eq_true rfl⟩ dX2_allows_3 hh0.1 rfl rfl (z_ai z_a0) (Nat.le_of_ble_eq_true rfl) (Nat.le_of_ble_eq_true rfl) ⟨rfl, rfl⟩ ?_
  refine t_X2_earliest hh0 q1 ?_
  show z_Sem mX2_allows (sh.length, 0) 6 [(0, z_r o0), (1, z_i x1), (2, z_i x2)] [z_i (f_X2_earliest w o0 x1), z_i x2] (sh, w) Q
  obtain ⟨m4, hs⟩ := hs
  suffices hJ2 : z_Sem mX2_allows (sh.length, 0) 23 [] [z_i (if x2 < (f_X2_earliest w o0 x1) then 0 else if (f_X2_latest w o0 x1) < x2 then 0 else 1)] (sh, w) Q by
    refine z_icmp_lt (tgt := 22) dX2_allows_6 (by decide) (fun c3 => ?_) (fun c3 => ?_)
    · skip
      refine z_iconst dX2_allows_22 (by decide) ?_
      refine z_sub (L' := []) [] rfl ?_
      simp only [if_pos c3] at hJ2
      exact hJ2
    · skip
      have ho6 := m4 c3
      refine z_iload_n 2 dX2_allows_9 rfl rfl ?_
      refine z_aload_n 0 dX2_allows_10 rfl rfl ?_
      refine z_iload_n 1 dX2_allows_11 rfl rfl ?_
      obtain ⟨q7, ho6⟩ := ho6
      refine z_callV (As := [z_i x1]) (rest := [z_i x2]) zmX2_latest znX2_latest zsX2_latest (show z_Cl[2]? = some (RX2, TX2, 7) from rfl) zlRX2_120 ⟨Nat.le_of_ble_eq_true rfl, Nat.le_of_ble_eq_true rfl⟩ dX2_allows_12 hh0.1 rfl rfl (z_ai z_a0) (Nat.le_of_ble_eq_true rfl) (Nat.le_of_ble_eq_true rfl) ⟨rfl, rfl⟩ ?_
      refine t_X2_latest hh0 q7 ?_
      show z_Sem mX2_allows (sh.length, 0) 15 [(0, z_r o0), (1, z_i x1), (2, z_i x2)] [z_i (f_X2_latest w o0 x1), z_i x2] (sh, w) Q
      suffices hJ8 : z_Sem mX2_allows (sh.length, 0) 23 [] [z_i (if (f_X2_latest w o0 x1) < x2 then 0 else 1)] (sh, w) Q by
        refine z_icmp_gt (tgt := 22) dX2_allows_15 (by decide) (fun c9 => ?_) (fun c9 => ?_)
        · skip
          refine z_iconst dX2_allows_22 (by decide) ?_
          refine z_sub (L' := []) [] rfl ?_
          simp only [if_pos c9] at hJ8
          exact hJ8
        · skip
          refine z_iconst dX2_allows_18 (by decide) ?_
          refine z_goto (tgt := 23) dX2_allows_19 (by decide) ?_
          refine z_sub (L' := []) [] rfl ?_
          simp only [if_neg c9] at hJ8
          exact hJ8
      simp only [if_neg c3] at hJ2
      exact hJ2
  exact z_ret (v := some (z_i (if x2 < (f_X2_earliest w o0 x1) then 0 else if (f_X2_latest w o0 x1) < x2 then 0 else 1))) dX2_allows_23 ⟨rfl, Or.inr (Or.inl ⟨rfl, (z_it01 (by decide) (z_it01 (by decide) (by decide)))⟩)⟩ rfl h
def f_X2_leastRing (w : Nat → Int → Int) (o0 : Nat) (x1 : Int) (x2 : Int) (x3 : Int) (x4 : Int) : Int := (f_X8_stepLength w x3 x4) + (f_X2_between w o0 (f_X8_stepFinish w x1 x2 x3) (f_X8_stepBegin w x1 x2 x3))
def s_X2_leastRing (w : Nat → Int → Int) (o0 : Nat) (x1 : Int) (x2 : Int) (x3 : Int) (x4 : Int) : Prop := (s_X2_between w o0 (f_X8_stepFinish w x1 x2 x3) (f_X8_stepBegin w x1 x2 x3)) ∧ (s_X8_stepLength w x3 x4) ∧ (z_R ((f_X8_stepLength w x3 x4) + (f_X2_between w o0 (f_X8_stepFinish w x1 x2 x3) (f_X8_stepBegin w x1 x2 x3)))) ∧ True
set_option maxRecDepth 100000 in
theorem t_X2_leastRing {sh : List z_C} {w : Nat → Int → Int} {Q : Option z_V → z_S → Prop} {o0 : Nat} {x1 : Int} {x2 : Int} {x3 : Int} {x4 : Int} (hh0 : z_isNet sh o0) (hs : s_X2_leastRing w o0 x1 x2 x3 x4) (h : Q (some (z_i (f_X2_leastRing w o0 x1 x2 x3 x4))) (sh, w)) : z_Sem mX2_leastRing (sh.length, 0) 0 [(0, z_r o0), (1, z_i x1), (2, z_i x2), (3, z_i x3), (4, z_i x4)] [] (sh, w) Q := by
  unfold f_X2_leastRing at h
  unfold s_X2_leastRing at hs
  refine z_aload_n 0 dX2_leastRing_0 rfl rfl ?_
  refine z_iload_n 1 dX2_leastRing_1 rfl rfl ?_
  refine z_iload_n 2 dX2_leastRing_2 rfl rfl ?_
  refine z_iload_n 3 dX2_leastRing_3 rfl rfl ?_
  refine z_callS (As := [z_i x1, z_i x2, z_i x3]) (rest := [z_r o0]) zmX8_stepFinish ztX8_stepFinish zlRX2_67 ⟨Nat.le_of_ble_eq_true rfl, Nat.le_of_ble_eq_true rfl⟩ dX2_leastRing_4 rfl rfl (z_ai (z_ai (z_ai z_a0))) (Nat.le_of_ble_eq_true rfl) (Nat.le_of_ble_eq_true rfl) ⟨rfl, rfl⟩ ?_
  refine t_X8_stepFinish  ?_
  show z_Sem mX2_leastRing (sh.length, 0) 7 [(0, z_r o0), (1, z_i x1), (2, z_i x2), (3, z_i x3), (4, z_i x4)] [z_i (f_X8_stepFinish w x1 x2 x3), z_r o0] (sh, w) Q
  refine z_iload_n 1 dX2_leastRing_7 rfl rfl ?_
  refine z_iload_n 2 dX2_leastRing_8 rfl rfl ?_
  refine z_iload_n 3 dX2_leastRing_9 rfl rfl ?_
  refine z_callS (As := [z_i x1, z_i x2, z_i x3]) (rest := [z_i (f_X8_stepFinish w x1 x2 x3), z_r o0]) zmX8_stepBegin ztX8_stepBegin zlRX2_63 ⟨Nat.le_of_ble_eq_true rfl, Nat.le_of_ble_eq_true rfl⟩ dX2_leastRing_10 rfl rfl (z_ai (z_ai (z_ai z_a0))) (Nat.le_of_ble_eq_true rfl) (Nat.le_of_ble_eq_true rfl) ⟨rfl, rfl⟩ ?_
  refine t_X8_stepBegin  ?_
  show z_Sem mX2_leastRing (sh.length, 0) 13 [(0, z_r o0), (1, z_i x1), (2, z_i x2), (3, z_i x3), (4, z_i x4)] [z_i (f_X8_stepBegin w x1 x2 x3), z_i (f_X8_stepFinish w x1 x2 x3), z_r o0] (sh, w) Q
  obtain ⟨q1, hs⟩ := hs
  refine z_callV (As := [z_i (f_X8_stepFinish w x1 x2 x3), z_i (f_X8_stepBegin w x1 x2 x3)]) (rest := []) zmX2_between znX2_between zsX2_between (show z_Cl[2]? = some (RX2, TX2, 7) from rfl) zlRX2_117 ⟨Nat.le_of_ble_eq_true rfl, Nat.le_of_ble_eq_true rfl⟩ dX2_leastRing_13 hh0.1 rfl rfl (z_ai (z_ai z_a0)) (Nat.le_of_ble_eq_true rfl) (Nat.le_of_ble_eq_true rfl) ⟨rfl, rfl⟩ ?_
  refine t_X2_between hh0 q1 ?_
  show z_Sem mX2_leastRing (sh.length, 0) 16 [(0, z_r o0), (1, z_i x1), (2, z_i x2), (3, z_i x3), (4, z_i x4)] [z_i (f_X2_between w o0 (f_X8_stepFinish w x1 x2 x3) (f_X8_stepBegin w x1 x2 x3))] (sh, w) Q
  refine z_istore (L' := [(5, z_i (f_X2_between w o0 (f_X8_stepFinish w x1 x2 x3) (f_X8_stepBegin w x1 x2 x3))), (0, z_r o0), (1, z_i x1), (2, z_i x2), (3, z_i x3), (4, z_i x4)]) dX2_leastRing_16 (by decide) rfl ?_
  refine z_iload_n 4 dX2_leastRing_18 rfl rfl ?_
  refine z_iload 5 dX2_leastRing_19 rfl ?_
  obtain ⟨q2, hs⟩ := hs
  refine z_callS (As := [z_i x3, z_i x4]) (rest := []) zmX8_stepLength ztX8_stepLength zlRX2_73 ⟨Nat.le_of_ble_eq_true rfl, Nat.le_of_ble_eq_true rfl⟩ dX2_leastRing_21 rfl rfl (z_ai (z_ai z_a0)) (Nat.le_of_ble_eq_true rfl) (Nat.le_of_ble_eq_true rfl) ⟨rfl, rfl⟩ ?_
  refine t_X8_stepLength  q2 ?_
  show z_Sem mX2_leastRing (sh.length, 0) 24 [(5, z_i (f_X2_between w o0 (f_X8_stepFinish w x1 x2 x3) (f_X8_stepBegin w x1 x2 x3))), (0, z_r o0), (1, z_i x1), (2, z_i x2), (3, z_i x3), (4, z_i x4)] [z_i (f_X8_stepLength w x3 x4)] (sh, w) Q
  refine z_iload 0 dX2_leastRing_24 rfl ?_
  obtain ⟨q3, hs⟩ := hs
  refine z_iadd dX2_leastRing_26 q3 ?_
  exact z_ret (v := some (z_i ((f_X8_stepLength w x3 x4) + (f_X2_between w o0 (f_X8_stepFinish w x1 x2 x3) (f_X8_stepBegin w x1 x2 x3))))) dX2_leastRing_27 ⟨rfl, Or.inl rfl⟩ rfl h
set_option maxRecDepth 100000 in
theorem t_X2_oneStepDenies {sh : List z_C} {w : Nat → Int → Int} {Q : Option z_V → z_S → Prop} {o0 : Nat} {x1 : Int} {x2 : Int} {x3 : Int} {x4 : Int} (hh0 : z_isNet sh o0) (h : ∀ y1 : Int, y1 = (f_X8_stepBegin w x1 x2 x3) → ∀ y2 : Int, y2 = (f_X8_stepFinish w x1 x2 x3) → z_Sem mX2_oneStepDenies (sh.length, 0) 19 [(0, z_r o0), (3, z_i x3), (4, z_i x4), (5, z_i y1), (6, z_i y2), (7, z_i 0)] [] (sh, w) Q) : z_Sem mX2_oneStepDenies (sh.length, 0) 0 [(0, z_r o0), (1, z_i x1), (2, z_i x2), (3, z_i x3), (4, z_i x4)] [] (sh, w) Q := by
  refine z_iload_n 1 dX2_oneStepDenies_0 rfl rfl ?_
  refine z_iload_n 2 dX2_oneStepDenies_1 rfl rfl ?_
  refine z_iload_n 3 dX2_oneStepDenies_2 rfl rfl ?_
  refine z_callS (As := [z_i x1, z_i x2, z_i x3]) (rest := []) zmX8_stepBegin ztX8_stepBegin zlRX2_63 ⟨Nat.le_of_ble_eq_true rfl, Nat.le_of_ble_eq_true rfl⟩ dX2_oneStepDenies_3 rfl rfl (z_ai (z_ai (z_ai z_a0))) (Nat.le_of_ble_eq_true rfl) (Nat.le_of_ble_eq_true rfl) ⟨rfl, rfl⟩ ?_
  refine t_X8_stepBegin  ?_
  show z_Sem mX2_oneStepDenies (sh.length, 0) 6 [(0, z_r o0), (1, z_i x1), (2, z_i x2), (3, z_i x3), (4, z_i x4)] [z_i (f_X8_stepBegin w x1 x2 x3)] (sh, w) Q
  refine z_nam (fun y1 hy1 => ?_)
  replace h := h y1 hy1
  refine z_istore (L' := [(5, z_i y1), (0, z_r o0), (1, z_i x1), (2, z_i x2), (3, z_i x3), (4, z_i x4)]) dX2_oneStepDenies_6 (by decide) rfl ?_
  refine z_iload_n 2 dX2_oneStepDenies_8 rfl rfl ?_
  refine z_iload_n 3 dX2_oneStepDenies_9 rfl rfl ?_
  refine z_iload_n 4 dX2_oneStepDenies_10 rfl rfl ?_
  refine z_callS (As := [z_i x1, z_i x2, z_i x3]) (rest := []) zmX8_stepFinish ztX8_stepFinish zlRX2_67 ⟨Nat.le_of_ble_eq_true rfl, Nat.le_of_ble_eq_true rfl⟩ dX2_oneStepDenies_11 rfl rfl (z_ai (z_ai (z_ai z_a0))) (Nat.le_of_ble_eq_true rfl) (Nat.le_of_ble_eq_true rfl) ⟨rfl, rfl⟩ ?_
  refine t_X8_stepFinish  ?_
  show z_Sem mX2_oneStepDenies (sh.length, 0) 14 [(5, z_i y1), (0, z_r o0), (1, z_i x1), (2, z_i x2), (3, z_i x3), (4, z_i x4)] [z_i (f_X8_stepFinish w x1 x2 x3)] (sh, w) Q
  refine z_nam (fun y2 hy2 => ?_)
  replace h := h y2 hy2
  refine z_istore (L' := [(6, z_i y2), (5, z_i y1), (0, z_r o0), (1, z_i x1), (2, z_i x2), (3, z_i x3), (4, z_i x4)]) dX2_oneStepDenies_14 (by decide) rfl ?_
  refine z_iconst dX2_oneStepDenies_16 (by decide) ?_
  refine z_istore (L' := [(7, z_i 0), (6, z_i y2), (5, z_i y1), (0, z_r o0), (1, z_i x1), (2, z_i x2), (3, z_i x3), (4, z_i x4)]) dX2_oneStepDenies_17 (by decide) rfl ?_
  refine z_sub (L' := [(0, z_r o0), (3, z_i x3), (4, z_i x4), (5, z_i y1), (6, z_i y2), (7, z_i 0)]) [3, 6, 7, 2, 1, 0] rfl ?_
  exact h
set_option maxRecDepth 100000 in
theorem t_X2_oneStepDenies_19 {sh : List z_C} {w : Nat → Int → Int} {Q : Option z_V → z_S → Prop} {o0 : Nat} {x3 : Int} {x4 : Int} {x5 : Int} {x6 : Int} {x7 : Int} (hh0 : z_isNet sh o0) (h : (((w o0 5) ≤ x7 → Q (some (z_i 0)) (sh, w)) ∧ (¬ (w o0 5) ≤ x7 → ((0 : Int) ≤ x7 ∧ x7 < 60) ∧ (((w (o0 + 1) x7) = x6 → ((0 : Int) ≤ x7 ∧ x7 < 60) ∧ (((w (o0 + 2) x7) = x5 → ((0 : Int) ≤ x7 ∧ x7 < 60) ∧ (s_X8_stepLength w x3 x4) ∧ (z_R ((w (o0 + 3) x7) + (f_X8_stepLength w x3 x4))) ∧ ((0 ≤ ((w (o0 + 3) x7) + (f_X8_stepLength w x3 x4)) → (z_R (x7 + 1)) ∧ z_Sem mX2_oneStepDenies (sh.length, 0) 19 [(0, z_r o0), (3, z_i x3), (4, z_i x4), (5, z_i x5), (6, z_i x6), (7, z_i (x7 + 1))] [] (sh, w) Q) ∧ (¬ 0 ≤ ((w (o0 + 3) x7) + (f_X8_stepLength w x3 x4)) → Q (some (z_i 1)) (sh, w)))) ∧ (¬ (w (o0 + 2) x7) = x5 → (z_R (x7 + 1)) ∧ z_Sem mX2_oneStepDenies (sh.length, 0) 19 [(0, z_r o0), (3, z_i x3), (4, z_i x4), (5, z_i x5), (6, z_i x6), (7, z_i (x7 + 1))] [] (sh, w) Q))) ∧ (¬ (w (o0 + 1) x7) = x6 → (z_R (x7 + 1)) ∧ z_Sem mX2_oneStepDenies (sh.length, 0) 19 [(0, z_r o0), (3, z_i x3), (4, z_i x4), (5, z_i x5), (6, z_i x6), (7, z_i (x7 + 1))] [] (sh, w) Q))))) : z_Sem mX2_oneStepDenies (sh.length, 0) 19 [(0, z_r o0), (3, z_i x3), (4, z_i x4), (5, z_i x5), (6, z_i x6), (7, z_i x7)] [] (sh, w) Q := by
  refine z_iload 5 dX2_oneStepDenies_19 rfl ?_
  refine z_aload_n 0 dX2_oneStepDenies_21 rfl rfl ?_
  refine z_getI (ki := 5) zfRX2_44 dX2_oneStepDenies_22 hh0.1 rfl rfl ?_
  refine z_icmp_ge (tgt := 77) dX2_oneStepDenies_25 (by decide) (fun c1 => ?_) (fun c1 => ?_)
  · replace h := h.1 c1
    refine z_iconst dX2_oneStepDenies_77 (by decide) ?_
    exact z_ret (v := some (z_i 0)) dX2_oneStepDenies_78 ⟨rfl, Or.inr (Or.inl ⟨rfl, (by decide)⟩)⟩ rfl h
  · replace h := h.2 c1
    refine z_aload_n 0 dX2_oneStepDenies_28 rfl rfl ?_
    refine z_getR (r := (o0 + 1)) zfRX2_9 dX2_oneStepDenies_29 hh0.1 rfl ?_
    refine z_iload 5 dX2_oneStepDenies_32 rfl ?_
    obtain ⟨q2, h⟩ := h
    refine z_iald dX2_oneStepDenies_34 hh0.2.1 q2 ?_
    refine z_iload 4 dX2_oneStepDenies_35 rfl ?_
    refine z_icmp_ne (tgt := 71) dX2_oneStepDenies_37 (by decide) (fun c3 => ?_) (fun c3 => ?_)
    · replace h := h.2 c3
      obtain ⟨q4, h⟩ := h
      refine z_iinc (L' := [(7, z_i (x7 + 1)), (0, z_r o0), (3, z_i x3), (4, z_i x4), (5, z_i x5), (6, z_i x6)]) 5 dX2_oneStepDenies_71 rfl (by decide) rfl q4 ?_
      refine z_goto (tgt := 19) dX2_oneStepDenies_74 (by decide) ?_
      refine z_sub (L' := [(0, z_r o0), (3, z_i x3), (4, z_i x4), (5, z_i x5), (6, z_i x6), (7, z_i (x7 + 1))]) [1, 2, 3, 4, 5, 0] rfl ?_
      exact h
    · replace h := h.1 c3
      refine z_aload_n 0 dX2_oneStepDenies_40 rfl rfl ?_
      refine z_getR (r := (o0 + 2)) zfRX2_15 dX2_oneStepDenies_41 hh0.1 rfl ?_
      refine z_iload 5 dX2_oneStepDenies_44 rfl ?_
      obtain ⟨q5, h⟩ := h
      refine z_iald dX2_oneStepDenies_46 hh0.2.2.1 q5 ?_
      refine z_iload 3 dX2_oneStepDenies_47 rfl ?_
      refine z_icmp_ne (tgt := 71) dX2_oneStepDenies_49 (by decide) (fun c6 => ?_) (fun c6 => ?_)
      · replace h := h.2 c6
        obtain ⟨q7, h⟩ := h
        refine z_iinc (L' := [(7, z_i (x7 + 1)), (0, z_r o0), (3, z_i x3), (4, z_i x4), (5, z_i x5), (6, z_i x6)]) 5 dX2_oneStepDenies_71 rfl (by decide) rfl q7 ?_
        refine z_goto (tgt := 19) dX2_oneStepDenies_74 (by decide) ?_
        refine z_sub (L' := [(0, z_r o0), (3, z_i x3), (4, z_i x4), (5, z_i x5), (6, z_i x6), (7, z_i (x7 + 1))]) [1, 2, 3, 4, 5, 0] rfl ?_
        exact h
      · replace h := h.1 c6
        refine z_aload_n 0 dX2_oneStepDenies_52 rfl rfl ?_
        refine z_getR (r := (o0 + 3)) zfRX2_18 dX2_oneStepDenies_53 hh0.1 rfl ?_
        refine z_iload 5 dX2_oneStepDenies_56 rfl ?_
        obtain ⟨q8, h⟩ := h
        refine z_iald dX2_oneStepDenies_58 hh0.2.2.2.1 q8 ?_
        refine z_iload_n 1 dX2_oneStepDenies_59 rfl rfl ?_
        refine z_iload 2 dX2_oneStepDenies_60 rfl ?_
        obtain ⟨q9, h⟩ := h
        refine z_callS (As := [z_i x3, z_i x4]) (rest := [z_i (w (o0 + 3) x7)]) zmX8_stepLength ztX8_stepLength zlRX2_73 ⟨Nat.le_of_ble_eq_true rfl, Nat.le_of_ble_eq_true rfl⟩ dX2_oneStepDenies_62 rfl rfl (z_ai (z_ai z_a0)) (Nat.le_of_ble_eq_true rfl) (Nat.le_of_ble_eq_true rfl) ⟨rfl, rfl⟩ ?_
        refine t_X8_stepLength  q9 ?_
        show z_Sem mX2_oneStepDenies (sh.length, 0) 65 [(0, z_r o0), (3, z_i x3), (4, z_i x4), (5, z_i x5), (6, z_i x6), (7, z_i x7)] [z_i (f_X8_stepLength w x3 x4), z_i (w (o0 + 3) x7)] (sh, w) Q
        obtain ⟨q10, h⟩ := h
        refine z_iadd dX2_oneStepDenies_65 q10 ?_
        refine z_if_ge (tgt := 71) dX2_oneStepDenies_66 (by decide) (fun c11 => ?_) (fun c11 => ?_)
        · replace h := h.1 c11
          obtain ⟨q12, h⟩ := h
          refine z_iinc (L' := [(7, z_i (x7 + 1)), (0, z_r o0), (3, z_i x3), (4, z_i x4), (5, z_i x5), (6, z_i x6)]) 5 dX2_oneStepDenies_71 rfl (by decide) rfl q12 ?_
          refine z_goto (tgt := 19) dX2_oneStepDenies_74 (by decide) ?_
          refine z_sub (L' := [(0, z_r o0), (3, z_i x3), (4, z_i x4), (5, z_i x5), (6, z_i x6), (7, z_i (x7 + 1))]) [1, 2, 3, 4, 5, 0] rfl ?_
          exact h
        · replace h := h.2 c11
          refine z_iconst dX2_oneStepDenies_69 (by decide) ?_
          exact z_ret (v := some (z_i 1)) dX2_oneStepDenies_70 ⟨rfl, Or.inr (Or.inl ⟨rfl, (by decide)⟩)⟩ rfl h
set_option maxRecDepth 100000 in
theorem t_X2_firstStep {sh : List z_C} {w : Nat → Int → Int} {Q : Option z_V → z_S → Prop} {o0 : Nat} {x1 : Int} {x2 : Int} (hh0 : z_isNet sh o0) (h : (z_R (x1 * 10)) ∧ (z_R ((x1 * 10) + x2)) ∧ ((0 : Int) ≤ ((x1 * 10) + x2) ∧ ((x1 * 10) + x2) < 100) ∧ ∀ y4 : Int, y4 = (w (o0 + 5) ((x1 * 10) + x2)) → z_Sem mX2_firstStep (sh.length, 0) 15 [(0, z_r o0), (1, z_i x1), (2, z_i x2), (3, z_i y4), (4, z_i 0)] [] (sh, w) Q) : z_Sem mX2_firstStep (sh.length, 0) 0 [(0, z_r o0), (1, z_i x1), (2, z_i x2)] [] (sh, w) Q := by
  refine z_aload_n 0 dX2_firstStep_0 rfl rfl ?_
  refine z_getR (r := (o0 + 5)) zfRX2_24 dX2_firstStep_1 hh0.1 rfl ?_
  refine z_iload_n 1 dX2_firstStep_4 rfl rfl ?_
  refine z_bipush dX2_firstStep_5 (by decide) (by decide) ?_
  obtain ⟨q1, h⟩ := h
  refine z_imul dX2_firstStep_7 q1 ?_
  refine z_iload_n 2 dX2_firstStep_8 rfl rfl ?_
  obtain ⟨q2, h⟩ := h
  refine z_iadd dX2_firstStep_9 q2 ?_
  obtain ⟨q3, h⟩ := h
  refine z_iald dX2_firstStep_10 hh0.2.2.2.2.2 q3 ?_
  refine z_nam (fun y4 hy4 => ?_)
  replace h := h y4 hy4
  refine z_istore_n (L' := [(3, z_i y4), (0, z_r o0), (1, z_i x1), (2, z_i x2)]) dX2_firstStep_11 rfl (by decide) rfl ?_
  refine z_iconst dX2_firstStep_12 (by decide) ?_
  refine z_istore (L' := [(4, z_i 0), (3, z_i y4), (0, z_r o0), (1, z_i x1), (2, z_i x2)]) dX2_firstStep_13 (by decide) rfl ?_
  refine z_sub (L' := [(0, z_r o0), (1, z_i x1), (2, z_i x2), (3, z_i y4), (4, z_i 0)]) [2, 3, 4, 1, 0] rfl ?_
  exact h
set_option maxRecDepth 100000 in
theorem t_X2_firstStep_15 {sh : List z_C} {w : Nat → Int → Int} {Q : Option z_V → z_S → Prop} {o0 : Nat} {x1 : Int} {x2 : Int} {x3 : Int} {x4 : Int} (hh0 : z_isNet sh o0) (h : (((w o0 5) ≤ x4 → Q (some (z_i (-1))) (sh, w)) ∧ (¬ (w o0 5) ≤ x4 → ((0 : Int) ≤ x4 ∧ x4 < 60) ∧ (z_R ((w (o0 + 2) x4) * 10)) ∧ (z_R (((w (o0 + 2) x4) * 10) + x2)) ∧ ((0 : Int) ≤ (((w (o0 + 2) x4) * 10) + x2) ∧ (((w (o0 + 2) x4) * 10) + x2) < 100) ∧ ∀ y6 : Int, y6 = (w (o0 + 5) (((w (o0 + 2) x4) * 10) + x2)) → ((0 : Int) ≤ x4 ∧ x4 < 60) ∧ (((w (o0 + 1) x4) = x1 → ((0 : Int) ≤ x4 ∧ x4 < 60) ∧ (s_X2_weightOf w (w (o0 + 3) x4)) ∧ (z_R ((f_X2_weightOf w (w (o0 + 3) x4)) + y6)) ∧ ((((f_X2_weightOf w (w (o0 + 3) x4)) + y6) = x3 → Q (some (z_i x4)) (sh, w)) ∧ (¬ ((f_X2_weightOf w (w (o0 + 3) x4)) + y6) = x3 → (z_R (x4 + 1)) ∧ z_Sem mX2_firstStep (sh.length, 0) 15 [(0, z_r o0), (1, z_i x1), (2, z_i x2), (3, z_i x3), (4, z_i (x4 + 1))] [] (sh, w) Q))) ∧ (¬ (w (o0 + 1) x4) = x1 → (z_R (x4 + 1)) ∧ z_Sem mX2_firstStep (sh.length, 0) 15 [(0, z_r o0), (1, z_i x1), (2, z_i x2), (3, z_i x3), (4, z_i (x4 + 1))] [] (sh, w) Q))))) : z_Sem mX2_firstStep (sh.length, 0) 15 [(0, z_r o0), (1, z_i x1), (2, z_i x2), (3, z_i x3), (4, z_i x4)] [] (sh, w) Q := by
  refine z_iload 4 dX2_firstStep_15 rfl ?_
  refine z_aload_n 0 dX2_firstStep_17 rfl rfl ?_
  refine z_getI (ki := 5) zfRX2_44 dX2_firstStep_18 hh0.1 rfl rfl ?_
  refine z_icmp_ge (tgt := 80) dX2_firstStep_21 (by decide) (fun c1 => ?_) (fun c1 => ?_)
  · replace h := h.1 c1
    refine z_iconst dX2_firstStep_80 (by decide) ?_
    exact z_ret (v := some (z_i (-1))) dX2_firstStep_81 ⟨rfl, Or.inl rfl⟩ rfl h
  · replace h := h.2 c1
    refine z_aload_n 0 dX2_firstStep_24 rfl rfl ?_
    refine z_getR (r := (o0 + 5)) zfRX2_24 dX2_firstStep_25 hh0.1 rfl ?_
    refine z_aload_n 0 dX2_firstStep_28 rfl rfl ?_
    refine z_getR (r := (o0 + 2)) zfRX2_15 dX2_firstStep_29 hh0.1 rfl ?_
    refine z_iload 4 dX2_firstStep_32 rfl ?_
    obtain ⟨q2, h⟩ := h
    refine z_iald dX2_firstStep_34 hh0.2.2.1 q2 ?_
    refine z_bipush dX2_firstStep_35 (by decide) (by decide) ?_
    obtain ⟨q3, h⟩ := h
    refine z_imul dX2_firstStep_37 q3 ?_
    refine z_iload_n 2 dX2_firstStep_38 rfl rfl ?_
    obtain ⟨q4, h⟩ := h
    refine z_iadd dX2_firstStep_39 q4 ?_
    obtain ⟨q5, h⟩ := h
    refine z_iald dX2_firstStep_40 hh0.2.2.2.2.2 q5 ?_
    refine z_nam (fun y6 hy6 => ?_)
    replace h := h y6 hy6
    refine z_istore (L' := [(5, z_i y6), (0, z_r o0), (1, z_i x1), (2, z_i x2), (3, z_i x3), (4, z_i x4)]) dX2_firstStep_41 (by decide) rfl ?_
    refine z_aload_n 1 dX2_firstStep_43 rfl rfl ?_
    refine z_getR (r := (o0 + 1)) zfRX2_9 dX2_firstStep_44 hh0.1 rfl ?_
    refine z_iload 5 dX2_firstStep_47 rfl ?_
    obtain ⟨q7, h⟩ := h
    refine z_iald dX2_firstStep_49 hh0.2.1 q7 ?_
    refine z_iload_n 2 dX2_firstStep_50 rfl rfl ?_
    refine z_icmp_ne (tgt := 74) dX2_firstStep_51 (by decide) (fun c8 => ?_) (fun c8 => ?_)
    · replace h := h.2 c8
      obtain ⟨q9, h⟩ := h
      refine z_iinc (L' := [(4, z_i (x4 + 1)), (5, z_i y6), (0, z_r o0), (1, z_i x1), (2, z_i x2), (3, z_i x3)]) 5 dX2_firstStep_74 rfl (by decide) rfl q9 ?_
      refine z_goto (tgt := 15) dX2_firstStep_77 (by decide) ?_
      refine z_sub (L' := [(0, z_r o0), (1, z_i x1), (2, z_i x2), (3, z_i x3), (4, z_i (x4 + 1))]) [2, 3, 4, 5, 0] rfl ?_
      exact h
    · replace h := h.1 c8
      refine z_aload_n 1 dX2_firstStep_54 rfl rfl ?_
      refine z_getR (r := (o0 + 3)) zfRX2_18 dX2_firstStep_55 hh0.1 rfl ?_
      refine z_iload 5 dX2_firstStep_58 rfl ?_
      obtain ⟨q10, h⟩ := h
      refine z_iald dX2_firstStep_60 hh0.2.2.2.1 q10 ?_
      obtain ⟨q11, h⟩ := h
      refine z_callS (As := [z_i (w (o0 + 3) x4)]) (rest := []) zmX2_weightOf ztX2_weightOf zlRX2_92 ⟨Nat.le_of_ble_eq_true rfl, Nat.le_of_ble_eq_true rfl⟩ dX2_firstStep_61 rfl rfl (z_ai z_a0) (Nat.le_of_ble_eq_true rfl) (Nat.le_of_ble_eq_true rfl) ⟨rfl, rfl⟩ ?_
      refine t_X2_weightOf  q11 ?_
      show z_Sem mX2_firstStep (sh.length, 0) 64 [(5, z_i y6), (0, z_r o0), (1, z_i x1), (2, z_i x2), (3, z_i x3), (4, z_i x4)] [z_i (f_X2_weightOf w (w (o0 + 3) x4))] (sh, w) Q
      refine z_iload 0 dX2_firstStep_64 rfl ?_
      obtain ⟨q12, h⟩ := h
      refine z_iadd dX2_firstStep_66 q12 ?_
      refine z_iload_n 4 dX2_firstStep_67 rfl rfl ?_
      refine z_icmp_ne (tgt := 74) dX2_firstStep_68 (by decide) (fun c13 => ?_) (fun c13 => ?_)
      · replace h := h.2 c13
        obtain ⟨q14, h⟩ := h
        refine z_iinc (L' := [(4, z_i (x4 + 1)), (5, z_i y6), (0, z_r o0), (1, z_i x1), (2, z_i x2), (3, z_i x3)]) 5 dX2_firstStep_74 rfl (by decide) rfl q14 ?_
        refine z_goto (tgt := 15) dX2_firstStep_77 (by decide) ?_
        refine z_sub (L' := [(0, z_r o0), (1, z_i x1), (2, z_i x2), (3, z_i x3), (4, z_i (x4 + 1))]) [2, 3, 4, 5, 0] rfl ?_
        exact h
      · replace h := h.1 c13
        refine z_iload 5 dX2_firstStep_71 rfl ?_
        exact z_ret (v := some (z_i x4)) dX2_firstStep_73 ⟨rfl, Or.inl rfl⟩ rfl h
set_option maxRecDepth 100000 in
theorem t_X2_stepOfWay {sh : List z_C} {w : Nat → Int → Int} {Q : Option z_V → z_S → Prop} {o0 : Nat} {x1 : Int} {x2 : Int} {x3 : Int} (hh0 : z_isNet sh o0) (h : z_Sem mX2_stepOfWay (sh.length, 0) 6 [(0, z_r o0), (2, z_i x2), (3, z_i x3), (4, z_i x1), (5, z_i 0)] [] (sh, w) Q) : z_Sem mX2_stepOfWay (sh.length, 0) 0 [(0, z_r o0), (1, z_i x1), (2, z_i x2), (3, z_i x3)] [] (sh, w) Q := by
  refine z_iload_n 1 dX2_stepOfWay_0 rfl rfl ?_
  refine z_istore (L' := [(4, z_i x1), (0, z_r o0), (1, z_i x1), (2, z_i x2), (3, z_i x3)]) dX2_stepOfWay_1 (by decide) rfl ?_
  refine z_iconst dX2_stepOfWay_3 (by decide) ?_
  refine z_istore (L' := [(5, z_i 0), (4, z_i x1), (0, z_r o0), (1, z_i x1), (2, z_i x2), (3, z_i x3)]) dX2_stepOfWay_4 (by decide) rfl ?_
  refine z_sub (L' := [(0, z_r o0), (2, z_i x2), (3, z_i x3), (4, z_i x1), (5, z_i 0)]) [2, 4, 5, 1, 0] rfl ?_
  exact h
set_option maxRecDepth 100000 in
theorem t_X2_stepOfWay_6 {sh : List z_C} {w : Nat → Int → Int} {Q : Option z_V → z_S → Prop} {o0 : Nat} {x2 : Int} {x3 : Int} {x4 : Int} {x5 : Int} (hh0 : z_isNet sh o0) (h : ((10 ≤ x5 → Q (some (z_i (-2))) (sh, w)) ∧ (¬ 10 ≤ x5 → ((x4 = x2 → Q (some (z_i (-2))) (sh, w)) ∧ (¬ x4 = x2 → z_CI mX2_firstStep [z_r o0, z_i x4, z_i x2] sh w (fun y4 w3 => ((y4 = (-1) → Q (some (z_i (-2))) (sh, w3)) ∧ (¬ y4 = (-1) → ((x5 = x3 → ((0 : Int) ≤ y4 ∧ y4 < 60) ∧ Q (some (z_i (w3 (o0 + 4) y4))) (sh, w3)) ∧ (¬ x5 = x3 → ((0 : Int) ≤ y4 ∧ y4 < 60) ∧ ∀ y8 : Int, y8 = (w3 (o0 + 2) y4) → (z_R (x5 + 1)) ∧ z_Sem mX2_stepOfWay (sh.length, 0) 6 [(0, z_r o0), (2, z_i x2), (3, z_i x3), (4, z_i y8), (5, z_i (x5 + 1))] [] (sh, w3) Q)))))))))) : z_Sem mX2_stepOfWay (sh.length, 0) 6 [(0, z_r o0), (2, z_i x2), (3, z_i x3), (4, z_i x4), (5, z_i x5)] [] (sh, w) Q := by
  refine z_iload 4 dX2_stepOfWay_6 rfl ?_
  refine z_bipush dX2_stepOfWay_8 (by decide) (by decide) ?_
  refine z_icmp_ge (tgt := 66) dX2_stepOfWay_10 (by decide) (fun c1 => ?_) (fun c1 => ?_)
  · replace h := h.1 c1
    refine z_bipush dX2_stepOfWay_66 (by decide) (by decide) ?_
    exact z_ret (v := some (z_i (-2))) dX2_stepOfWay_68 ⟨rfl, Or.inl rfl⟩ rfl h
  · replace h := h.2 c1
    refine z_iload 3 dX2_stepOfWay_13 rfl ?_
    refine z_iload_n 1 dX2_stepOfWay_15 rfl rfl ?_
    refine z_icmp_eq (tgt := 66) dX2_stepOfWay_16 (by decide) (fun c2 => ?_) (fun c2 => ?_)
    · replace h := h.1 c2
      refine z_bipush dX2_stepOfWay_66 (by decide) (by decide) ?_
      exact z_ret (v := some (z_i (-2))) dX2_stepOfWay_68 ⟨rfl, Or.inl rfl⟩ rfl h
    · replace h := h.2 c2
      refine z_aload_n 0 dX2_stepOfWay_19 rfl rfl ?_
      refine z_iload 3 dX2_stepOfWay_20 rfl ?_
      refine z_iload_n 1 dX2_stepOfWay_22 rfl rfl ?_
      refine z_callV (As := [z_i x4, z_i x2]) (rest := []) zmX2_firstStep znX2_firstStep zsX2_firstStep (show z_Cl[2]? = some (RX2, TX2, 7) from rfl) zlRX2_126 ⟨Nat.le_of_ble_eq_true rfl, Nat.le_of_ble_eq_true rfl⟩ dX2_stepOfWay_23 hh0.1 rfl rfl (z_ai (z_ai z_a0)) (Nat.le_of_ble_eq_true rfl) (Nat.le_of_ble_eq_true rfl) ⟨rfl, rfl⟩ (z_CIm h ?_)
      intro y4 w3 h
      show z_Sem mX2_stepOfWay (sh.length, 0) 26 [(0, z_r o0), (2, z_i x2), (3, z_i x3), (4, z_i x4), (5, z_i x5)] [z_i y4] (sh, w3) Q
      refine z_istore (L' := [(6, z_i y4), (0, z_r o0), (2, z_i x2), (3, z_i x3), (4, z_i x4), (5, z_i x5)]) dX2_stepOfWay_26 (by decide) rfl ?_
      refine z_iload 0 dX2_stepOfWay_28 rfl ?_
      refine z_iconst dX2_stepOfWay_30 (by decide) ?_
      refine z_icmp_ne (tgt := 37) dX2_stepOfWay_31 (by decide) (fun c5 => ?_) (fun c5 => ?_)
      · replace h := h.2 c5
        refine z_iload 5 dX2_stepOfWay_37 rfl ?_
        refine z_iload_n 3 dX2_stepOfWay_39 rfl rfl ?_
        refine z_icmp_ne (tgt := 51) dX2_stepOfWay_40 (by decide) (fun c6 => ?_) (fun c6 => ?_)
        · replace h := h.2 c6
          refine z_aload_n 1 dX2_stepOfWay_51 rfl rfl ?_
          refine z_getR (r := (o0 + 2)) zfRX2_15 dX2_stepOfWay_52 hh0.1 rfl ?_
          refine z_iload 0 dX2_stepOfWay_55 rfl ?_
          obtain ⟨q7, h⟩ := h
          refine z_iald dX2_stepOfWay_57 hh0.2.2.1 q7 ?_
          refine z_nam (fun y8 hy8 => ?_)
          replace h := h y8 hy8
          refine z_istore (L' := [(4, z_i y8), (6, z_i y4), (0, z_r o0), (2, z_i x2), (3, z_i x3), (5, z_i x5)]) dX2_stepOfWay_58 (by decide) rfl ?_
          obtain ⟨q9, h⟩ := h
          refine z_iinc (L' := [(5, z_i (x5 + 1)), (4, z_i y8), (6, z_i y4), (0, z_r o0), (2, z_i x2), (3, z_i x3)]) 5 dX2_stepOfWay_60 rfl (by decide) rfl q9 ?_
          refine z_goto (tgt := 6) dX2_stepOfWay_63 (by decide) ?_
          refine z_sub (L' := [(0, z_r o0), (2, z_i x2), (3, z_i x3), (4, z_i y8), (5, z_i (x5 + 1))]) [3, 4, 5, 1, 0] rfl ?_
          exact h
        · replace h := h.1 c6
          refine z_aload_n 1 dX2_stepOfWay_43 rfl rfl ?_
          refine z_getR (r := (o0 + 4)) zfRX2_21 dX2_stepOfWay_44 hh0.1 rfl ?_
          refine z_iload 0 dX2_stepOfWay_47 rfl ?_
          obtain ⟨q10, h⟩ := h
          refine z_iald dX2_stepOfWay_49 hh0.2.2.2.2.1 q10 ?_
          exact z_ret (v := some (z_i (w3 (o0 + 4) y4))) dX2_stepOfWay_50 ⟨rfl, Or.inl rfl⟩ rfl h
      · replace h := h.1 c5
        refine z_bipush dX2_stepOfWay_34 (by decide) (by decide) ?_
        exact z_ret (v := some (z_i (-2))) dX2_stepOfWay_36 ⟨rfl, Or.inl rfl⟩ rfl h
def f_X8_asNumber (w : Nat → Int → Int) (x0 : Int) : Int := if x0 = 0 then 0 else 1
set_option maxRecDepth 100000 in
theorem t_X8_asNumber {sh : List z_C} {w : Nat → Int → Int} {Q : Option z_V → z_S → Prop} {x0 : Int}  (h : Q (some (z_i (f_X8_asNumber w x0))) (sh, w)) : z_Sem mX8_asNumber (sh.length, 0) 0 [(0, z_i x0)] [] (sh, w) Q := by
  unfold f_X8_asNumber at h
  refine z_iload_n 0 dX8_asNumber_0 rfl rfl ?_
  suffices hJ1 : z_Sem mX8_asNumber (sh.length, 0) 9 [] [z_i (if x0 = 0 then 0 else 1)] (sh, w) Q by
    refine z_if_eq (tgt := 8) dX8_asNumber_1 (by decide) (fun c2 => ?_) (fun c2 => ?_)
    · skip
      refine z_iconst dX8_asNumber_8 (by decide) ?_
      refine z_sub (L' := []) [] rfl ?_
      simp only [if_pos c2] at hJ1
      exact hJ1
    · skip
      refine z_iconst dX8_asNumber_4 (by decide) ?_
      refine z_goto (tgt := 9) dX8_asNumber_5 (by decide) ?_
      refine z_sub (L' := []) [] rfl ?_
      simp only [if_neg c2] at hJ1
      exact hJ1
  exact z_ret (v := some (z_i (if x0 = 0 then 0 else 1))) dX8_asNumber_9 ⟨rfl, Or.inl rfl⟩ rfl h
set_option maxRecDepth 100000 in
theorem t_X2_countSettled {sh : List z_C} {w : Nat → Int → Int} {Q : Option z_V → z_S → Prop} {o0 : Nat} (hh0 : z_isNet sh o0) (h : z_Sem mX2_countSettled (sh.length, 0) 4 [(0, z_r o0), (1, z_i 0), (2, z_i 0)] [] (sh, w) Q) : z_Sem mX2_countSettled (sh.length, 0) 0 [(0, z_r o0)] [] (sh, w) Q := by
  refine z_iconst dX2_countSettled_0 (by decide) ?_
  refine z_istore_n (L' := [(1, z_i 0), (0, z_r o0)]) dX2_countSettled_1 rfl (by decide) rfl ?_
  refine z_iconst dX2_countSettled_2 (by decide) ?_
  refine z_istore_n (L' := [(2, z_i 0), (1, z_i 0), (0, z_r o0)]) dX2_countSettled_3 rfl (by decide) rfl ?_
  refine z_sub (L' := [(0, z_r o0), (1, z_i 0), (2, z_i 0)]) [2, 1, 0] rfl ?_
  exact h
set_option maxRecDepth 100000 in
theorem t_X2_countSettled_4 {sh : List z_C} {w : Nat → Int → Int} {Q : Option z_V → z_S → Prop} {o0 : Nat} {x1 : Int} {x2 : Int} (hh0 : z_isNet sh o0) (h : (((w o0 6) ≤ x2 → Q (some (z_i x1)) (sh, w)) ∧ (¬ (w o0 6) ≤ x2 → (s_X2_possibleTimes w o0 x2) ∧ (z_R (x1 + (f_X8_asNumber w (if (f_X2_possibleTimes w o0 x2) = 1 then 1 else 0)))) ∧ ∀ y8 : Int, y8 = (x1 + (f_X8_asNumber w (if (f_X2_possibleTimes w o0 x2) = 1 then 1 else 0))) → (z_R (x2 + 1)) ∧ z_Sem mX2_countSettled (sh.length, 0) 4 [(0, z_r o0), (1, z_i y8), (2, z_i (x2 + 1))] [] (sh, w) Q))) : z_Sem mX2_countSettled (sh.length, 0) 4 [(0, z_r o0), (1, z_i x1), (2, z_i x2)] [] (sh, w) Q := by
  refine z_iload_n 2 dX2_countSettled_4 rfl rfl ?_
  refine z_aload_n 0 dX2_countSettled_5 rfl rfl ?_
  refine z_getI (ki := 6) zfRX2_33 dX2_countSettled_6 hh0.1 rfl rfl ?_
  refine z_icmp_ge (tgt := 38) dX2_countSettled_9 (by decide) (fun c1 => ?_) (fun c1 => ?_)
  · replace h := h.1 c1
    refine z_iload_n 1 dX2_countSettled_38 rfl rfl ?_
    exact z_ret (v := some (z_i x1)) dX2_countSettled_39 ⟨rfl, Or.inl rfl⟩ rfl h
  · replace h := h.2 c1
    refine z_iload_n 1 dX2_countSettled_12 rfl rfl ?_
    refine z_aload_n 0 dX2_countSettled_13 rfl rfl ?_
    refine z_iload_n 2 dX2_countSettled_14 rfl rfl ?_
    obtain ⟨q2, h⟩ := h
    refine z_callV (As := [z_i x2]) (rest := [z_i x1]) zmX2_possibleTimes znX2_possibleTimes zsX2_possibleTimes (show z_Cl[2]? = some (RX2, TX2, 7) from rfl) zlRX2_129 ⟨Nat.le_of_ble_eq_true rfl, Nat.le_of_ble_eq_true rfl⟩ dX2_countSettled_15 hh0.1 rfl rfl (z_ai z_a0) (Nat.le_of_ble_eq_true rfl) (Nat.le_of_ble_eq_true rfl) ⟨rfl, rfl⟩ ?_
    refine t_X2_possibleTimes hh0 q2 ?_
    show z_Sem mX2_countSettled (sh.length, 0) 18 [(0, z_r o0), (1, z_i x1), (2, z_i x2)] [z_i (f_X2_possibleTimes w o0 x2), z_i x1] (sh, w) Q
    refine z_iconst dX2_countSettled_18 (by decide) ?_
    suffices hJ3 : z_Sem mX2_countSettled (sh.length, 0) 27 [(0, z_r o0), (2, z_i x2)] [z_i (if (f_X2_possibleTimes w o0 x2) = 1 then 1 else 0), z_i x1] (sh, w) Q by
      refine z_icmp_ne (tgt := 26) dX2_countSettled_19 (by decide) (fun c4 => ?_) (fun c4 => ?_)
      · skip
        refine z_iconst dX2_countSettled_26 (by decide) ?_
        refine z_sub (L' := [(0, z_r o0), (2, z_i x2)]) [0, 2] rfl ?_
        simp only [if_neg c4] at hJ3
        exact hJ3
      · skip
        refine z_iconst dX2_countSettled_22 (by decide) ?_
        refine z_goto (tgt := 27) dX2_countSettled_23 (by decide) ?_
        refine z_sub (L' := [(0, z_r o0), (2, z_i x2)]) [0, 2] rfl ?_
        simp only [if_pos c4] at hJ3
        exact hJ3
    refine z_callS (As := [z_i (if (f_X2_possibleTimes w o0 x2) = 1 then 1 else 0)]) (rest := [z_i x1]) zmX8_asNumber ztX8_asNumber zlRX2_132 ⟨Nat.le_of_ble_eq_true rfl, Nat.le_of_ble_eq_true rfl⟩ dX2_countSettled_27 rfl rfl (z_ai z_a0) (Nat.le_of_ble_eq_true rfl) (Nat.le_of_ble_eq_true rfl) ⟨rfl, rfl⟩ ?_
    refine t_X8_asNumber  ?_
    show z_Sem mX2_countSettled (sh.length, 0) 30 [(0, z_r o0), (2, z_i x2)] [z_i (f_X8_asNumber w (if (f_X2_possibleTimes w o0 x2) = 1 then 1 else 0)), z_i x1] (sh, w) Q
    obtain ⟨q7, h⟩ := h
    refine z_iadd dX2_countSettled_30 q7 ?_
    refine z_nam (fun y8 hy8 => ?_)
    replace h := h y8 hy8
    refine z_istore_n (L' := [(1, z_i y8), (0, z_r o0), (2, z_i x2)]) dX2_countSettled_31 rfl (by decide) rfl ?_
    obtain ⟨q9, h⟩ := h
    refine z_iinc (L' := [(2, z_i (x2 + 1)), (1, z_i y8), (0, z_r o0)]) 2 dX2_countSettled_32 rfl (by decide) rfl q9 ?_
    refine z_goto (tgt := 4) dX2_countSettled_35 (by decide) ?_
    refine z_sub (L' := [(0, z_r o0), (1, z_i y8), (2, z_i (x2 + 1))]) [2, 1, 0] rfl ?_
    exact h
def f_J9_max_7cf53 (w : Nat → Int → Int) (x0 : Int) (x1 : Int) : Int := if x0 < x1 then x1 else x0
set_option maxRecDepth 100000 in
theorem t_J9_max_7cf53 {sh : List z_C} {w : Nat → Int → Int} {Q : Option z_V → z_S → Prop} {x0 : Int} {x1 : Int}  (h : Q (some (z_i (f_J9_max_7cf53 w x0 x1))) (sh, w)) : z_Sem mJ9_max_7cf53 (sh.length, 0) 0 [(0, z_i x0), (1, z_i x1)] [] (sh, w) Q := by
  unfold f_J9_max_7cf53 at h
  refine z_iload_n 0 dJ9_max_7cf53_0 rfl rfl ?_
  refine z_iload_n 1 dJ9_max_7cf53_1 rfl rfl ?_
  suffices hJ1 : z_Sem mJ9_max_7cf53 (sh.length, 0) 10 [] [z_i (if x0 < x1 then x1 else x0)] (sh, w) Q by
    refine z_icmp_lt (tgt := 9) dJ9_max_7cf53_2 (by decide) (fun c2 => ?_) (fun c2 => ?_)
    · skip
      refine z_iload_n 1 dJ9_max_7cf53_9 rfl rfl ?_
      refine z_sub (L' := []) [] rfl ?_
      simp only [if_pos c2] at hJ1
      exact hJ1
    · skip
      refine z_iload_n 0 dJ9_max_7cf53_5 rfl rfl ?_
      refine z_goto (tgt := 10) dJ9_max_7cf53_6 (by decide) ?_
      refine z_sub (L' := []) [] rfl ?_
      simp only [if_neg c2] at hJ1
      exact hJ1
  exact z_ret (v := some (z_i (if x0 < x1 then x1 else x0))) dJ9_max_7cf53_10 ⟨rfl, Or.inl rfl⟩ rfl h
set_option maxRecDepth 100000 in
theorem t_X2_greatestEarliest {sh : List z_C} {w : Nat → Int → Int} {Q : Option z_V → z_S → Prop} {o0 : Nat} (hh0 : z_isNet sh o0) (h : z_Sem mX2_greatestEarliest (sh.length, 0) 4 [(0, z_r o0), (1, z_i 0), (2, z_i 0)] [] (sh, w) Q) : z_Sem mX2_greatestEarliest (sh.length, 0) 0 [(0, z_r o0)] [] (sh, w) Q := by
  refine z_iconst dX2_greatestEarliest_0 (by decide) ?_
  refine z_istore_n (L' := [(1, z_i 0), (0, z_r o0)]) dX2_greatestEarliest_1 rfl (by decide) rfl ?_
  refine z_iconst dX2_greatestEarliest_2 (by decide) ?_
  refine z_istore_n (L' := [(2, z_i 0), (1, z_i 0), (0, z_r o0)]) dX2_greatestEarliest_3 rfl (by decide) rfl ?_
  refine z_sub (L' := [(0, z_r o0), (1, z_i 0), (2, z_i 0)]) [2, 1, 0] rfl ?_
  exact h
set_option maxRecDepth 100000 in
theorem t_X2_greatestEarliest_4 {sh : List z_C} {w : Nat → Int → Int} {Q : Option z_V → z_S → Prop} {o0 : Nat} {x1 : Int} {x2 : Int} (hh0 : z_isNet sh o0) (h : (((w o0 6) ≤ x2 → Q (some (z_i x1)) (sh, w)) ∧ (¬ (w o0 6) ≤ x2 → (s_X2_earliest w o0 x2) ∧ ∀ y3 : Int, y3 = (f_J9_max_7cf53 w x1 (f_X2_earliest w o0 x2)) → (z_R (x2 + 1)) ∧ z_Sem mX2_greatestEarliest (sh.length, 0) 4 [(0, z_r o0), (1, z_i y3), (2, z_i (x2 + 1))] [] (sh, w) Q))) : z_Sem mX2_greatestEarliest (sh.length, 0) 4 [(0, z_r o0), (1, z_i x1), (2, z_i x2)] [] (sh, w) Q := by
  refine z_iload_n 2 dX2_greatestEarliest_4 rfl rfl ?_
  refine z_aload_n 0 dX2_greatestEarliest_5 rfl rfl ?_
  refine z_getI (ki := 6) zfRX2_33 dX2_greatestEarliest_6 hh0.1 rfl rfl ?_
  refine z_icmp_ge (tgt := 28) dX2_greatestEarliest_9 (by decide) (fun c1 => ?_) (fun c1 => ?_)
  · replace h := h.1 c1
    refine z_iload_n 1 dX2_greatestEarliest_28 rfl rfl ?_
    exact z_ret (v := some (z_i x1)) dX2_greatestEarliest_29 ⟨rfl, Or.inl rfl⟩ rfl h
  · replace h := h.2 c1
    refine z_iload_n 1 dX2_greatestEarliest_12 rfl rfl ?_
    refine z_aload_n 0 dX2_greatestEarliest_13 rfl rfl ?_
    refine z_iload_n 2 dX2_greatestEarliest_14 rfl rfl ?_
    obtain ⟨q2, h⟩ := h
    refine z_callV (As := [z_i x2]) (rest := [z_i x1]) zmX2_earliest znX2_earliest zsX2_earliest (show z_Cl[2]? = some (RX2, TX2, 7) from rfl) zlRX2_123 ⟨Nat.le_of_ble_eq_true rfl, Nat.le_of_ble_eq_true rfl⟩ dX2_greatestEarliest_15 hh0.1 rfl rfl (z_ai z_a0) (Nat.le_of_ble_eq_true rfl) (Nat.le_of_ble_eq_true rfl) ⟨rfl, rfl⟩ ?_
    refine t_X2_earliest hh0 q2 ?_
    show z_Sem mX2_greatestEarliest (sh.length, 0) 18 [(0, z_r o0), (1, z_i x1), (2, z_i x2)] [z_i (f_X2_earliest w o0 x2), z_i x1] (sh, w) Q
    refine z_callS (As := [z_i x1, z_i (f_X2_earliest w o0 x2)]) (rest := []) zmJ9_max_7cf53 ztJ9_max_7cf53 zlRX2_136 ⟨Nat.le_of_ble_eq_true rfl, Nat.le_of_ble_eq_true rfl⟩ dX2_greatestEarliest_18 rfl rfl (z_ai (z_ai z_a0)) (Nat.le_of_ble_eq_true rfl) (Nat.le_of_ble_eq_true rfl) ⟨rfl, rfl⟩ ?_
    refine t_J9_max_7cf53  ?_
    show z_Sem mX2_greatestEarliest (sh.length, 0) 21 [(0, z_r o0), (1, z_i x1), (2, z_i x2)] [z_i (f_J9_max_7cf53 w x1 (f_X2_earliest w o0 x2))] (sh, w) Q
    refine z_nam (fun y3 hy3 => ?_)
    replace h := h y3 hy3
    refine z_istore_n (L' := [(1, z_i y3), (0, z_r o0), (2, z_i x2)]) dX2_greatestEarliest_21 rfl (by decide) rfl ?_
    obtain ⟨q4, h⟩ := h
    refine z_iinc (L' := [(2, z_i (x2 + 1)), (1, z_i y3), (0, z_r o0)]) 2 dX2_greatestEarliest_22 rfl (by decide) rfl q4 ?_
    refine z_goto (tgt := 4) dX2_greatestEarliest_25 (by decide) ?_
    refine z_sub (L' := [(0, z_r o0), (1, z_i y3), (2, z_i (x2 + 1))]) [2, 1, 0] rfl ?_
    exact h
set_option maxRecDepth 100000 in
theorem t_X2_room {sh : List z_C} {w : Nat → Int → Int} {Q : Option z_V → z_S → Prop} {o0 : Nat} (hh0 : z_isNet sh o0) (h : z_Sem mX2_room (sh.length, 0) 4 [(0, z_r o0), (1, z_i 0), (2, z_i 0)] [] (sh, w) Q) : z_Sem mX2_room (sh.length, 0) 0 [(0, z_r o0)] [] (sh, w) Q := by
  refine z_iconst dX2_room_0 (by decide) ?_
  refine z_istore_n (L' := [(1, z_i 0), (0, z_r o0)]) dX2_room_1 rfl (by decide) rfl ?_
  refine z_iconst dX2_room_2 (by decide) ?_
  refine z_istore_n (L' := [(2, z_i 0), (1, z_i 0), (0, z_r o0)]) dX2_room_3 rfl (by decide) rfl ?_
  refine z_sub (L' := [(0, z_r o0), (1, z_i 0), (2, z_i 0)]) [2, 1, 0] rfl ?_
  exact h
set_option maxRecDepth 100000 in
theorem t_X2_room_4 {sh : List z_C} {w : Nat → Int → Int} {Q : Option z_V → z_S → Prop} {o0 : Nat} {x1 : Int} {x2 : Int} (hh0 : z_isNet sh o0) (h : (((w o0 6) ≤ x2 → Q (some (z_i x1)) (sh, w)) ∧ (¬ (w o0 6) ≤ x2 → (s_X2_latest w o0 x2) ∧ (s_X2_earliest w o0 x2) ∧ (z_R ((f_X2_latest w o0 x2) - (f_X2_earliest w o0 x2))) ∧ (z_R (x1 + ((f_X2_latest w o0 x2) - (f_X2_earliest w o0 x2)))) ∧ ∀ y6 : Int, y6 = (x1 + ((f_X2_latest w o0 x2) - (f_X2_earliest w o0 x2))) → (z_R (x2 + 1)) ∧ z_Sem mX2_room (sh.length, 0) 4 [(0, z_r o0), (1, z_i y6), (2, z_i (x2 + 1))] [] (sh, w) Q))) : z_Sem mX2_room (sh.length, 0) 4 [(0, z_r o0), (1, z_i x1), (2, z_i x2)] [] (sh, w) Q := by
  refine z_iload_n 2 dX2_room_4 rfl rfl ?_
  refine z_aload_n 0 dX2_room_5 rfl rfl ?_
  refine z_getI (ki := 6) zfRX2_33 dX2_room_6 hh0.1 rfl rfl ?_
  refine z_icmp_ge (tgt := 32) dX2_room_9 (by decide) (fun c1 => ?_) (fun c1 => ?_)
  · replace h := h.1 c1
    refine z_iload_n 1 dX2_room_32 rfl rfl ?_
    exact z_ret (v := some (z_i x1)) dX2_room_33 ⟨rfl, Or.inl rfl⟩ rfl h
  · replace h := h.2 c1
    refine z_iload_n 1 dX2_room_12 rfl rfl ?_
    refine z_aload_n 0 dX2_room_13 rfl rfl ?_
    refine z_iload_n 2 dX2_room_14 rfl rfl ?_
    obtain ⟨q2, h⟩ := h
    refine z_callV (As := [z_i x2]) (rest := [z_i x1]) zmX2_latest znX2_latest zsX2_latest (show z_Cl[2]? = some (RX2, TX2, 7) from rfl) zlRX2_120 ⟨Nat.le_of_ble_eq_true rfl, Nat.le_of_ble_eq_true rfl⟩ dX2_room_15 hh0.1 rfl rfl (z_ai z_a0) (Nat.le_of_ble_eq_true rfl) (Nat.le_of_ble_eq_true rfl) ⟨rfl, rfl⟩ ?_
    refine t_X2_latest hh0 q2 ?_
    show z_Sem mX2_room (sh.length, 0) 18 [(0, z_r o0), (1, z_i x1), (2, z_i x2)] [z_i (f_X2_latest w o0 x2), z_i x1] (sh, w) Q
    refine z_aload_n 0 dX2_room_18 rfl rfl ?_
    refine z_iload_n 2 dX2_room_19 rfl rfl ?_
    obtain ⟨q3, h⟩ := h
    refine z_callV (As := [z_i x2]) (rest := [z_i (f_X2_latest w o0 x2), z_i x1]) zmX2_earliest znX2_earliest zsX2_earliest (show z_Cl[2]? = some (RX2, TX2, 7) from rfl) zlRX2_123 ⟨Nat.le_of_ble_eq_true rfl, Nat.le_of_ble_eq_true rfl⟩ dX2_room_20 hh0.1 rfl rfl (z_ai z_a0) (Nat.le_of_ble_eq_true rfl) (Nat.le_of_ble_eq_true rfl) ⟨rfl, rfl⟩ ?_
    refine t_X2_earliest hh0 q3 ?_
    show z_Sem mX2_room (sh.length, 0) 23 [(0, z_r o0), (1, z_i x1), (2, z_i x2)] [z_i (f_X2_earliest w o0 x2), z_i (f_X2_latest w o0 x2), z_i x1] (sh, w) Q
    obtain ⟨q4, h⟩ := h
    refine z_isub dX2_room_23 q4 ?_
    obtain ⟨q5, h⟩ := h
    refine z_iadd dX2_room_24 q5 ?_
    refine z_nam (fun y6 hy6 => ?_)
    replace h := h y6 hy6
    refine z_istore_n (L' := [(1, z_i y6), (0, z_r o0), (2, z_i x2)]) dX2_room_25 rfl (by decide) rfl ?_
    obtain ⟨q7, h⟩ := h
    refine z_iinc (L' := [(2, z_i (x2 + 1)), (1, z_i y6), (0, z_r o0)]) 2 dX2_room_26 rfl (by decide) rfl q7 ?_
    refine z_goto (tgt := 4) dX2_room_29 (by decide) ?_
    refine z_sub (L' := [(0, z_r o0), (1, z_i y6), (2, z_i (x2 + 1))]) [2, 1, 0] rfl ?_
    exact h
set_option maxRecDepth 100000 in
theorem t_X2_placeByEarliest {sh : List z_C} {w : Nat → Int → Int} {Q : Option z_V → z_S → Prop} {o0 : Nat} {x1 : Int} (hh0 : z_isNet sh o0) (h : z_Sem mX2_placeByEarliest (sh.length, 0) 4 [(0, z_r o0), (1, z_i x1), (2, z_i 0), (3, z_i 0)] [] (sh, w) Q) : z_Sem mX2_placeByEarliest (sh.length, 0) 0 [(0, z_r o0), (1, z_i x1)] [] (sh, w) Q := by
  refine z_iconst dX2_placeByEarliest_0 (by decide) ?_
  refine z_istore_n (L' := [(2, z_i 0), (0, z_r o0), (1, z_i x1)]) dX2_placeByEarliest_1 rfl (by decide) rfl ?_
  refine z_iconst dX2_placeByEarliest_2 (by decide) ?_
  refine z_istore_n (L' := [(3, z_i 0), (2, z_i 0), (0, z_r o0), (1, z_i x1)]) dX2_placeByEarliest_3 rfl (by decide) rfl ?_
  refine z_sub (L' := [(0, z_r o0), (1, z_i x1), (2, z_i 0), (3, z_i 0)]) [2, 3, 1, 0] rfl ?_
  exact h
set_option maxRecDepth 100000 in
theorem t_X2_placeByEarliest_4 {sh : List z_C} {w : Nat → Int → Int} {Q : Option z_V → z_S → Prop} {o0 : Nat} {x1 : Int} {x2 : Int} {x3 : Int} (hh0 : z_isNet sh o0) (h : (((w o0 6) ≤ x3 → Q (some (z_i x2)) (sh, w)) ∧ (¬ (w o0 6) ≤ x3 → (s_X2_earliest w o0 x1) ∧ (s_X2_earliest w o0 x3) ∧ (z_R ((f_X2_earliest w o0 x1) - (f_X2_earliest w o0 x3))) ∧ ∀ y5 : Int, y5 = ((f_X2_earliest w o0 x1) - (f_X2_earliest w o0 x3)) → (z_R (x2 + (f_X8_asNumber w (if 0 < y5 then 1 else if y5 = 0 then (if x1 ≤ x3 then 0 else 1) else 0)))) ∧ ∀ y19 : Int, y19 = (x2 + (f_X8_asNumber w (if 0 < y5 then 1 else if y5 = 0 then (if x1 ≤ x3 then 0 else 1) else 0))) → (z_R (x3 + 1)) ∧ z_Sem mX2_placeByEarliest (sh.length, 0) 4 [(0, z_r o0), (1, z_i x1), (2, z_i y19), (3, z_i (x3 + 1))] [] (sh, w) Q))) : z_Sem mX2_placeByEarliest (sh.length, 0) 4 [(0, z_r o0), (1, z_i x1), (2, z_i x2), (3, z_i x3)] [] (sh, w) Q := by
  refine z_iload_n 3 dX2_placeByEarliest_4 rfl rfl ?_
  refine z_aload_n 0 dX2_placeByEarliest_5 rfl rfl ?_
  refine z_getI (ki := 6) zfRX2_33 dX2_placeByEarliest_6 hh0.1 rfl rfl ?_
  refine z_icmp_ge (tgt := 57) dX2_placeByEarliest_9 (by decide) (fun c1 => ?_) (fun c1 => ?_)
  · replace h := h.1 c1
    refine z_iload_n 2 dX2_placeByEarliest_57 rfl rfl ?_
    exact z_ret (v := some (z_i x2)) dX2_placeByEarliest_58 ⟨rfl, Or.inl rfl⟩ rfl h
  · replace h := h.2 c1
    refine z_aload_n 0 dX2_placeByEarliest_12 rfl rfl ?_
    refine z_iload_n 1 dX2_placeByEarliest_13 rfl rfl ?_
    obtain ⟨q2, h⟩ := h
    refine z_callV (As := [z_i x1]) (rest := []) zmX2_earliest znX2_earliest zsX2_earliest (show z_Cl[2]? = some (RX2, TX2, 7) from rfl) zlRX2_123 ⟨Nat.le_of_ble_eq_true rfl, Nat.le_of_ble_eq_true rfl⟩ dX2_placeByEarliest_14 hh0.1 rfl rfl (z_ai z_a0) (Nat.le_of_ble_eq_true rfl) (Nat.le_of_ble_eq_true rfl) ⟨rfl, rfl⟩ ?_
    refine t_X2_earliest hh0 q2 ?_
    show z_Sem mX2_placeByEarliest (sh.length, 0) 17 [(0, z_r o0), (1, z_i x1), (2, z_i x2), (3, z_i x3)] [z_i (f_X2_earliest w o0 x1)] (sh, w) Q
    refine z_aload_n 0 dX2_placeByEarliest_17 rfl rfl ?_
    refine z_iload_n 3 dX2_placeByEarliest_18 rfl rfl ?_
    obtain ⟨q3, h⟩ := h
    refine z_callV (As := [z_i x3]) (rest := [z_i (f_X2_earliest w o0 x1)]) zmX2_earliest znX2_earliest zsX2_earliest (show z_Cl[2]? = some (RX2, TX2, 7) from rfl) zlRX2_123 ⟨Nat.le_of_ble_eq_true rfl, Nat.le_of_ble_eq_true rfl⟩ dX2_placeByEarliest_19 hh0.1 rfl rfl (z_ai z_a0) (Nat.le_of_ble_eq_true rfl) (Nat.le_of_ble_eq_true rfl) ⟨rfl, rfl⟩ ?_
    refine t_X2_earliest hh0 q3 ?_
    show z_Sem mX2_placeByEarliest (sh.length, 0) 22 [(0, z_r o0), (1, z_i x1), (2, z_i x2), (3, z_i x3)] [z_i (f_X2_earliest w o0 x3), z_i (f_X2_earliest w o0 x1)] (sh, w) Q
    obtain ⟨q4, h⟩ := h
    refine z_isub dX2_placeByEarliest_22 q4 ?_
    refine z_nam (fun y5 hy5 => ?_)
    replace h := h y5 hy5
    refine z_istore (L' := [(4, z_i y5), (0, z_r o0), (1, z_i x1), (2, z_i x2), (3, z_i x3)]) dX2_placeByEarliest_23 (by decide) rfl ?_
    refine z_iload_n 3 dX2_placeByEarliest_25 rfl rfl ?_
    refine z_iload 0 dX2_placeByEarliest_26 rfl ?_
    suffices hJ6 : z_Sem mX2_placeByEarliest (sh.length, 0) 46 [(0, z_r o0), (1, z_i x1), (3, z_i x3)] [z_i (if 0 < y5 then 1 else if y5 = 0 then (if x1 ≤ x3 then 0 else 1) else 0), z_i x2] (sh, w) Q by
      refine z_if_gt (tgt := 41) dX2_placeByEarliest_28 (by decide) (fun c7 => ?_) (fun c7 => ?_)
      · skip
        refine z_iconst dX2_placeByEarliest_41 (by decide) ?_
        refine z_goto (tgt := 46) dX2_placeByEarliest_42 (by decide) ?_
        refine z_sub (L' := [(0, z_r o0), (1, z_i x1), (3, z_i x3)]) [1, 2, 4] rfl ?_
        simp only [if_pos c7] at hJ6
        exact hJ6
      · skip
        refine z_iload 0 dX2_placeByEarliest_31 rfl ?_
        suffices hJ10 : z_Sem mX2_placeByEarliest (sh.length, 0) 46 [(0, z_r o0), (1, z_i x1), (3, z_i x3)] [z_i (if y5 = 0 then (if x1 ≤ x3 then 0 else 1) else 0), z_i x2] (sh, w) Q by
          refine z_if_ne (tgt := 45) dX2_placeByEarliest_33 (by decide) (fun c11 => ?_) (fun c11 => ?_)
          · skip
            refine z_iconst dX2_placeByEarliest_45 (by decide) ?_
            refine z_sub (L' := [(0, z_r o0), (1, z_i x1), (3, z_i x3)]) [1, 2, 4] rfl ?_
            simp only [if_neg c11] at hJ10
            exact hJ10
          · skip
            refine z_iload_n 4 dX2_placeByEarliest_36 rfl rfl ?_
            refine z_iload_n 2 dX2_placeByEarliest_37 rfl rfl ?_
            suffices hJ14 : z_Sem mX2_placeByEarliest (sh.length, 0) 46 [(0, z_r o0), (1, z_i x1), (3, z_i x3)] [z_i (if x1 ≤ x3 then 0 else 1), z_i x2] (sh, w) Q by
              refine z_icmp_ge (tgt := 45) dX2_placeByEarliest_38 (by decide) (fun c15 => ?_) (fun c15 => ?_)
              · skip
                refine z_iconst dX2_placeByEarliest_45 (by decide) ?_
                refine z_sub (L' := [(0, z_r o0), (1, z_i x1), (3, z_i x3)]) [1, 2, 4] rfl ?_
                simp only [if_pos c15] at hJ14
                exact hJ14
              · skip
                refine z_iconst dX2_placeByEarliest_41 (by decide) ?_
                refine z_goto (tgt := 46) dX2_placeByEarliest_42 (by decide) ?_
                refine z_sub (L' := [(0, z_r o0), (1, z_i x1), (3, z_i x3)]) [1, 2, 4] rfl ?_
                simp only [if_neg c15] at hJ14
                exact hJ14
            simp only [if_pos c11] at hJ10
            exact hJ10
        simp only [if_neg c7] at hJ6
        exact hJ6
    refine z_callS (As := [z_i (if 0 < y5 then 1 else if y5 = 0 then (if x1 ≤ x3 then 0 else 1) else 0)]) (rest := [z_i x2]) zmX8_asNumber ztX8_asNumber zlRX2_132 ⟨Nat.le_of_ble_eq_true rfl, Nat.le_of_ble_eq_true rfl⟩ dX2_placeByEarliest_46 rfl rfl (z_ai z_a0) (Nat.le_of_ble_eq_true rfl) (Nat.le_of_ble_eq_true rfl) ⟨rfl, rfl⟩ ?_
    refine t_X8_asNumber  ?_
    show z_Sem mX2_placeByEarliest (sh.length, 0) 49 [(0, z_r o0), (1, z_i x1), (3, z_i x3)] [z_i (f_X8_asNumber w (if 0 < y5 then 1 else if y5 = 0 then (if x1 ≤ x3 then 0 else 1) else 0)), z_i x2] (sh, w) Q
    obtain ⟨q18, h⟩ := h
    refine z_iadd dX2_placeByEarliest_49 q18 ?_
    refine z_nam (fun y19 hy19 => ?_)
    replace h := h y19 hy19
    refine z_istore_n (L' := [(2, z_i y19), (0, z_r o0), (1, z_i x1), (3, z_i x3)]) dX2_placeByEarliest_50 rfl (by decide) rfl ?_
    obtain ⟨q20, h⟩ := h
    refine z_iinc (L' := [(3, z_i (x3 + 1)), (2, z_i y19), (0, z_r o0), (1, z_i x1)]) 3 dX2_placeByEarliest_51 rfl (by decide) rfl q20 ?_
    refine z_goto (tgt := 4) dX2_placeByEarliest_54 (by decide) ?_
    refine z_sub (L' := [(0, z_r o0), (1, z_i x1), (2, z_i y19), (3, z_i (x3 + 1))]) [2, 3, 1, 0] rfl ?_
    exact h
set_option maxRecDepth 100000 in
theorem t_X2_placeByLatest {sh : List z_C} {w : Nat → Int → Int} {Q : Option z_V → z_S → Prop} {o0 : Nat} {x1 : Int} (hh0 : z_isNet sh o0) (h : z_Sem mX2_placeByLatest (sh.length, 0) 4 [(0, z_r o0), (1, z_i x1), (2, z_i 0), (3, z_i 0)] [] (sh, w) Q) : z_Sem mX2_placeByLatest (sh.length, 0) 0 [(0, z_r o0), (1, z_i x1)] [] (sh, w) Q := by
  refine z_iconst dX2_placeByLatest_0 (by decide) ?_
  refine z_istore_n (L' := [(2, z_i 0), (0, z_r o0), (1, z_i x1)]) dX2_placeByLatest_1 rfl (by decide) rfl ?_
  refine z_iconst dX2_placeByLatest_2 (by decide) ?_
  refine z_istore_n (L' := [(3, z_i 0), (2, z_i 0), (0, z_r o0), (1, z_i x1)]) dX2_placeByLatest_3 rfl (by decide) rfl ?_
  refine z_sub (L' := [(0, z_r o0), (1, z_i x1), (2, z_i 0), (3, z_i 0)]) [2, 3, 1, 0] rfl ?_
  exact h
set_option maxRecDepth 100000 in
theorem t_X2_placeByLatest_4 {sh : List z_C} {w : Nat → Int → Int} {Q : Option z_V → z_S → Prop} {o0 : Nat} {x1 : Int} {x2 : Int} {x3 : Int} (hh0 : z_isNet sh o0) (h : (((w o0 6) ≤ x3 → Q (some (z_i x2)) (sh, w)) ∧ (¬ (w o0 6) ≤ x3 → (s_X2_latest w o0 x1) ∧ (s_X2_latest w o0 x3) ∧ (z_R ((f_X2_latest w o0 x1) - (f_X2_latest w o0 x3))) ∧ ∀ y5 : Int, y5 = ((f_X2_latest w o0 x1) - (f_X2_latest w o0 x3)) → (z_R (x2 + (f_X8_asNumber w (if 0 < y5 then 1 else if y5 = 0 then (if x1 ≤ x3 then 0 else 1) else 0)))) ∧ ∀ y19 : Int, y19 = (x2 + (f_X8_asNumber w (if 0 < y5 then 1 else if y5 = 0 then (if x1 ≤ x3 then 0 else 1) else 0))) → (z_R (x3 + 1)) ∧ z_Sem mX2_placeByLatest (sh.length, 0) 4 [(0, z_r o0), (1, z_i x1), (2, z_i y19), (3, z_i (x3 + 1))] [] (sh, w) Q))) : z_Sem mX2_placeByLatest (sh.length, 0) 4 [(0, z_r o0), (1, z_i x1), (2, z_i x2), (3, z_i x3)] [] (sh, w) Q := by
  refine z_iload_n 3 dX2_placeByLatest_4 rfl rfl ?_
  refine z_aload_n 0 dX2_placeByLatest_5 rfl rfl ?_
  refine z_getI (ki := 6) zfRX2_33 dX2_placeByLatest_6 hh0.1 rfl rfl ?_
  refine z_icmp_ge (tgt := 57) dX2_placeByLatest_9 (by decide) (fun c1 => ?_) (fun c1 => ?_)
  · replace h := h.1 c1
    refine z_iload_n 2 dX2_placeByLatest_57 rfl rfl ?_
    exact z_ret (v := some (z_i x2)) dX2_placeByLatest_58 ⟨rfl, Or.inl rfl⟩ rfl h
  · replace h := h.2 c1
    refine z_aload_n 0 dX2_placeByLatest_12 rfl rfl ?_
    refine z_iload_n 1 dX2_placeByLatest_13 rfl rfl ?_
    obtain ⟨q2, h⟩ := h
    refine z_callV (As := [z_i x1]) (rest := []) zmX2_latest znX2_latest zsX2_latest (show z_Cl[2]? = some (RX2, TX2, 7) from rfl) zlRX2_120 ⟨Nat.le_of_ble_eq_true rfl, Nat.le_of_ble_eq_true rfl⟩ dX2_placeByLatest_14 hh0.1 rfl rfl (z_ai z_a0) (Nat.le_of_ble_eq_true rfl) (Nat.le_of_ble_eq_true rfl) ⟨rfl, rfl⟩ ?_
    refine t_X2_latest hh0 q2 ?_
    show z_Sem mX2_placeByLatest (sh.length, 0) 17 [(0, z_r o0), (1, z_i x1), (2, z_i x2), (3, z_i x3)] [z_i (f_X2_latest w o0 x1)] (sh, w) Q
    refine z_aload_n 0 dX2_placeByLatest_17 rfl rfl ?_
    refine z_iload_n 3 dX2_placeByLatest_18 rfl rfl ?_
    obtain ⟨q3, h⟩ := h
    refine z_callV (As := [z_i x3]) (rest := [z_i (f_X2_latest w o0 x1)]) zmX2_latest znX2_latest zsX2_latest (show z_Cl[2]? = some (RX2, TX2, 7) from rfl) zlRX2_120 ⟨Nat.le_of_ble_eq_true rfl, Nat.le_of_ble_eq_true rfl⟩ dX2_placeByLatest_19 hh0.1 rfl rfl (z_ai z_a0) (Nat.le_of_ble_eq_true rfl) (Nat.le_of_ble_eq_true rfl) ⟨rfl, rfl⟩ ?_
    refine t_X2_latest hh0 q3 ?_
    show z_Sem mX2_placeByLatest (sh.length, 0) 22 [(0, z_r o0), (1, z_i x1), (2, z_i x2), (3, z_i x3)] [z_i (f_X2_latest w o0 x3), z_i (f_X2_latest w o0 x1)] (sh, w) Q
    obtain ⟨q4, h⟩ := h
    refine z_isub dX2_placeByLatest_22 q4 ?_
    refine z_nam (fun y5 hy5 => ?_)
    replace h := h y5 hy5
    refine z_istore (L' := [(4, z_i y5), (0, z_r o0), (1, z_i x1), (2, z_i x2), (3, z_i x3)]) dX2_placeByLatest_23 (by decide) rfl ?_
    refine z_iload_n 3 dX2_placeByLatest_25 rfl rfl ?_
    refine z_iload 0 dX2_placeByLatest_26 rfl ?_
    suffices hJ6 : z_Sem mX2_placeByLatest (sh.length, 0) 46 [(0, z_r o0), (1, z_i x1), (3, z_i x3)] [z_i (if 0 < y5 then 1 else if y5 = 0 then (if x1 ≤ x3 then 0 else 1) else 0), z_i x2] (sh, w) Q by
      refine z_if_gt (tgt := 41) dX2_placeByLatest_28 (by decide) (fun c7 => ?_) (fun c7 => ?_)
      · skip
        refine z_iconst dX2_placeByLatest_41 (by decide) ?_
        refine z_goto (tgt := 46) dX2_placeByLatest_42 (by decide) ?_
        refine z_sub (L' := [(0, z_r o0), (1, z_i x1), (3, z_i x3)]) [1, 2, 4] rfl ?_
        simp only [if_pos c7] at hJ6
        exact hJ6
      · skip
        refine z_iload 0 dX2_placeByLatest_31 rfl ?_
        suffices hJ10 : z_Sem mX2_placeByLatest (sh.length, 0) 46 [(0, z_r o0), (1, z_i x1), (3, z_i x3)] [z_i (if y5 = 0 then (if x1 ≤ x3 then 0 else 1) else 0), z_i x2] (sh, w) Q by
          refine z_if_ne (tgt := 45) dX2_placeByLatest_33 (by decide) (fun c11 => ?_) (fun c11 => ?_)
          · skip
            refine z_iconst dX2_placeByLatest_45 (by decide) ?_
            refine z_sub (L' := [(0, z_r o0), (1, z_i x1), (3, z_i x3)]) [1, 2, 4] rfl ?_
            simp only [if_neg c11] at hJ10
            exact hJ10
          · skip
            refine z_iload_n 4 dX2_placeByLatest_36 rfl rfl ?_
            refine z_iload_n 2 dX2_placeByLatest_37 rfl rfl ?_
            suffices hJ14 : z_Sem mX2_placeByLatest (sh.length, 0) 46 [(0, z_r o0), (1, z_i x1), (3, z_i x3)] [z_i (if x1 ≤ x3 then 0 else 1), z_i x2] (sh, w) Q by
              refine z_icmp_ge (tgt := 45) dX2_placeByLatest_38 (by decide) (fun c15 => ?_) (fun c15 => ?_)
              · skip
                refine z_iconst dX2_placeByLatest_45 (by decide) ?_
                refine z_sub (L' := [(0, z_r o0), (1, z_i x1), (3, z_i x3)]) [1, 2, 4] rfl ?_
                simp only [if_pos c15] at hJ14
                exact hJ14
              · skip
                refine z_iconst dX2_placeByLatest_41 (by decide) ?_
                refine z_goto (tgt := 46) dX2_placeByLatest_42 (by decide) ?_
                refine z_sub (L' := [(0, z_r o0), (1, z_i x1), (3, z_i x3)]) [1, 2, 4] rfl ?_
                simp only [if_neg c15] at hJ14
                exact hJ14
            simp only [if_pos c11] at hJ10
            exact hJ10
        simp only [if_neg c7] at hJ6
        exact hJ6
    refine z_callS (As := [z_i (if 0 < y5 then 1 else if y5 = 0 then (if x1 ≤ x3 then 0 else 1) else 0)]) (rest := [z_i x2]) zmX8_asNumber ztX8_asNumber zlRX2_132 ⟨Nat.le_of_ble_eq_true rfl, Nat.le_of_ble_eq_true rfl⟩ dX2_placeByLatest_46 rfl rfl (z_ai z_a0) (Nat.le_of_ble_eq_true rfl) (Nat.le_of_ble_eq_true rfl) ⟨rfl, rfl⟩ ?_
    refine t_X8_asNumber  ?_
    show z_Sem mX2_placeByLatest (sh.length, 0) 49 [(0, z_r o0), (1, z_i x1), (3, z_i x3)] [z_i (f_X8_asNumber w (if 0 < y5 then 1 else if y5 = 0 then (if x1 ≤ x3 then 0 else 1) else 0)), z_i x2] (sh, w) Q
    obtain ⟨q18, h⟩ := h
    refine z_iadd dX2_placeByLatest_49 q18 ?_
    refine z_nam (fun y19 hy19 => ?_)
    replace h := h y19 hy19
    refine z_istore_n (L' := [(2, z_i y19), (0, z_r o0), (1, z_i x1), (3, z_i x3)]) dX2_placeByLatest_50 rfl (by decide) rfl ?_
    obtain ⟨q20, h⟩ := h
    refine z_iinc (L' := [(3, z_i (x3 + 1)), (2, z_i y19), (0, z_r o0), (1, z_i x1)]) 3 dX2_placeByLatest_51 rfl (by decide) rfl q20 ?_
    refine z_goto (tgt := 4) dX2_placeByLatest_54 (by decide) ?_
    refine z_sub (L' := [(0, z_r o0), (1, z_i x1), (2, z_i y19), (3, z_i (x3 + 1))]) [2, 3, 1, 0] rfl ?_
    exact h
set_option maxRecDepth 100000 in
theorem t_X2_countOtherBounds {sh : List z_C} {w : Nat → Int → Int} {Q : Option z_V → z_S → Prop} {o0 : Nat} {o1 : Nat} (hh0 : z_isNet sh o0) (hh1 : z_isNet sh o1) (h : z_Sem mX2_countOtherBounds (sh.length, 0) 4 [(0, z_r o0), (1, z_r o1), (2, z_i 0), (3, z_i 0)] [] (sh, w) Q) : z_Sem mX2_countOtherBounds (sh.length, 0) 0 [(0, z_r o0), (1, z_r o1)] [] (sh, w) Q := by
  refine z_iconst dX2_countOtherBounds_0 (by decide) ?_
  refine z_istore_n (L' := [(2, z_i 0), (0, z_r o0), (1, z_r o1)]) dX2_countOtherBounds_1 rfl (by decide) rfl ?_
  refine z_iconst dX2_countOtherBounds_2 (by decide) ?_
  refine z_istore_n (L' := [(3, z_i 0), (2, z_i 0), (0, z_r o0), (1, z_r o1)]) dX2_countOtherBounds_3 rfl (by decide) rfl ?_
  refine z_sub (L' := [(0, z_r o0), (1, z_r o1), (2, z_i 0), (3, z_i 0)]) [2, 3, 1, 0] rfl ?_
  exact h
set_option maxRecDepth 100000 in
theorem t_X2_countOtherBounds_4 {sh : List z_C} {w : Nat → Int → Int} {Q : Option z_V → z_S → Prop} {o0 : Nat} {o1 : Nat} {x2 : Int} {x3 : Int} (hh0 : z_isNet sh o0) (hh1 : z_isNet sh o1) (h : (((w o0 6) ≤ x3 → Q (some (z_i x2)) (sh, w)) ∧ (¬ (w o0 6) ≤ x3 → z_Sem mX2_countOtherBounds (sh.length, 0) 15 [(0, z_r o0), (1, z_r o1), (2, z_i x2), (3, z_i x3), (4, z_i 0)] [] (sh, w) Q))) : z_Sem mX2_countOtherBounds (sh.length, 0) 4 [(0, z_r o0), (1, z_r o1), (2, z_i x2), (3, z_i x3)] [] (sh, w) Q := by
  refine z_iload_n 3 dX2_countOtherBounds_4 rfl rfl ?_
  refine z_aload_n 0 dX2_countOtherBounds_5 rfl rfl ?_
  refine z_getI (ki := 6) zfRX2_33 dX2_countOtherBounds_6 hh0.1 rfl rfl ?_
  refine z_icmp_ge (tgt := 64) dX2_countOtherBounds_9 (by decide) (fun c1 => ?_) (fun c1 => ?_)
  · replace h := h.1 c1
    refine z_iload_n 2 dX2_countOtherBounds_64 rfl rfl ?_
    exact z_ret (v := some (z_i x2)) dX2_countOtherBounds_65 ⟨rfl, Or.inl rfl⟩ rfl h
  · replace h := h.2 c1
    refine z_iconst dX2_countOtherBounds_12 (by decide) ?_
    refine z_istore (L' := [(4, z_i 0), (0, z_r o0), (1, z_r o1), (2, z_i x2), (3, z_i x3)]) dX2_countOtherBounds_13 (by decide) rfl ?_
    refine z_sub (L' := [(0, z_r o0), (1, z_r o1), (2, z_i x2), (3, z_i x3), (4, z_i 0)]) [1, 2, 3, 4, 0] rfl ?_
    exact h
set_option maxRecDepth 100000 in
theorem t_X2_countOtherBounds_15 {sh : List z_C} {w : Nat → Int → Int} {Q : Option z_V → z_S → Prop} {o0 : Nat} {o1 : Nat} {x2 : Int} {x3 : Int} {x4 : Int} (hh0 : z_isNet sh o0) (hh1 : z_isNet sh o1) (h : (((w o0 6) ≤ x4 → (z_R (x3 + 1)) ∧ z_Sem mX2_countOtherBounds (sh.length, 0) 4 [(0, z_r o0), (1, z_r o1), (2, z_i x2), (3, z_i (x3 + 1))] [] (sh, w) Q) ∧ (¬ (w o0 6) ≤ x4 → (s_X2_between w o0 x3 x4) ∧ (s_X2_between w o1 x3 x4) ∧ (z_R (x2 + (f_X8_asNumber w (if (f_X2_between w o0 x3 x4) = (f_X2_between w o1 x3 x4) then 0 else 1)))) ∧ ∀ y10 : Int, y10 = (x2 + (f_X8_asNumber w (if (f_X2_between w o0 x3 x4) = (f_X2_between w o1 x3 x4) then 0 else 1))) → (z_R (x4 + 1)) ∧ z_Sem mX2_countOtherBounds (sh.length, 0) 15 [(0, z_r o0), (1, z_r o1), (2, z_i y10), (3, z_i x3), (4, z_i (x4 + 1))] [] (sh, w) Q))) : z_Sem mX2_countOtherBounds (sh.length, 0) 15 [(0, z_r o0), (1, z_r o1), (2, z_i x2), (3, z_i x3), (4, z_i x4)] [] (sh, w) Q := by
  refine z_iload 4 dX2_countOtherBounds_15 rfl ?_
  refine z_aload_n 0 dX2_countOtherBounds_17 rfl rfl ?_
  refine z_getI (ki := 6) zfRX2_33 dX2_countOtherBounds_18 hh0.1 rfl rfl ?_
  refine z_icmp_ge (tgt := 58) dX2_countOtherBounds_21 (by decide) (fun c1 => ?_) (fun c1 => ?_)
  · replace h := h.1 c1
    obtain ⟨q2, h⟩ := h
    refine z_iinc (L' := [(3, z_i (x3 + 1)), (0, z_r o0), (1, z_r o1), (2, z_i x2), (4, z_i x4)]) 3 dX2_countOtherBounds_58 rfl (by decide) rfl q2 ?_
    refine z_goto (tgt := 4) dX2_countOtherBounds_61 (by decide) ?_
    refine z_sub (L' := [(0, z_r o0), (1, z_r o1), (2, z_i x2), (3, z_i (x3 + 1))]) [1, 2, 3, 0] rfl ?_
    exact h
  · replace h := h.2 c1
    refine z_iload_n 2 dX2_countOtherBounds_24 rfl rfl ?_
    refine z_aload_n 0 dX2_countOtherBounds_25 rfl rfl ?_
    refine z_iload_n 3 dX2_countOtherBounds_26 rfl rfl ?_
    refine z_iload 4 dX2_countOtherBounds_27 rfl ?_
    obtain ⟨q3, h⟩ := h
    refine z_callV (As := [z_i x3, z_i x4]) (rest := [z_i x2]) zmX2_between znX2_between zsX2_between (show z_Cl[2]? = some (RX2, TX2, 7) from rfl) zlRX2_117 ⟨Nat.le_of_ble_eq_true rfl, Nat.le_of_ble_eq_true rfl⟩ dX2_countOtherBounds_29 hh0.1 rfl rfl (z_ai (z_ai z_a0)) (Nat.le_of_ble_eq_true rfl) (Nat.le_of_ble_eq_true rfl) ⟨rfl, rfl⟩ ?_
    refine t_X2_between hh0 q3 ?_
    show z_Sem mX2_countOtherBounds (sh.length, 0) 32 [(0, z_r o0), (1, z_r o1), (2, z_i x2), (3, z_i x3), (4, z_i x4)] [z_i (f_X2_between w o0 x3 x4), z_i x2] (sh, w) Q
    refine z_aload_n 1 dX2_countOtherBounds_32 rfl rfl ?_
    refine z_iload_n 3 dX2_countOtherBounds_33 rfl rfl ?_
    refine z_iload 4 dX2_countOtherBounds_34 rfl ?_
    obtain ⟨q4, h⟩ := h
    refine z_callV (As := [z_i x3, z_i x4]) (rest := [z_i (f_X2_between w o0 x3 x4), z_i x2]) zmX2_between znX2_between zsX2_between (show z_Cl[2]? = some (RX2, TX2, 7) from rfl) zlRX2_117 ⟨Nat.le_of_ble_eq_true rfl, Nat.le_of_ble_eq_true rfl⟩ dX2_countOtherBounds_36 hh1.1 rfl rfl (z_ai (z_ai z_a0)) (Nat.le_of_ble_eq_true rfl) (Nat.le_of_ble_eq_true rfl) ⟨rfl, rfl⟩ ?_
    refine t_X2_between hh1 q4 ?_
    show z_Sem mX2_countOtherBounds (sh.length, 0) 39 [(0, z_r o0), (1, z_r o1), (2, z_i x2), (3, z_i x3), (4, z_i x4)] [z_i (f_X2_between w o1 x3 x4), z_i (f_X2_between w o0 x3 x4), z_i x2] (sh, w) Q
    suffices hJ5 : z_Sem mX2_countOtherBounds (sh.length, 0) 47 [(0, z_r o0), (1, z_r o1), (3, z_i x3), (4, z_i x4)] [z_i (if (f_X2_between w o0 x3 x4) = (f_X2_between w o1 x3 x4) then 0 else 1), z_i x2] (sh, w) Q by
      refine z_icmp_eq (tgt := 46) dX2_countOtherBounds_39 (by decide) (fun c6 => ?_) (fun c6 => ?_)
      · skip
        refine z_iconst dX2_countOtherBounds_46 (by decide) ?_
        refine z_sub (L' := [(0, z_r o0), (1, z_r o1), (3, z_i x3), (4, z_i x4)]) [0, 1, 3, 4] rfl ?_
        simp only [if_pos c6] at hJ5
        exact hJ5
      · skip
        refine z_iconst dX2_countOtherBounds_42 (by decide) ?_
        refine z_goto (tgt := 47) dX2_countOtherBounds_43 (by decide) ?_
        refine z_sub (L' := [(0, z_r o0), (1, z_r o1), (3, z_i x3), (4, z_i x4)]) [0, 1, 3, 4] rfl ?_
        simp only [if_neg c6] at hJ5
        exact hJ5
    refine z_callS (As := [z_i (if (f_X2_between w o0 x3 x4) = (f_X2_between w o1 x3 x4) then 0 else 1)]) (rest := [z_i x2]) zmX8_asNumber ztX8_asNumber zlRX2_132 ⟨Nat.le_of_ble_eq_true rfl, Nat.le_of_ble_eq_true rfl⟩ dX2_countOtherBounds_47 rfl rfl (z_ai z_a0) (Nat.le_of_ble_eq_true rfl) (Nat.le_of_ble_eq_true rfl) ⟨rfl, rfl⟩ ?_
    refine t_X8_asNumber  ?_
    show z_Sem mX2_countOtherBounds (sh.length, 0) 50 [(0, z_r o0), (1, z_r o1), (3, z_i x3), (4, z_i x4)] [z_i (f_X8_asNumber w (if (f_X2_between w o0 x3 x4) = (f_X2_between w o1 x3 x4) then 0 else 1)), z_i x2] (sh, w) Q
    obtain ⟨q9, h⟩ := h
    refine z_iadd dX2_countOtherBounds_50 q9 ?_
    refine z_nam (fun y10 hy10 => ?_)
    replace h := h y10 hy10
    refine z_istore_n (L' := [(2, z_i y10), (0, z_r o0), (1, z_r o1), (3, z_i x3), (4, z_i x4)]) dX2_countOtherBounds_51 rfl (by decide) rfl ?_
    obtain ⟨q11, h⟩ := h
    refine z_iinc (L' := [(4, z_i (x4 + 1)), (2, z_i y10), (0, z_r o0), (1, z_r o1), (3, z_i x3)]) 4 dX2_countOtherBounds_52 rfl (by decide) rfl q11 ?_
    refine z_goto (tgt := 15) dX2_countOtherBounds_55 (by decide) ?_
    refine z_sub (L' := [(0, z_r o0), (1, z_r o1), (2, z_i y10), (3, z_i x3), (4, z_i (x4 + 1))]) [2, 3, 1, 4, 0] rfl ?_
    exact h
set_option maxRecDepth 100000 in
theorem t_X2_countOtherTimes {sh : List z_C} {w : Nat → Int → Int} {Q : Option z_V → z_S → Prop} {o0 : Nat} {o1 : Nat} (hh0 : z_isNet sh o0) (hh1 : z_isNet sh o1) (h : z_Sem mX2_countOtherTimes (sh.length, 0) 4 [(0, z_r o0), (1, z_r o1), (2, z_i 0), (3, z_i 0)] [] (sh, w) Q) : z_Sem mX2_countOtherTimes (sh.length, 0) 0 [(0, z_r o0), (1, z_r o1)] [] (sh, w) Q := by
  refine z_iconst dX2_countOtherTimes_0 (by decide) ?_
  refine z_istore_n (L' := [(2, z_i 0), (0, z_r o0), (1, z_r o1)]) dX2_countOtherTimes_1 rfl (by decide) rfl ?_
  refine z_iconst dX2_countOtherTimes_2 (by decide) ?_
  refine z_istore_n (L' := [(3, z_i 0), (2, z_i 0), (0, z_r o0), (1, z_r o1)]) dX2_countOtherTimes_3 rfl (by decide) rfl ?_
  refine z_sub (L' := [(0, z_r o0), (1, z_r o1), (2, z_i 0), (3, z_i 0)]) [2, 3, 1, 0] rfl ?_
  exact h
set_option maxRecDepth 100000 in
theorem t_X2_countOtherTimes_4 {sh : List z_C} {w : Nat → Int → Int} {Q : Option z_V → z_S → Prop} {o0 : Nat} {o1 : Nat} {x2 : Int} {x3 : Int} (hh0 : z_isNet sh o0) (hh1 : z_isNet sh o1) (h : (((w o0 6) ≤ x3 → Q (some (z_i x2)) (sh, w)) ∧ (¬ (w o0 6) ≤ x3 → (s_X2_earliest w o0 x3) ∧ (s_X2_earliest w o1 x3) ∧ ((f_X2_earliest w o0 x3) = (f_X2_earliest w o1 x3) → (s_X2_latest w o0 x3) ∧ (s_X2_latest w o1 x3) ∧ True) ∧ (z_R (x2 + (f_X8_asNumber w (if (f_X2_earliest w o0 x3) = (f_X2_earliest w o1 x3) then (if (f_X2_latest w o0 x3) = (f_X2_latest w o1 x3) then 0 else 1) else 1)))) ∧ ∀ y16 : Int, y16 = (x2 + (f_X8_asNumber w (if (f_X2_earliest w o0 x3) = (f_X2_earliest w o1 x3) then (if (f_X2_latest w o0 x3) = (f_X2_latest w o1 x3) then 0 else 1) else 1))) → (z_R (x3 + 1)) ∧ z_Sem mX2_countOtherTimes (sh.length, 0) 4 [(0, z_r o0), (1, z_r o1), (2, z_i y16), (3, z_i (x3 + 1))] [] (sh, w) Q))) : z_Sem mX2_countOtherTimes (sh.length, 0) 4 [(0, z_r o0), (1, z_r o1), (2, z_i x2), (3, z_i x3)] [] (sh, w) Q := by
  refine z_iload_n 3 dX2_countOtherTimes_4 rfl rfl ?_
  refine z_aload_n 0 dX2_countOtherTimes_5 rfl rfl ?_
  refine z_getI (ki := 6) zfRX2_33 dX2_countOtherTimes_6 hh0.1 rfl rfl ?_
  refine z_icmp_ge (tgt := 55) dX2_countOtherTimes_9 (by decide) (fun c1 => ?_) (fun c1 => ?_)
  · replace h := h.1 c1
    refine z_iload_n 2 dX2_countOtherTimes_55 rfl rfl ?_
    exact z_ret (v := some (z_i x2)) dX2_countOtherTimes_56 ⟨rfl, Or.inl rfl⟩ rfl h
  · replace h := h.2 c1
    refine z_iload_n 2 dX2_countOtherTimes_12 rfl rfl ?_
    refine z_aload_n 0 dX2_countOtherTimes_13 rfl rfl ?_
    refine z_iload_n 3 dX2_countOtherTimes_14 rfl rfl ?_
    obtain ⟨q2, h⟩ := h
    refine z_callV (As := [z_i x3]) (rest := [z_i x2]) zmX2_earliest znX2_earliest zsX2_earliest (show z_Cl[2]? = some (RX2, TX2, 7) from rfl) zlRX2_123 ⟨Nat.le_of_ble_eq_true rfl, Nat.le_of_ble_eq_true rfl⟩ dX2_countOtherTimes_15 hh0.1 rfl rfl (z_ai z_a0) (Nat.le_of_ble_eq_true rfl) (Nat.le_of_ble_eq_true rfl) ⟨rfl, rfl⟩ ?_
    refine t_X2_earliest hh0 q2 ?_
    show z_Sem mX2_countOtherTimes (sh.length, 0) 18 [(0, z_r o0), (1, z_r o1), (2, z_i x2), (3, z_i x3)] [z_i (f_X2_earliest w o0 x3), z_i x2] (sh, w) Q
    refine z_aload_n 1 dX2_countOtherTimes_18 rfl rfl ?_
    refine z_iload_n 3 dX2_countOtherTimes_19 rfl rfl ?_
    obtain ⟨q3, h⟩ := h
    refine z_callV (As := [z_i x3]) (rest := [z_i (f_X2_earliest w o0 x3), z_i x2]) zmX2_earliest znX2_earliest zsX2_earliest (show z_Cl[2]? = some (RX2, TX2, 7) from rfl) zlRX2_123 ⟨Nat.le_of_ble_eq_true rfl, Nat.le_of_ble_eq_true rfl⟩ dX2_countOtherTimes_20 hh1.1 rfl rfl (z_ai z_a0) (Nat.le_of_ble_eq_true rfl) (Nat.le_of_ble_eq_true rfl) ⟨rfl, rfl⟩ ?_
    refine t_X2_earliest hh1 q3 ?_
    show z_Sem mX2_countOtherTimes (sh.length, 0) 23 [(0, z_r o0), (1, z_r o1), (2, z_i x2), (3, z_i x3)] [z_i (f_X2_earliest w o1 x3), z_i (f_X2_earliest w o0 x3), z_i x2] (sh, w) Q
    obtain ⟨m6, h⟩ := h
    suffices hJ4 : z_Sem mX2_countOtherTimes (sh.length, 0) 44 [(0, z_r o0), (1, z_r o1), (3, z_i x3)] [z_i (if (f_X2_earliest w o0 x3) = (f_X2_earliest w o1 x3) then (if (f_X2_latest w o0 x3) = (f_X2_latest w o1 x3) then 0 else 1) else 1), z_i x2] (sh, w) Q by
      refine z_icmp_ne (tgt := 39) dX2_countOtherTimes_23 (by decide) (fun c5 => ?_) (fun c5 => ?_)
      · skip
        refine z_iconst dX2_countOtherTimes_39 (by decide) ?_
        refine z_goto (tgt := 44) dX2_countOtherTimes_40 (by decide) ?_
        refine z_sub (L' := [(0, z_r o0), (1, z_r o1), (3, z_i x3)]) [0, 1, 3] rfl ?_
        simp only [if_neg c5] at hJ4
        exact hJ4
      · skip
        have ho8 := m6 c5
        refine z_aload_n 0 dX2_countOtherTimes_26 rfl rfl ?_
        refine z_iload_n 3 dX2_countOtherTimes_27 rfl rfl ?_
        obtain ⟨q9, ho8⟩ := ho8
        refine z_callV (As := [z_i x3]) (rest := [z_i x2]) zmX2_latest znX2_latest zsX2_latest (show z_Cl[2]? = some (RX2, TX2, 7) from rfl) zlRX2_120 ⟨Nat.le_of_ble_eq_true rfl, Nat.le_of_ble_eq_true rfl⟩ dX2_countOtherTimes_28 hh0.1 rfl rfl (z_ai z_a0) (Nat.le_of_ble_eq_true rfl) (Nat.le_of_ble_eq_true rfl) ⟨rfl, rfl⟩ ?_
        refine t_X2_latest hh0 q9 ?_
        show z_Sem mX2_countOtherTimes (sh.length, 0) 31 [(0, z_r o0), (1, z_r o1), (2, z_i x2), (3, z_i x3)] [z_i (f_X2_latest w o0 x3), z_i x2] (sh, w) Q
        refine z_aload_n 1 dX2_countOtherTimes_31 rfl rfl ?_
        refine z_iload_n 3 dX2_countOtherTimes_32 rfl rfl ?_
        obtain ⟨q10, ho8⟩ := ho8
        refine z_callV (As := [z_i x3]) (rest := [z_i (f_X2_latest w o0 x3), z_i x2]) zmX2_latest znX2_latest zsX2_latest (show z_Cl[2]? = some (RX2, TX2, 7) from rfl) zlRX2_120 ⟨Nat.le_of_ble_eq_true rfl, Nat.le_of_ble_eq_true rfl⟩ dX2_countOtherTimes_33 hh1.1 rfl rfl (z_ai z_a0) (Nat.le_of_ble_eq_true rfl) (Nat.le_of_ble_eq_true rfl) ⟨rfl, rfl⟩ ?_
        refine t_X2_latest hh1 q10 ?_
        show z_Sem mX2_countOtherTimes (sh.length, 0) 36 [(0, z_r o0), (1, z_r o1), (2, z_i x2), (3, z_i x3)] [z_i (f_X2_latest w o1 x3), z_i (f_X2_latest w o0 x3), z_i x2] (sh, w) Q
        suffices hJ11 : z_Sem mX2_countOtherTimes (sh.length, 0) 44 [(0, z_r o0), (1, z_r o1), (3, z_i x3)] [z_i (if (f_X2_latest w o0 x3) = (f_X2_latest w o1 x3) then 0 else 1), z_i x2] (sh, w) Q by
          refine z_icmp_eq (tgt := 43) dX2_countOtherTimes_36 (by decide) (fun c12 => ?_) (fun c12 => ?_)
          · skip
            refine z_iconst dX2_countOtherTimes_43 (by decide) ?_
            refine z_sub (L' := [(0, z_r o0), (1, z_r o1), (3, z_i x3)]) [0, 1, 3] rfl ?_
            simp only [if_pos c12] at hJ11
            exact hJ11
          · skip
            refine z_iconst dX2_countOtherTimes_39 (by decide) ?_
            refine z_goto (tgt := 44) dX2_countOtherTimes_40 (by decide) ?_
            refine z_sub (L' := [(0, z_r o0), (1, z_r o1), (3, z_i x3)]) [0, 1, 3] rfl ?_
            simp only [if_neg c12] at hJ11
            exact hJ11
        simp only [if_pos c5] at hJ4
        exact hJ4
    refine z_callS (As := [z_i (if (f_X2_earliest w o0 x3) = (f_X2_earliest w o1 x3) then (if (f_X2_latest w o0 x3) = (f_X2_latest w o1 x3) then 0 else 1) else 1)]) (rest := [z_i x2]) zmX8_asNumber ztX8_asNumber zlRX2_132 ⟨Nat.le_of_ble_eq_true rfl, Nat.le_of_ble_eq_true rfl⟩ dX2_countOtherTimes_44 rfl rfl (z_ai z_a0) (Nat.le_of_ble_eq_true rfl) (Nat.le_of_ble_eq_true rfl) ⟨rfl, rfl⟩ ?_
    refine t_X8_asNumber  ?_
    show z_Sem mX2_countOtherTimes (sh.length, 0) 47 [(0, z_r o0), (1, z_r o1), (3, z_i x3)] [z_i (f_X8_asNumber w (if (f_X2_earliest w o0 x3) = (f_X2_earliest w o1 x3) then (if (f_X2_latest w o0 x3) = (f_X2_latest w o1 x3) then 0 else 1) else 1)), z_i x2] (sh, w) Q
    obtain ⟨q15, h⟩ := h
    refine z_iadd dX2_countOtherTimes_47 q15 ?_
    refine z_nam (fun y16 hy16 => ?_)
    replace h := h y16 hy16
    refine z_istore_n (L' := [(2, z_i y16), (0, z_r o0), (1, z_r o1), (3, z_i x3)]) dX2_countOtherTimes_48 rfl (by decide) rfl ?_
    obtain ⟨q17, h⟩ := h
    refine z_iinc (L' := [(3, z_i (x3 + 1)), (2, z_i y16), (0, z_r o0), (1, z_r o1)]) 3 dX2_countOtherTimes_49 rfl (by decide) rfl q17 ?_
    refine z_goto (tgt := 4) dX2_countOtherTimes_52 (by decide) ?_
    refine z_sub (L' := [(0, z_r o0), (1, z_r o1), (2, z_i y16), (3, z_i (x3 + 1))]) [2, 3, 1, 0] rfl ?_
    exact h
set_option maxRecDepth 100000 in
theorem t_X3_addStart {sh : List z_C} {w : Nat → Int → Int} {Q : Option z_V → z_S → Prop} {o0 : Nat} (hh0 : z_isPla sh o0) (h : z_Sem mX3_addStart (sh.length, 0) 5 [(0, z_r o0), (1, z_r (1001 + 0)), (2, z_i 0)] [] (sh, w) Q) : z_Sem mX3_addStart (sh.length, 0) 0 [(0, z_r o0)] [] (sh, w) Q := by
  refine z_ldcS (i := 0) rfl dX3_addStart_0 ?_
  refine z_astore_n (L' := [(1, z_r (1001 + 0)), (0, z_r o0)]) dX3_addStart_2 rfl (by decide) rfl ?_
  refine z_iconst dX3_addStart_3 (by decide) ?_
  refine z_istore_n (L' := [(2, z_i 0), (1, z_r (1001 + 0)), (0, z_r o0)]) dX3_addStart_4 rfl (by decide) rfl ?_
  refine z_sub (L' := [(0, z_r o0), (1, z_r (1001 + 0)), (2, z_i 0)]) [2, 1, 0] rfl ?_
  exact h
set_option maxRecDepth 100000 in
theorem t_X3_addStart_5 {sh : List z_C} {w : Nat → Int → Int} {Q : Option z_V → z_S → Prop} {o0 : Nat} {x2 : Int} (hh0 : z_isPla sh o0) (h : (((f_J0_length_8abf5 w 0) ≤ x2 → ∀ w2 : Nat → Int → Int, w2 = z_W w (o0 + 2) 0 (f_J0_length_8abf5 w 0) → ∀ w3 : Nat → Int → Int, w3 = z_W w2 (o0 + 3) 0 (-1) → ∀ w4 : Nat → Int → Int, w4 = z_W w3 o0 10 1 → Q none (sh, w4)) ∧ (¬ (f_J0_length_8abf5 w 0) ≤ x2 → ((5 ≤ x2 → ∀ w6 : Nat → Int → Int, w6 = z_W w (o0 + 2) 0 (f_J0_length_8abf5 w 0) → ∀ w7 : Nat → Int → Int, w7 = z_W w6 (o0 + 3) 0 (-1) → ∀ w8 : Nat → Int → Int, w8 = z_W w7 o0 10 1 → Q none (sh, w8)) ∧ (¬ 5 ≤ x2 → (z_R (0 + x2)) ∧ (s_J0_charAt_5068e w 0 x2) ∧ ((0 : Int) ≤ (0 + x2) ∧ (0 + x2) < 50) ∧ ∀ w11 : Nat → Int → Int, w11 = z_W w (o0 + 1) (0 + x2) (f_J0_charAt_5068e w 0 x2) → (z_R (x2 + 1)) ∧ z_Sem mX3_addStart (sh.length, 0) 5 [(0, z_r o0), (1, z_r (1001 + 0)), (2, z_i (x2 + 1))] [] (sh, w11) Q))))) : z_Sem mX3_addStart (sh.length, 0) 5 [(0, z_r o0), (1, z_r (1001 + 0)), (2, z_i x2)] [] (sh, w) Q := by
  refine z_iload_n 2 dX3_addStart_5 rfl rfl ?_
  refine z_aload_n 1 dX3_addStart_6 rfl rfl ?_
  refine z_callVS (i := 0) (As := []) (rest := [z_i x2]) (by decide) zmJ0_length_8abf5 znJ0_length_8abf5 zsJ0_length_8abf5 zlRX3_62 ⟨Nat.le_of_ble_eq_true rfl, Nat.le_of_ble_eq_true rfl⟩ dX3_addStart_7 rfl rfl z_a0 (Nat.le_of_ble_eq_true rfl) (Nat.le_of_ble_eq_true rfl) ⟨rfl, rfl⟩ ?_
  refine t_J0_length_8abf5 (by decide) ?_
  show z_Sem mX3_addStart (sh.length, 0) 10 [(0, z_r o0), (1, z_r (1001 + 0)), (2, z_i x2)] [z_i (f_J0_length_8abf5 w 0), z_i x2] (sh, w) Q
  refine z_icmp_ge (tgt := 37) dX3_addStart_10 (by decide) (fun c1 => ?_) (fun c1 => ?_)
  · replace h := h.1 c1
    refine z_aload_n 0 dX3_addStart_37 rfl rfl ?_
    refine z_getR (r := (o0 + 2)) zfRX3_15 dX3_addStart_38 hh0.1 rfl ?_
    refine z_iconst dX3_addStart_41 (by decide) ?_
    refine z_aload_n 1 dX3_addStart_42 rfl rfl ?_
    refine z_callVS (i := 0) (As := []) (rest := [z_i 0, z_r (o0 + 2)]) (by decide) zmJ0_length_8abf5 znJ0_length_8abf5 zsJ0_length_8abf5 zlRX3_62 ⟨Nat.le_of_ble_eq_true rfl, Nat.le_of_ble_eq_true rfl⟩ dX3_addStart_43 rfl rfl z_a0 (Nat.le_of_ble_eq_true rfl) (Nat.le_of_ble_eq_true rfl) ⟨rfl, rfl⟩ ?_
    refine t_J0_length_8abf5 (by decide) ?_
    show z_Sem mX3_addStart (sh.length, 0) 46 [(0, z_r o0), (1, z_r (1001 + 0)), (2, z_i x2)] [z_i (f_J0_length_8abf5 w 0), z_i 0, z_r (o0 + 2)] (sh, w) Q
    refine z_iast dX3_addStart_46 hh0.2.2.1 (by decide) ?_
    refine z_genw (fun w2 hw2 => ?_)
    replace h := h w2 hw2
    refine z_aload_n 0 dX3_addStart_47 rfl rfl ?_
    refine z_getR (r := (o0 + 3)) zfRX3_18 dX3_addStart_48 hh0.1 rfl ?_
    refine z_iconst dX3_addStart_51 (by decide) ?_
    refine z_iconst dX3_addStart_52 (by decide) ?_
    refine z_iast dX3_addStart_53 hh0.2.2.2.1 (by decide) ?_
    refine z_genw (fun w3 hw3 => ?_)
    replace h := h w3 hw3
    refine z_aload_n 0 dX3_addStart_54 rfl rfl ?_
    refine z_iconst dX3_addStart_55 (by decide) ?_
    refine z_putI (ki := 10) zfRX3_48 dX3_addStart_56 hh0.1 rfl rfl ?_
    refine z_genw (fun w4 hw4 => ?_)
    replace h := h w4 hw4
    exact z_ret (v := none) dX3_addStart_59 ⟨rfl, rfl⟩ rfl h
  · replace h := h.2 c1
    refine z_iload_n 2 dX3_addStart_13 rfl rfl ?_
    refine z_iconst dX3_addStart_14 (by decide) ?_
    refine z_icmp_ge (tgt := 37) dX3_addStart_15 (by decide) (fun c5 => ?_) (fun c5 => ?_)
    · replace h := h.1 c5
      refine z_aload_n 0 dX3_addStart_37 rfl rfl ?_
      refine z_getR (r := (o0 + 2)) zfRX3_15 dX3_addStart_38 hh0.1 rfl ?_
      refine z_iconst dX3_addStart_41 (by decide) ?_
      refine z_aload_n 1 dX3_addStart_42 rfl rfl ?_
      refine z_callVS (i := 0) (As := []) (rest := [z_i 0, z_r (o0 + 2)]) (by decide) zmJ0_length_8abf5 znJ0_length_8abf5 zsJ0_length_8abf5 zlRX3_62 ⟨Nat.le_of_ble_eq_true rfl, Nat.le_of_ble_eq_true rfl⟩ dX3_addStart_43 rfl rfl z_a0 (Nat.le_of_ble_eq_true rfl) (Nat.le_of_ble_eq_true rfl) ⟨rfl, rfl⟩ ?_
      refine t_J0_length_8abf5 (by decide) ?_
      show z_Sem mX3_addStart (sh.length, 0) 46 [(0, z_r o0), (1, z_r (1001 + 0)), (2, z_i x2)] [z_i (f_J0_length_8abf5 w 0), z_i 0, z_r (o0 + 2)] (sh, w) Q
      refine z_iast dX3_addStart_46 hh0.2.2.1 (by decide) ?_
      refine z_genw (fun w6 hw6 => ?_)
      replace h := h w6 hw6
      refine z_aload_n 0 dX3_addStart_47 rfl rfl ?_
      refine z_getR (r := (o0 + 3)) zfRX3_18 dX3_addStart_48 hh0.1 rfl ?_
      refine z_iconst dX3_addStart_51 (by decide) ?_
      refine z_iconst dX3_addStart_52 (by decide) ?_
      refine z_iast dX3_addStart_53 hh0.2.2.2.1 (by decide) ?_
      refine z_genw (fun w7 hw7 => ?_)
      replace h := h w7 hw7
      refine z_aload_n 0 dX3_addStart_54 rfl rfl ?_
      refine z_iconst dX3_addStart_55 (by decide) ?_
      refine z_putI (ki := 10) zfRX3_48 dX3_addStart_56 hh0.1 rfl rfl ?_
      refine z_genw (fun w8 hw8 => ?_)
      replace h := h w8 hw8
      exact z_ret (v := none) dX3_addStart_59 ⟨rfl, rfl⟩ rfl h
    · replace h := h.2 c5
      refine z_aload_n 0 dX3_addStart_18 rfl rfl ?_
      refine z_getR (r := (o0 + 1)) zfRX3_9 dX3_addStart_19 hh0.1 rfl ?_
      refine z_iconst dX3_addStart_22 (by decide) ?_
      refine z_iload_n 2 dX3_addStart_23 rfl rfl ?_
      obtain ⟨q9, h⟩ := h
      refine z_iadd dX3_addStart_24 q9 ?_
      refine z_aload_n 1 dX3_addStart_25 rfl rfl ?_
      refine z_iload_n 2 dX3_addStart_26 rfl rfl ?_
      obtain ⟨q10, h⟩ := h
      refine z_callVS (i := 0) (As := [z_i x2]) (rest := [z_i (0 + x2), z_r (o0 + 1)]) (by decide) zmJ0_charAt_5068e znJ0_charAt_5068e zsJ0_charAt_5068e zlRX3_68 ⟨Nat.le_of_ble_eq_true rfl, Nat.le_of_ble_eq_true rfl⟩ dX3_addStart_27 rfl rfl (z_ai z_a0) (Nat.le_of_ble_eq_true rfl) (Nat.le_of_ble_eq_true rfl) ⟨rfl, rfl⟩ ?_
      refine t_J0_charAt_5068e (by decide) q10 ?_
      show z_Sem mX3_addStart (sh.length, 0) 30 [(0, z_r o0), (1, z_r (1001 + 0)), (2, z_i x2)] [z_i (f_J0_charAt_5068e w 0 x2), z_i (0 + x2), z_r (o0 + 1)] (sh, w) Q
      obtain ⟨q12, h⟩ := h
      refine z_iast dX3_addStart_30 hh0.2.1 q12 ?_
      refine z_genw (fun w11 hw11 => ?_)
      replace h := h w11 hw11
      obtain ⟨q13, h⟩ := h
      refine z_iinc (L' := [(2, z_i (x2 + 1)), (0, z_r o0), (1, z_r (1001 + 0))]) 2 dX3_addStart_31 rfl (by decide) rfl q13 ?_
      refine z_goto (tgt := 5) dX3_addStart_34 (by decide) ?_
      refine z_sub (L' := [(0, z_r o0), (1, z_r (1001 + 0)), (2, z_i (x2 + 1))]) [1, 2, 0] rfl ?_
      exact h
set_option maxRecDepth 100000 in
theorem t_X3_clear {sh : List z_C} {w : Nat → Int → Int} {Q : Option z_V → z_S → Prop} {o0 : Nat} (hh0 : z_isPla sh o0) (h : ∀ w1 : Nat → Int → Int, w1 = z_W w o0 9 100 → ∀ w2 : Nat → Int → Int, w2 = z_W w1 o0 10 0 → ∀ w3 : Nat → Int → Int, w3 = z_W w2 o0 11 0 → z_CV mX1_clear [z_r (o0 + 9)] sh w3 (fun w4 => z_CV mX3_addStart [z_r o0] sh w4 (fun w5 => Q none (sh, w5)))) : z_Sem mX3_clear (sh.length, 0) 0 [(0, z_r o0)] [] (sh, w) Q := by
  refine z_aload_n 0 dX3_clear_0 rfl rfl ?_
  refine z_bipush dX3_clear_1 (by decide) (by decide) ?_
  refine z_putI (ki := 9) zfRX3_44 dX3_clear_3 hh0.1 rfl rfl ?_
  refine z_genw (fun w1 hw1 => ?_)
  replace h := h w1 hw1
  refine z_aload_n 0 dX3_clear_6 rfl rfl ?_
  refine z_iconst dX3_clear_7 (by decide) ?_
  refine z_putI (ki := 10) zfRX3_48 dX3_clear_8 hh0.1 rfl rfl ?_
  refine z_genw (fun w2 hw2 => ?_)
  replace h := h w2 hw2
  refine z_aload_n 0 dX3_clear_11 rfl rfl ?_
  refine z_iconst dX3_clear_12 (by decide) ?_
  refine z_putI (ki := 11) zfRX3_51 dX3_clear_13 hh0.1 rfl rfl ?_
  refine z_genw (fun w3 hw3 => ?_)
  replace h := h w3 hw3
  refine z_aload_n 0 dX3_clear_16 rfl rfl ?_
  refine z_getR (r := (o0 + 9)) zfRX3_40 dX3_clear_17 hh0.1 rfl ?_
  refine z_callV (As := []) (rest := []) zmX1_clear znX1_clear zsX1_clear (show z_Cl[1]? = some (RX1, TX1, 3) from rfl) zlRX3_54 ⟨Nat.le_of_ble_eq_true rfl, Nat.le_of_ble_eq_true rfl⟩ dX3_clear_20 hh0.2.2.2.2.2.2.2.2.2.1 rfl rfl z_a0 (Nat.le_of_ble_eq_true rfl) (Nat.le_of_ble_eq_true rfl) ⟨rfl, rfl⟩ (z_CVm h ?_)
  intro w4 h
  show z_Sem mX3_clear (sh.length, 0) 23 [(0, z_r o0)] [] (sh, w4) Q
  refine z_aload_n 0 dX3_clear_23 rfl rfl ?_
  refine z_callV (As := []) (rest := []) zmX3_addStart znX3_addStart zsX3_addStart (show z_Cl[3]? = some (RX3, TX3, 12) from rfl) zlRX3_57 ⟨Nat.le_of_ble_eq_true rfl, Nat.le_of_ble_eq_true rfl⟩ dX3_clear_24 hh0.1 rfl rfl z_a0 (Nat.le_of_ble_eq_true rfl) (Nat.le_of_ble_eq_true rfl) ⟨rfl, rfl⟩ (z_CVm h ?_)
  intro w5 h
  show z_Sem mX3_clear (sh.length, 0) 27 [(0, z_r o0)] [] (sh, w5) Q
  exact z_ret (v := none) dX3_clear_27 ⟨rfl, rfl⟩ rfl h
def f_X6_byteAt (w : Nat → Int → Int) (x1 : Int) : Int := if x1 < 0 then -1 else if (w 140 1) ≤ x1 then -1 else w 141 x1
def s_X6_byteAt (w : Nat → Int → Int) (x1 : Int) : Prop := (¬ x1 < 0 → (¬ (w 140 1) ≤ x1 → ((0 : Int) ≤ x1 ∧ x1 < 900) ∧ True) ∧ True) ∧ True
set_option maxRecDepth 100000 in
theorem t_X6_byteAt {sh : List z_C} {w : Nat → Int → Int} {Q : Option z_V → z_S → Prop} {x1 : Int} (hh0 : z_isTap sh 140) (hs : s_X6_byteAt w x1) (h : Q (some (z_i (f_X6_byteAt w x1))) (sh, w)) : z_Sem mX6_byteAt (sh.length, 0) 0 [(0, z_r 140), (1, z_i x1)] [] (sh, w) Q := by
  unfold f_X6_byteAt at h
  unfold s_X6_byteAt at hs
  refine z_iload_n 1 dX6_byteAt_0 rfl rfl ?_
  obtain ⟨m3, hs⟩ := hs
  suffices hJ1 : z_Sem mX6_byteAt (sh.length, 0) 22 [] [z_i (if x1 < 0 then -1 else if (w 140 1) ≤ x1 then -1 else w 141 x1)] (sh, w) Q by
    refine z_if_lt (tgt := 21) dX6_byteAt_1 (by decide) (fun c2 => ?_) (fun c2 => ?_)
    · skip
      refine z_iconst dX6_byteAt_21 (by decide) ?_
      refine z_sub (L' := []) [] rfl ?_
      simp only [if_pos c2] at hJ1
      exact hJ1
    · skip
      have ho5 := m3 c2
      refine z_iload_n 1 dX6_byteAt_4 rfl rfl ?_
      refine z_aload_n 0 dX6_byteAt_5 rfl rfl ?_
      refine z_getI (ki := 1) zfRX6_15 dX6_byteAt_6 hh0.1 rfl rfl ?_
      obtain ⟨m8, ho5⟩ := ho5
      suffices hJ6 : z_Sem mX6_byteAt (sh.length, 0) 22 [] [z_i (if (w 140 1) ≤ x1 then -1 else w 141 x1)] (sh, w) Q by
        refine z_icmp_ge (tgt := 21) dX6_byteAt_9 (by decide) (fun c7 => ?_) (fun c7 => ?_)
        · skip
          refine z_iconst dX6_byteAt_21 (by decide) ?_
          refine z_sub (L' := []) [] rfl ?_
          simp only [if_pos c7] at hJ6
          exact hJ6
        · skip
          have ho10 := m8 c7
          refine z_aload_n 0 dX6_byteAt_12 rfl rfl ?_
          refine z_getR (r := 141) zfRX6_9 dX6_byteAt_13 hh0.1 rfl ?_
          refine z_iload_n 1 dX6_byteAt_16 rfl rfl ?_
          obtain ⟨q11, ho10⟩ := ho10
          refine z_iald dX6_byteAt_17 hh0.2 q11 ?_
          refine z_goto (tgt := 22) dX6_byteAt_18 (by decide) ?_
          refine z_sub (L' := []) [] rfl ?_
          simp only [if_neg c7] at hJ6
          exact hJ6
      simp only [if_neg c2] at hJ1
      exact hJ1
  exact z_ret (v := some (z_i (if x1 < 0 then -1 else if (w 140 1) ≤ x1 then -1 else w 141 x1))) dX6_byteAt_22 ⟨rfl, Or.inl rfl⟩ rfl h
set_option maxRecDepth 100000 in
theorem t_X3_nameEvent {sh : List z_C} {w : Nat → Int → Int} {Q : Option z_V → z_S → Prop} {o0 : Nat} {x1 : Int} {x3 : Int} {x4 : Int} (hh0 : z_isPla sh o0) (hh2 : z_isTap sh 140) (h : z_Sem mX3_nameEvent (sh.length, 0) 3 [(0, z_r o0), (1, z_i x1), (2, z_r 140), (3, z_i x3), (4, z_i x4), (5, z_i 0)] [] (sh, w) Q) : z_Sem mX3_nameEvent (sh.length, 0) 0 [(0, z_r o0), (1, z_i x1), (2, z_r 140), (3, z_i x3), (4, z_i x4)] [] (sh, w) Q := by
  refine z_iconst dX3_nameEvent_0 (by decide) ?_
  refine z_istore (L' := [(5, z_i 0), (0, z_r o0), (1, z_i x1), (2, z_r 140), (3, z_i x3), (4, z_i x4)]) dX3_nameEvent_1 (by decide) rfl ?_
  refine z_sub (L' := [(0, z_r o0), (1, z_i x1), (2, z_r 140), (3, z_i x3), (4, z_i x4), (5, z_i 0)]) [1, 2, 3, 4, 5, 0] rfl ?_
  exact h
set_option maxRecDepth 100000 in
theorem t_X3_nameEvent_3 {sh : List z_C} {w : Nat → Int → Int} {Q : Option z_V → z_S → Prop} {o0 : Nat} {x1 : Int} {x3 : Int} {x4 : Int} {x5 : Int} (hh0 : z_isPla sh o0) (hh2 : z_isTap sh 140) (h : ((x4 ≤ x5 → ((0 : Int) ≤ x1 ∧ x1 < 10) ∧ ∀ w2 : Nat → Int → Int, w2 = z_W w (o0 + 2) x1 (f_J9_min_7cf53 w x4 5) → Q none (sh, w2)) ∧ (¬ x4 ≤ x5 → ((5 ≤ x5 → ((0 : Int) ≤ x1 ∧ x1 < 10) ∧ ∀ w5 : Nat → Int → Int, w5 = z_W w (o0 + 2) x1 (f_J9_min_7cf53 w x4 5) → Q none (sh, w5)) ∧ (¬ 5 ≤ x5 → (z_R (x1 * 5)) ∧ (z_R ((x1 * 5) + x5)) ∧ (z_R (x3 + x5)) ∧ (s_X6_byteAt w (x3 + x5)) ∧ ((0 : Int) ≤ ((x1 * 5) + x5) ∧ ((x1 * 5) + x5) < 50) ∧ ∀ w11 : Nat → Int → Int, w11 = z_W w (o0 + 1) ((x1 * 5) + x5) (f_X6_byteAt w (x3 + x5)) → (z_R (x5 + 1)) ∧ z_Sem mX3_nameEvent (sh.length, 0) 3 [(0, z_r o0), (1, z_i x1), (2, z_r 140), (3, z_i x3), (4, z_i x4), (5, z_i (x5 + 1))] [] (sh, w11) Q))))) : z_Sem mX3_nameEvent (sh.length, 0) 3 [(0, z_r o0), (1, z_i x1), (2, z_r 140), (3, z_i x3), (4, z_i x4), (5, z_i x5)] [] (sh, w) Q := by
  refine z_iload 5 dX3_nameEvent_3 rfl ?_
  refine z_iload 4 dX3_nameEvent_5 rfl ?_
  refine z_icmp_ge (tgt := 41) dX3_nameEvent_7 (by decide) (fun c1 => ?_) (fun c1 => ?_)
  · replace h := h.1 c1
    refine z_aload_n 0 dX3_nameEvent_41 rfl rfl ?_
    refine z_getR (r := (o0 + 2)) zfRX3_15 dX3_nameEvent_42 hh0.1 rfl ?_
    refine z_iload_n 1 dX3_nameEvent_45 rfl rfl ?_
    refine z_iload 4 dX3_nameEvent_46 rfl ?_
    refine z_iconst dX3_nameEvent_48 (by decide) ?_
    refine z_callS (As := [z_i x4, z_i 5]) (rest := [z_i x1, z_r (o0 + 2)]) zmJ9_min_7cf53 ztJ9_min_7cf53 zlRX3_92 ⟨Nat.le_of_ble_eq_true rfl, Nat.le_of_ble_eq_true rfl⟩ dX3_nameEvent_49 rfl rfl (z_ai (z_ai z_a0)) (Nat.le_of_ble_eq_true rfl) (Nat.le_of_ble_eq_true rfl) ⟨rfl, rfl⟩ ?_
    refine t_J9_min_7cf53  ?_
    show z_Sem mX3_nameEvent (sh.length, 0) 52 [(0, z_r o0), (1, z_i x1), (2, z_r 140), (3, z_i x3), (4, z_i x4), (5, z_i x5)] [z_i (f_J9_min_7cf53 w x4 5), z_i x1, z_r (o0 + 2)] (sh, w) Q
    obtain ⟨q3, h⟩ := h
    refine z_iast dX3_nameEvent_52 hh0.2.2.1 q3 ?_
    refine z_genw (fun w2 hw2 => ?_)
    replace h := h w2 hw2
    exact z_ret (v := none) dX3_nameEvent_53 ⟨rfl, rfl⟩ rfl h
  · replace h := h.2 c1
    refine z_iload 5 dX3_nameEvent_10 rfl ?_
    refine z_iconst dX3_nameEvent_12 (by decide) ?_
    refine z_icmp_ge (tgt := 41) dX3_nameEvent_13 (by decide) (fun c4 => ?_) (fun c4 => ?_)
    · replace h := h.1 c4
      refine z_aload_n 0 dX3_nameEvent_41 rfl rfl ?_
      refine z_getR (r := (o0 + 2)) zfRX3_15 dX3_nameEvent_42 hh0.1 rfl ?_
      refine z_iload_n 1 dX3_nameEvent_45 rfl rfl ?_
      refine z_iload 4 dX3_nameEvent_46 rfl ?_
      refine z_iconst dX3_nameEvent_48 (by decide) ?_
      refine z_callS (As := [z_i x4, z_i 5]) (rest := [z_i x1, z_r (o0 + 2)]) zmJ9_min_7cf53 ztJ9_min_7cf53 zlRX3_92 ⟨Nat.le_of_ble_eq_true rfl, Nat.le_of_ble_eq_true rfl⟩ dX3_nameEvent_49 rfl rfl (z_ai (z_ai z_a0)) (Nat.le_of_ble_eq_true rfl) (Nat.le_of_ble_eq_true rfl) ⟨rfl, rfl⟩ ?_
      refine t_J9_min_7cf53  ?_
      show z_Sem mX3_nameEvent (sh.length, 0) 52 [(0, z_r o0), (1, z_i x1), (2, z_r 140), (3, z_i x3), (4, z_i x4), (5, z_i x5)] [z_i (f_J9_min_7cf53 w x4 5), z_i x1, z_r (o0 + 2)] (sh, w) Q
      obtain ⟨q6, h⟩ := h
      refine z_iast dX3_nameEvent_52 hh0.2.2.1 q6 ?_
      refine z_genw (fun w5 hw5 => ?_)
      replace h := h w5 hw5
      exact z_ret (v := none) dX3_nameEvent_53 ⟨rfl, rfl⟩ rfl h
    · replace h := h.2 c4
      refine z_aload_n 0 dX3_nameEvent_16 rfl rfl ?_
      refine z_getR (r := (o0 + 1)) zfRX3_9 dX3_nameEvent_17 hh0.1 rfl ?_
      refine z_iload_n 1 dX3_nameEvent_20 rfl rfl ?_
      refine z_iconst dX3_nameEvent_21 (by decide) ?_
      obtain ⟨q7, h⟩ := h
      refine z_imul dX3_nameEvent_22 q7 ?_
      refine z_iload 5 dX3_nameEvent_23 rfl ?_
      obtain ⟨q8, h⟩ := h
      refine z_iadd dX3_nameEvent_25 q8 ?_
      refine z_aload_n 2 dX3_nameEvent_26 rfl rfl ?_
      refine z_iload_n 3 dX3_nameEvent_27 rfl rfl ?_
      refine z_iload 5 dX3_nameEvent_28 rfl ?_
      obtain ⟨q9, h⟩ := h
      refine z_iadd dX3_nameEvent_30 q9 ?_
      obtain ⟨q10, h⟩ := h
      refine z_callV (As := [z_i (x3 + x5)]) (rest := [z_i ((x1 * 5) + x5), z_r (o0 + 1)]) zmX6_byteAt znX6_byteAt zsX6_byteAt (show z_Cl[6]? = some (RX6, TX6, 2) from rfl) zlRX3_86 ⟨Nat.le_of_ble_eq_true rfl, Nat.le_of_ble_eq_true rfl⟩ dX3_nameEvent_31 hh2.1 rfl rfl (z_ai z_a0) (Nat.le_of_ble_eq_true rfl) (Nat.le_of_ble_eq_true rfl) ⟨rfl, rfl⟩ ?_
      refine t_X6_byteAt hh2 q10 ?_
      show z_Sem mX3_nameEvent (sh.length, 0) 34 [(0, z_r o0), (1, z_i x1), (2, z_r 140), (3, z_i x3), (4, z_i x4), (5, z_i x5)] [z_i (f_X6_byteAt w (x3 + x5)), z_i ((x1 * 5) + x5), z_r (o0 + 1)] (sh, w) Q
      obtain ⟨q12, h⟩ := h
      refine z_iast dX3_nameEvent_34 hh0.2.1 q12 ?_
      refine z_genw (fun w11 hw11 => ?_)
      replace h := h w11 hw11
      obtain ⟨q13, h⟩ := h
      refine z_iinc (L' := [(5, z_i (x5 + 1)), (0, z_r o0), (1, z_i x1), (2, z_r 140), (3, z_i x3), (4, z_i x4)]) 5 dX3_nameEvent_35 rfl (by decide) rfl q13 ?_
      refine z_goto (tgt := 3) dX3_nameEvent_38 (by decide) ?_
      refine z_sub (L' := [(0, z_r o0), (1, z_i x1), (2, z_r 140), (3, z_i x3), (4, z_i x4), (5, z_i (x5 + 1))]) [1, 2, 3, 4, 5, 0] rfl ?_
      exact h
set_option maxRecDepth 100000 in
theorem t_X3_addEvent {sh : List z_C} {w : Nat → Int → Int} {Q : Option z_V → z_S → Prop} {o0 : Nat} {x2 : Int} {x3 : Int} (hh0 : z_isPla sh o0) (hh1 : z_isTap sh 140) (h : (((w o0 10) < 10 → ∀ y2 : Int, y2 = (w o0 10) → ((0 : Int) ≤ y2 ∧ y2 < 10) ∧ ∀ w3 : Nat → Int → Int, w3 = z_W w (o0 + 3) y2 (-1) → (z_R ((w3 o0 10) + 1)) ∧ ∀ w6 : Nat → Int → Int, w6 = z_W w3 o0 10 ((w3 o0 10) + 1) → z_CV mX3_nameEvent [z_r o0, z_i y2, z_r 140, z_i x2, z_i x3] sh w6 (fun w7 => Q (some (z_i y2)) (sh, w7))) ∧ (¬ (w o0 10) < 10 → Q (some (z_i (-1))) (sh, w)))) : z_Sem mX3_addEvent (sh.length, 0) 0 [(0, z_r o0), (1, z_r 140), (2, z_i x2), (3, z_i x3)] [] (sh, w) Q := by
  refine z_aload_n 0 dX3_addEvent_0 rfl rfl ?_
  refine z_getI (ki := 10) zfRX3_48 dX3_addEvent_1 hh0.1 rfl rfl ?_
  refine z_bipush dX3_addEvent_4 (by decide) (by decide) ?_
  refine z_icmp_lt (tgt := 11) dX3_addEvent_6 (by decide) (fun c1 => ?_) (fun c1 => ?_)
  · replace h := h.1 c1
    refine z_aload_n 0 dX3_addEvent_11 rfl rfl ?_
    refine z_getI (ki := 10) zfRX3_48 dX3_addEvent_12 hh0.1 rfl rfl ?_
    refine z_nam (fun y2 hy2 => ?_)
    replace h := h y2 hy2
    refine z_istore (L' := [(4, z_i y2), (0, z_r o0), (1, z_r 140), (2, z_i x2), (3, z_i x3)]) dX3_addEvent_15 (by decide) rfl ?_
    refine z_aload_n 1 dX3_addEvent_17 rfl rfl ?_
    refine z_getR (r := (o0 + 3)) zfRX3_18 dX3_addEvent_18 hh0.1 rfl ?_
    refine z_iload 0 dX3_addEvent_21 rfl ?_
    refine z_iconst dX3_addEvent_23 (by decide) ?_
    obtain ⟨q4, h⟩ := h
    refine z_iast dX3_addEvent_24 hh0.2.2.2.1 q4 ?_
    refine z_genw (fun w3 hw3 => ?_)
    replace h := h w3 hw3
    refine z_aload_n 1 dX3_addEvent_25 rfl rfl ?_
    refine z_dup dX3_addEvent_26 rfl ?_
    refine z_getI (ki := 10) zfRX3_48 dX3_addEvent_27 hh0.1 rfl rfl ?_
    refine z_iconst dX3_addEvent_30 (by decide) ?_
    obtain ⟨q5, h⟩ := h
    refine z_iadd dX3_addEvent_31 q5 ?_
    refine z_putI (ki := 10) zfRX3_48 dX3_addEvent_32 hh0.1 rfl rfl ?_
    refine z_genw (fun w6 hw6 => ?_)
    replace h := h w6 hw6
    refine z_aload_n 1 dX3_addEvent_35 rfl rfl ?_
    refine z_iload 0 dX3_addEvent_36 rfl ?_
    refine z_aload_n 2 dX3_addEvent_38 rfl rfl ?_
    refine z_iload_n 3 dX3_addEvent_39 rfl rfl ?_
    refine z_iload_n 4 dX3_addEvent_40 rfl rfl ?_
    refine z_callV (As := [z_i y2, z_r 140, z_i x2, z_i x3]) (rest := []) zmX3_nameEvent znX3_nameEvent zsX3_nameEvent (show z_Cl[3]? = some (RX3, TX3, 12) from rfl) zlRX3_82 ⟨Nat.le_of_ble_eq_true rfl, Nat.le_of_ble_eq_true rfl⟩ dX3_addEvent_41 hh0.1 rfl rfl (z_ai (z_ar (z_ai (z_ai z_a0)))) (Nat.le_of_ble_eq_true rfl) (Nat.le_of_ble_eq_true rfl) ⟨rfl, rfl⟩ (z_CVm h ?_)
    intro w7 h
    show z_Sem mX3_addEvent (sh.length, 0) 44 [(4, z_i y2), (0, z_r o0), (1, z_r 140), (2, z_i x2), (3, z_i x3)] [] (sh, w7) Q
    refine z_iload 0 dX3_addEvent_44 rfl ?_
    exact z_ret (v := some (z_i y2)) dX3_addEvent_46 ⟨rfl, Or.inl rfl⟩ rfl h
  · replace h := h.2 c1
    refine z_iconst dX3_addEvent_9 (by decide) ?_
    exact z_ret (v := some (z_i (-1))) dX3_addEvent_10 ⟨rfl, Or.inl rfl⟩ rfl h
def f_X3_letterOf (w : Nat → Int → Int) (o0 : Nat) (x1 : Int) (x2 : Int) : Int := w (o0 + 1) ((x1 * 5) + x2)
def s_X3_letterOf (w : Nat → Int → Int) (o0 : Nat) (x1 : Int) (x2 : Int) : Prop := (z_R (x1 * 5)) ∧ (z_R ((x1 * 5) + x2)) ∧ ((0 : Int) ≤ ((x1 * 5) + x2) ∧ ((x1 * 5) + x2) < 50) ∧ True
set_option maxRecDepth 100000 in
theorem t_X3_letterOf {sh : List z_C} {w : Nat → Int → Int} {Q : Option z_V → z_S → Prop} {o0 : Nat} {x1 : Int} {x2 : Int} (hh0 : z_isPla sh o0) (hs : s_X3_letterOf w o0 x1 x2) (h : Q (some (z_i (f_X3_letterOf w o0 x1 x2))) (sh, w)) : z_Sem mX3_letterOf (sh.length, 0) 0 [(0, z_r o0), (1, z_i x1), (2, z_i x2)] [] (sh, w) Q := by
  unfold f_X3_letterOf at h
  unfold s_X3_letterOf at hs
  refine z_aload_n 0 dX3_letterOf_0 rfl rfl ?_
  refine z_getR (r := (o0 + 1)) zfRX3_9 dX3_letterOf_1 hh0.1 rfl ?_
  refine z_iload_n 1 dX3_letterOf_4 rfl rfl ?_
  refine z_iconst dX3_letterOf_5 (by decide) ?_
  obtain ⟨q1, hs⟩ := hs
  refine z_imul dX3_letterOf_6 q1 ?_
  refine z_iload_n 2 dX3_letterOf_7 rfl rfl ?_
  obtain ⟨q2, hs⟩ := hs
  refine z_iadd dX3_letterOf_8 q2 ?_
  obtain ⟨q3, hs⟩ := hs
  refine z_iald dX3_letterOf_9 hh0.2.1 q3 ?_
  exact z_ret (v := some (z_i (w (o0 + 1) ((x1 * 5) + x2)))) dX3_letterOf_10 ⟨rfl, Or.inl rfl⟩ rfl h
set_option maxRecDepth 100000 in
theorem t_X3_isNamed {sh : List z_C} {w : Nat → Int → Int} {Q : Option z_V → z_S → Prop} {o0 : Nat} {x1 : Int} {x3 : Int} {x4 : Int} (hh0 : z_isPla sh o0) (hh2 : z_isTap sh 140) (h : ((0 : Int) ≤ x1 ∧ x1 < 10) ∧ (((w (o0 + 2) x1) = x4 → z_Sem mX3_isNamed (sh.length, 0) 16 [(0, z_r o0), (1, z_i x1), (2, z_r 140), (3, z_i x3), (4, z_i x4), (5, z_i 0)] [] (sh, w) Q) ∧ (¬ (w (o0 + 2) x1) = x4 → Q (some (z_i 0)) (sh, w)))) : z_Sem mX3_isNamed (sh.length, 0) 0 [(0, z_r o0), (1, z_i x1), (2, z_r 140), (3, z_i x3), (4, z_i x4)] [] (sh, w) Q := by
  refine z_aload_n 0 dX3_isNamed_0 rfl rfl ?_
  refine z_getR (r := (o0 + 2)) zfRX3_15 dX3_isNamed_1 hh0.1 rfl ?_
  refine z_iload_n 1 dX3_isNamed_4 rfl rfl ?_
  obtain ⟨q1, h⟩ := h
  refine z_iald dX3_isNamed_5 hh0.2.2.1 q1 ?_
  refine z_iload 4 dX3_isNamed_6 rfl ?_
  refine z_icmp_eq (tgt := 13) dX3_isNamed_8 (by decide) (fun c2 => ?_) (fun c2 => ?_)
  · replace h := h.1 c2
    refine z_iconst dX3_isNamed_13 (by decide) ?_
    refine z_istore (L' := [(5, z_i 0), (0, z_r o0), (1, z_i x1), (2, z_r 140), (3, z_i x3), (4, z_i x4)]) dX3_isNamed_14 (by decide) rfl ?_
    refine z_sub (L' := [(0, z_r o0), (1, z_i x1), (2, z_r 140), (3, z_i x3), (4, z_i x4), (5, z_i 0)]) [1, 2, 3, 4, 5, 0] rfl ?_
    exact h
  · replace h := h.2 c2
    refine z_iconst dX3_isNamed_11 (by decide) ?_
    exact z_ret (v := some (z_i 0)) dX3_isNamed_12 ⟨rfl, Or.inr (Or.inl ⟨rfl, (by decide)⟩)⟩ rfl h
set_option maxRecDepth 100000 in
theorem t_X3_isNamed_16 {sh : List z_C} {w : Nat → Int → Int} {Q : Option z_V → z_S → Prop} {o0 : Nat} {x1 : Int} {x3 : Int} {x4 : Int} {x5 : Int} (hh0 : z_isPla sh o0) (hh2 : z_isTap sh 140) (h : ((x4 ≤ x5 → Q (some (z_i 1)) (sh, w)) ∧ (¬ x4 ≤ x5 → (s_X3_letterOf w o0 x1 x5) ∧ (z_R (x3 + x5)) ∧ (s_X6_byteAt w (x3 + x5)) ∧ (((f_X3_letterOf w o0 x1 x5) = (f_X6_byteAt w (x3 + x5)) → (z_R (x5 + 1)) ∧ z_Sem mX3_isNamed (sh.length, 0) 16 [(0, z_r o0), (1, z_i x1), (2, z_r 140), (3, z_i x3), (4, z_i x4), (5, z_i (x5 + 1))] [] (sh, w) Q) ∧ (¬ (f_X3_letterOf w o0 x1 x5) = (f_X6_byteAt w (x3 + x5)) → Q (some (z_i 0)) (sh, w)))))) : z_Sem mX3_isNamed (sh.length, 0) 16 [(0, z_r o0), (1, z_i x1), (2, z_r 140), (3, z_i x3), (4, z_i x4), (5, z_i x5)] [] (sh, w) Q := by
  refine z_iload 5 dX3_isNamed_16 rfl ?_
  refine z_iload 4 dX3_isNamed_18 rfl ?_
  refine z_icmp_ge (tgt := 49) dX3_isNamed_20 (by decide) (fun c1 => ?_) (fun c1 => ?_)
  · replace h := h.1 c1
    refine z_iconst dX3_isNamed_49 (by decide) ?_
    exact z_ret (v := some (z_i 1)) dX3_isNamed_50 ⟨rfl, Or.inr (Or.inl ⟨rfl, (by decide)⟩)⟩ rfl h
  · replace h := h.2 c1
    refine z_aload_n 0 dX3_isNamed_23 rfl rfl ?_
    refine z_iload_n 1 dX3_isNamed_24 rfl rfl ?_
    refine z_iload 5 dX3_isNamed_25 rfl ?_
    obtain ⟨q2, h⟩ := h
    refine z_callV (As := [z_i x1, z_i x5]) (rest := []) zmX3_letterOf znX3_letterOf zsX3_letterOf (show z_Cl[3]? = some (RX3, TX3, 12) from rfl) zlRX3_102 ⟨Nat.le_of_ble_eq_true rfl, Nat.le_of_ble_eq_true rfl⟩ dX3_isNamed_27 hh0.1 rfl rfl (z_ai (z_ai z_a0)) (Nat.le_of_ble_eq_true rfl) (Nat.le_of_ble_eq_true rfl) ⟨rfl, rfl⟩ ?_
    refine t_X3_letterOf hh0 q2 ?_
    show z_Sem mX3_isNamed (sh.length, 0) 30 [(0, z_r o0), (1, z_i x1), (2, z_r 140), (3, z_i x3), (4, z_i x4), (5, z_i x5)] [z_i (f_X3_letterOf w o0 x1 x5)] (sh, w) Q
    refine z_aload_n 2 dX3_isNamed_30 rfl rfl ?_
    refine z_iload_n 3 dX3_isNamed_31 rfl rfl ?_
    refine z_iload 5 dX3_isNamed_32 rfl ?_
    obtain ⟨q3, h⟩ := h
    refine z_iadd dX3_isNamed_34 q3 ?_
    obtain ⟨q4, h⟩ := h
    refine z_callV (As := [z_i (x3 + x5)]) (rest := [z_i (f_X3_letterOf w o0 x1 x5)]) zmX6_byteAt znX6_byteAt zsX6_byteAt (show z_Cl[6]? = some (RX6, TX6, 2) from rfl) zlRX3_86 ⟨Nat.le_of_ble_eq_true rfl, Nat.le_of_ble_eq_true rfl⟩ dX3_isNamed_35 hh2.1 rfl rfl (z_ai z_a0) (Nat.le_of_ble_eq_true rfl) (Nat.le_of_ble_eq_true rfl) ⟨rfl, rfl⟩ ?_
    refine t_X6_byteAt hh2 q4 ?_
    show z_Sem mX3_isNamed (sh.length, 0) 38 [(0, z_r o0), (1, z_i x1), (2, z_r 140), (3, z_i x3), (4, z_i x4), (5, z_i x5)] [z_i (f_X6_byteAt w (x3 + x5)), z_i (f_X3_letterOf w o0 x1 x5)] (sh, w) Q
    refine z_icmp_eq (tgt := 43) dX3_isNamed_38 (by decide) (fun c5 => ?_) (fun c5 => ?_)
    · replace h := h.1 c5
      obtain ⟨q6, h⟩ := h
      refine z_iinc (L' := [(5, z_i (x5 + 1)), (0, z_r o0), (1, z_i x1), (2, z_r 140), (3, z_i x3), (4, z_i x4)]) 5 dX3_isNamed_43 rfl (by decide) rfl q6 ?_
      refine z_goto (tgt := 16) dX3_isNamed_46 (by decide) ?_
      refine z_sub (L' := [(0, z_r o0), (1, z_i x1), (2, z_r 140), (3, z_i x3), (4, z_i x4), (5, z_i (x5 + 1))]) [1, 2, 3, 4, 5, 0] rfl ?_
      exact h
    · replace h := h.2 c5
      refine z_iconst dX3_isNamed_41 (by decide) ?_
      exact z_ret (v := some (z_i 0)) dX3_isNamed_42 ⟨rfl, Or.inr (Or.inl ⟨rfl, (by decide)⟩)⟩ rfl h
set_option maxRecDepth 100000 in
theorem t_X3_findEvent {sh : List z_C} {w : Nat → Int → Int} {Q : Option z_V → z_S → Prop} {o0 : Nat} {x2 : Int} {x3 : Int} (hh0 : z_isPla sh o0) (hh1 : z_isTap sh 140) (h : z_Sem mX3_findEvent (sh.length, 0) 3 [(0, z_r o0), (1, z_r 140), (2, z_i x2), (3, z_i x3), (4, z_i 0)] [] (sh, w) Q) : z_Sem mX3_findEvent (sh.length, 0) 0 [(0, z_r o0), (1, z_r 140), (2, z_i x2), (3, z_i x3)] [] (sh, w) Q := by
  refine z_iconst dX3_findEvent_0 (by decide) ?_
  refine z_istore (L' := [(4, z_i 0), (0, z_r o0), (1, z_r 140), (2, z_i x2), (3, z_i x3)]) dX3_findEvent_1 (by decide) rfl ?_
  refine z_sub (L' := [(0, z_r o0), (1, z_r 140), (2, z_i x2), (3, z_i x3), (4, z_i 0)]) [1, 2, 3, 4, 0] rfl ?_
  exact h
set_option maxRecDepth 100000 in
theorem t_X3_findEvent_3 {sh : List z_C} {w : Nat → Int → Int} {Q : Option z_V → z_S → Prop} {o0 : Nat} {x2 : Int} {x3 : Int} {x4 : Int} (hh0 : z_isPla sh o0) (hh1 : z_isTap sh 140) (h : (((w o0 10) ≤ x4 → Q (some (z_i (-1))) (sh, w)) ∧ (¬ (w o0 10) ≤ x4 → z_CI mX3_isNamed [z_r o0, z_i x4, z_r 140, z_i x2, z_i x3] sh w (fun y3 w2 => ((y3 = 0 → (z_R (x4 + 1)) ∧ z_Sem mX3_findEvent (sh.length, 0) 3 [(0, z_r o0), (1, z_r 140), (2, z_i x2), (3, z_i x3), (4, z_i (x4 + 1))] [] (sh, w2) Q) ∧ (¬ y3 = 0 → Q (some (z_i x4)) (sh, w2))))))) : z_Sem mX3_findEvent (sh.length, 0) 3 [(0, z_r o0), (1, z_r 140), (2, z_i x2), (3, z_i x3), (4, z_i x4)] [] (sh, w) Q := by
  refine z_iload 4 dX3_findEvent_3 rfl ?_
  refine z_aload_n 0 dX3_findEvent_5 rfl rfl ?_
  refine z_getI (ki := 10) zfRX3_48 dX3_findEvent_6 hh0.1 rfl rfl ?_
  refine z_icmp_ge (tgt := 33) dX3_findEvent_9 (by decide) (fun c1 => ?_) (fun c1 => ?_)
  · replace h := h.1 c1
    refine z_iconst dX3_findEvent_33 (by decide) ?_
    exact z_ret (v := some (z_i (-1))) dX3_findEvent_34 ⟨rfl, Or.inl rfl⟩ rfl h
  · replace h := h.2 c1
    refine z_aload_n 0 dX3_findEvent_12 rfl rfl ?_
    refine z_iload 4 dX3_findEvent_13 rfl ?_
    refine z_aload_n 1 dX3_findEvent_15 rfl rfl ?_
    refine z_iload_n 2 dX3_findEvent_16 rfl rfl ?_
    refine z_iload_n 3 dX3_findEvent_17 rfl rfl ?_
    refine z_callV (As := [z_i x4, z_r 140, z_i x2, z_i x3]) (rest := []) zmX3_isNamed znX3_isNamed zsX3_isNamed (show z_Cl[3]? = some (RX3, TX3, 12) from rfl) zlRX3_98 ⟨Nat.le_of_ble_eq_true rfl, Nat.le_of_ble_eq_true rfl⟩ dX3_findEvent_18 hh0.1 rfl rfl (z_ai (z_ar (z_ai (z_ai z_a0)))) (Nat.le_of_ble_eq_true rfl) (Nat.le_of_ble_eq_true rfl) ⟨rfl, rfl⟩ (z_CIm h ?_)
    intro y3 w2 h
    show z_Sem mX3_findEvent (sh.length, 0) 21 [(0, z_r o0), (1, z_r 140), (2, z_i x2), (3, z_i x3), (4, z_i x4)] [z_i y3] (sh, w2) Q
    refine z_if_eq (tgt := 27) dX3_findEvent_21 (by decide) (fun c4 => ?_) (fun c4 => ?_)
    · replace h := h.1 c4
      obtain ⟨q5, h⟩ := h
      refine z_iinc (L' := [(4, z_i (x4 + 1)), (0, z_r o0), (1, z_r 140), (2, z_i x2), (3, z_i x3)]) 4 dX3_findEvent_27 rfl (by decide) rfl q5 ?_
      refine z_goto (tgt := 3) dX3_findEvent_30 (by decide) ?_
      refine z_sub (L' := [(0, z_r o0), (1, z_r 140), (2, z_i x2), (3, z_i x3), (4, z_i (x4 + 1))]) [1, 2, 3, 4, 0] rfl ?_
      exact h
    · replace h := h.2 c4
      refine z_iload 4 dX3_findEvent_24 rfl ?_
      exact z_ret (v := some (z_i x4)) dX3_findEvent_26 ⟨rfl, Or.inl rfl⟩ rfl h
set_option maxRecDepth 100000 in
theorem t_X3_addGap {sh : List z_C} {w : Nat → Int → Int} {Q : Option z_V → z_S → Prop} {o0 : Nat} {x1 : Int} {x2 : Int} {x3 : Int} {x4 : Int} {x5 : Int} (hh0 : z_isPla sh o0) (h : (((w o0 11) < 24 → ∀ y2 : Int, y2 = (w o0 11) → ((0 : Int) ≤ y2 ∧ y2 < 24) ∧ ∀ w3 : Nat → Int → Int, w3 = z_W w (o0 + 4) y2 x1 → ((0 : Int) ≤ y2 ∧ y2 < 24) ∧ ∀ w5 : Nat → Int → Int, w5 = z_W w3 (o0 + 5) y2 x2 → ((0 : Int) ≤ y2 ∧ y2 < 24) ∧ ∀ w7 : Nat → Int → Int, w7 = z_W w5 (o0 + 6) y2 x3 → ((0 : Int) ≤ y2 ∧ y2 < 24) ∧ ∀ w9 : Nat → Int → Int, w9 = z_W w7 (o0 + 7) y2 x4 → ((0 : Int) ≤ y2 ∧ y2 < 24) ∧ ((0 : Int) ≤ x5 ∧ x5 ≤ 1) ∧ ∀ w11 : Nat → Int → Int, w11 = z_W w9 (o0 + 8) y2 x5 → (z_R ((w11 o0 11) + 1)) ∧ ∀ w15 : Nat → Int → Int, w15 = z_W w11 o0 11 ((w11 o0 11) + 1) → Q (some (z_i y2)) (sh, w15)) ∧ (¬ (w o0 11) < 24 → Q (some (z_i (-1))) (sh, w)))) : z_Sem mX3_addGap (sh.length, 0) 0 [(0, z_r o0), (1, z_i x1), (2, z_i x2), (3, z_i x3), (4, z_i x4), (5, z_i x5)] [] (sh, w) Q := by
  refine z_aload_n 0 dX3_addGap_0 rfl rfl ?_
  refine z_getI (ki := 11) zfRX3_51 dX3_addGap_1 hh0.1 rfl rfl ?_
  refine z_bipush dX3_addGap_4 (by decide) (by decide) ?_
  refine z_icmp_lt (tgt := 11) dX3_addGap_6 (by decide) (fun c1 => ?_) (fun c1 => ?_)
  · replace h := h.1 c1
    refine z_aload_n 0 dX3_addGap_11 rfl rfl ?_
    refine z_getI (ki := 11) zfRX3_51 dX3_addGap_12 hh0.1 rfl rfl ?_
    refine z_nam (fun y2 hy2 => ?_)
    replace h := h y2 hy2
    refine z_istore (L' := [(6, z_i y2), (0, z_r o0), (1, z_i x1), (2, z_i x2), (3, z_i x3), (4, z_i x4), (5, z_i x5)]) dX3_addGap_15 (by decide) rfl ?_
    refine z_aload_n 1 dX3_addGap_17 rfl rfl ?_
    refine z_getR (r := (o0 + 4)) zfRX3_21 dX3_addGap_18 hh0.1 rfl ?_
    refine z_iload 0 dX3_addGap_21 rfl ?_
    refine z_iload_n 2 dX3_addGap_23 rfl rfl ?_
    obtain ⟨q4, h⟩ := h
    refine z_iast dX3_addGap_24 hh0.2.2.2.2.1 q4 ?_
    refine z_genw (fun w3 hw3 => ?_)
    replace h := h w3 hw3
    refine z_aload_n 1 dX3_addGap_25 rfl rfl ?_
    refine z_getR (r := (o0 + 5)) zfRX3_24 dX3_addGap_26 hh0.1 rfl ?_
    refine z_iload 0 dX3_addGap_29 rfl ?_
    refine z_iload_n 3 dX3_addGap_31 rfl rfl ?_
    obtain ⟨q6, h⟩ := h
    refine z_iast dX3_addGap_32 hh0.2.2.2.2.2.1 q6 ?_
    refine z_genw (fun w5 hw5 => ?_)
    replace h := h w5 hw5
    refine z_aload_n 1 dX3_addGap_33 rfl rfl ?_
    refine z_getR (r := (o0 + 6)) zfRX3_27 dX3_addGap_34 hh0.1 rfl ?_
    refine z_iload 0 dX3_addGap_37 rfl ?_
    refine z_iload_n 4 dX3_addGap_39 rfl rfl ?_
    obtain ⟨q8, h⟩ := h
    refine z_iast dX3_addGap_40 hh0.2.2.2.2.2.2.1 q8 ?_
    refine z_genw (fun w7 hw7 => ?_)
    replace h := h w7 hw7
    refine z_aload_n 1 dX3_addGap_41 rfl rfl ?_
    refine z_getR (r := (o0 + 7)) zfRX3_30 dX3_addGap_42 hh0.1 rfl ?_
    refine z_iload 0 dX3_addGap_45 rfl ?_
    refine z_iload 5 dX3_addGap_47 rfl ?_
    obtain ⟨q10, h⟩ := h
    refine z_iast dX3_addGap_49 hh0.2.2.2.2.2.2.2.1 q10 ?_
    refine z_genw (fun w9 hw9 => ?_)
    replace h := h w9 hw9
    refine z_aload_n 1 dX3_addGap_50 rfl rfl ?_
    refine z_getR (r := (o0 + 8)) zfRX3_33 dX3_addGap_51 hh0.1 rfl ?_
    refine z_iload 0 dX3_addGap_54 rfl ?_
    refine z_iload 6 dX3_addGap_56 rfl ?_
    obtain ⟨q12, h⟩ := h
    obtain ⟨q13, h⟩ := h
    refine z_zast dX3_addGap_58 hh0.2.2.2.2.2.2.2.2.1 q12 q13 ?_
    refine z_genw (fun w11 hw11 => ?_)
    replace h := h w11 hw11
    refine z_aload_n 1 dX3_addGap_59 rfl rfl ?_
    refine z_dup dX3_addGap_60 rfl ?_
    refine z_getI (ki := 11) zfRX3_51 dX3_addGap_61 hh0.1 rfl rfl ?_
    refine z_iconst dX3_addGap_64 (by decide) ?_
    obtain ⟨q14, h⟩ := h
    refine z_iadd dX3_addGap_65 q14 ?_
    refine z_putI (ki := 11) zfRX3_51 dX3_addGap_66 hh0.1 rfl rfl ?_
    refine z_genw (fun w15 hw15 => ?_)
    replace h := h w15 hw15
    refine z_iload 0 dX3_addGap_69 rfl ?_
    exact z_ret (v := some (z_i y2)) dX3_addGap_71 ⟨rfl, Or.inl rfl⟩ rfl h
  · replace h := h.2 c1
    refine z_iconst dX3_addGap_9 (by decide) ?_
    exact z_ret (v := some (z_i (-1))) dX3_addGap_10 ⟨rfl, Or.inl rfl⟩ rfl h
set_option maxRecDepth 100000 in
theorem t_X3_removeGap {sh : List z_C} {w : Nat → Int → Int} {Q : Option z_V → z_S → Prop} {o0 : Nat} {x1 : Int} (hh0 : z_isPla sh o0) (h : z_Sem mX3_removeGap (sh.length, 0) 2 [(0, z_r o0), (2, z_i x1)] [] (sh, w) Q) : z_Sem mX3_removeGap (sh.length, 0) 0 [(0, z_r o0), (1, z_i x1)] [] (sh, w) Q := by
  refine z_iload_n 1 dX3_removeGap_0 rfl rfl ?_
  refine z_istore_n (L' := [(2, z_i x1), (0, z_r o0), (1, z_i x1)]) dX3_removeGap_1 rfl (by decide) rfl ?_
  refine z_sub (L' := [(0, z_r o0), (2, z_i x1)]) [1, 0] rfl ?_
  exact h
set_option maxRecDepth 100000 in
theorem t_X3_removeGap_2 {sh : List z_C} {w : Nat → Int → Int} {Q : Option z_V → z_S → Prop} {o0 : Nat} {x2 : Int} (hh0 : z_isPla sh o0) (h : (z_R (x2 + 1)) ∧ (((w o0 11) ≤ (x2 + 1) → (z_R ((w o0 11) - 1)) ∧ ∀ w4 : Nat → Int → Int, w4 = z_W w o0 11 ((w o0 11) - 1) → Q none (sh, w4)) ∧ (¬ (w o0 11) ≤ (x2 + 1) → (z_R (x2 + 1)) ∧ ((0 : Int) ≤ (x2 + 1) ∧ (x2 + 1) < 24) ∧ ((0 : Int) ≤ x2 ∧ x2 < 24) ∧ ∀ w7 : Nat → Int → Int, w7 = z_W w (o0 + 4) x2 (w (o0 + 4) (x2 + 1)) → (z_R (x2 + 1)) ∧ ((0 : Int) ≤ (x2 + 1) ∧ (x2 + 1) < 24) ∧ ((0 : Int) ≤ x2 ∧ x2 < 24) ∧ ∀ w11 : Nat → Int → Int, w11 = z_W w7 (o0 + 5) x2 (w7 (o0 + 5) (x2 + 1)) → (z_R (x2 + 1)) ∧ ((0 : Int) ≤ (x2 + 1) ∧ (x2 + 1) < 24) ∧ ((0 : Int) ≤ x2 ∧ x2 < 24) ∧ ∀ w15 : Nat → Int → Int, w15 = z_W w11 (o0 + 6) x2 (w11 (o0 + 6) (x2 + 1)) → (z_R (x2 + 1)) ∧ ((0 : Int) ≤ (x2 + 1) ∧ (x2 + 1) < 24) ∧ ((0 : Int) ≤ x2 ∧ x2 < 24) ∧ ∀ w19 : Nat → Int → Int, w19 = z_W w15 (o0 + 7) x2 (w15 (o0 + 7) (x2 + 1)) → (z_R (x2 + 1)) ∧ ((0 : Int) ≤ (x2 + 1) ∧ (x2 + 1) < 24) ∧ ((0 : Int) ≤ x2 ∧ x2 < 24) ∧ ((0 : Int) ≤ (w19 (o0 + 8) (x2 + 1)) ∧ (w19 (o0 + 8) (x2 + 1)) ≤ 1) ∧ ∀ w23 : Nat → Int → Int, w23 = z_W w19 (o0 + 8) x2 (w19 (o0 + 8) (x2 + 1)) → (z_R (x2 + 1)) ∧ z_Sem mX3_removeGap (sh.length, 0) 2 [(0, z_r o0), (2, z_i (x2 + 1))] [] (sh, w23) Q))) : z_Sem mX3_removeGap (sh.length, 0) 2 [(0, z_r o0), (2, z_i x2)] [] (sh, w) Q := by
  refine z_iload_n 1 dX3_removeGap_2 rfl rfl ?_
  refine z_iconst dX3_removeGap_3 (by decide) ?_
  obtain ⟨q1, h⟩ := h
  refine z_iadd dX3_removeGap_4 q1 ?_
  refine z_aload_n 0 dX3_removeGap_5 rfl rfl ?_
  refine z_getI (ki := 11) zfRX3_51 dX3_removeGap_6 hh0.1 rfl rfl ?_
  refine z_icmp_ge (tgt := 88) dX3_removeGap_9 (by decide) (fun c2 => ?_) (fun c2 => ?_)
  · replace h := h.1 c2
    refine z_aload_n 0 dX3_removeGap_88 rfl rfl ?_
    refine z_dup dX3_removeGap_89 rfl ?_
    refine z_getI (ki := 11) zfRX3_51 dX3_removeGap_90 hh0.1 rfl rfl ?_
    refine z_iconst dX3_removeGap_93 (by decide) ?_
    obtain ⟨q3, h⟩ := h
    refine z_isub dX3_removeGap_94 q3 ?_
    refine z_putI (ki := 11) zfRX3_51 dX3_removeGap_95 hh0.1 rfl rfl ?_
    refine z_genw (fun w4 hw4 => ?_)
    replace h := h w4 hw4
    exact z_ret (v := none) dX3_removeGap_98 ⟨rfl, rfl⟩ rfl h
  · replace h := h.2 c2
    refine z_aload_n 0 dX3_removeGap_12 rfl rfl ?_
    refine z_getR (r := (o0 + 4)) zfRX3_21 dX3_removeGap_13 hh0.1 rfl ?_
    refine z_iload_n 1 dX3_removeGap_16 rfl rfl ?_
    refine z_aload_n 0 dX3_removeGap_17 rfl rfl ?_
    refine z_getR (r := (o0 + 4)) zfRX3_21 dX3_removeGap_18 hh0.1 rfl ?_
    refine z_iload_n 1 dX3_removeGap_21 rfl rfl ?_
    refine z_iconst dX3_removeGap_22 (by decide) ?_
    obtain ⟨q5, h⟩ := h
    refine z_iadd dX3_removeGap_23 q5 ?_
    obtain ⟨q6, h⟩ := h
    refine z_iald dX3_removeGap_24 hh0.2.2.2.2.1 q6 ?_
    obtain ⟨q8, h⟩ := h
    refine z_iast dX3_removeGap_25 hh0.2.2.2.2.1 q8 ?_
    refine z_genw (fun w7 hw7 => ?_)
    replace h := h w7 hw7
    refine z_aload_n 0 dX3_removeGap_26 rfl rfl ?_
    refine z_getR (r := (o0 + 5)) zfRX3_24 dX3_removeGap_27 hh0.1 rfl ?_
    refine z_iload_n 1 dX3_removeGap_30 rfl rfl ?_
    refine z_aload_n 0 dX3_removeGap_31 rfl rfl ?_
    refine z_getR (r := (o0 + 5)) zfRX3_24 dX3_removeGap_32 hh0.1 rfl ?_
    refine z_iload_n 1 dX3_removeGap_35 rfl rfl ?_
    refine z_iconst dX3_removeGap_36 (by decide) ?_
    obtain ⟨q9, h⟩ := h
    refine z_iadd dX3_removeGap_37 q9 ?_
    obtain ⟨q10, h⟩ := h
    refine z_iald dX3_removeGap_38 hh0.2.2.2.2.2.1 q10 ?_
    obtain ⟨q12, h⟩ := h
    refine z_iast dX3_removeGap_39 hh0.2.2.2.2.2.1 q12 ?_
    refine z_genw (fun w11 hw11 => ?_)
    replace h := h w11 hw11
    refine z_aload_n 0 dX3_removeGap_40 rfl rfl ?_
    refine z_getR (r := (o0 + 6)) zfRX3_27 dX3_removeGap_41 hh0.1 rfl ?_
    refine z_iload_n 1 dX3_removeGap_44 rfl rfl ?_
    refine z_aload_n 0 dX3_removeGap_45 rfl rfl ?_
    refine z_getR (r := (o0 + 6)) zfRX3_27 dX3_removeGap_46 hh0.1 rfl ?_
    refine z_iload_n 1 dX3_removeGap_49 rfl rfl ?_
    refine z_iconst dX3_removeGap_50 (by decide) ?_
    obtain ⟨q13, h⟩ := h
    refine z_iadd dX3_removeGap_51 q13 ?_
    obtain ⟨q14, h⟩ := h
    refine z_iald dX3_removeGap_52 hh0.2.2.2.2.2.2.1 q14 ?_
    obtain ⟨q16, h⟩ := h
    refine z_iast dX3_removeGap_53 hh0.2.2.2.2.2.2.1 q16 ?_
    refine z_genw (fun w15 hw15 => ?_)
    replace h := h w15 hw15
    refine z_aload_n 0 dX3_removeGap_54 rfl rfl ?_
    refine z_getR (r := (o0 + 7)) zfRX3_30 dX3_removeGap_55 hh0.1 rfl ?_
    refine z_iload_n 1 dX3_removeGap_58 rfl rfl ?_
    refine z_aload_n 0 dX3_removeGap_59 rfl rfl ?_
    refine z_getR (r := (o0 + 7)) zfRX3_30 dX3_removeGap_60 hh0.1 rfl ?_
    refine z_iload_n 1 dX3_removeGap_63 rfl rfl ?_
    refine z_iconst dX3_removeGap_64 (by decide) ?_
    obtain ⟨q17, h⟩ := h
    refine z_iadd dX3_removeGap_65 q17 ?_
    obtain ⟨q18, h⟩ := h
    refine z_iald dX3_removeGap_66 hh0.2.2.2.2.2.2.2.1 q18 ?_
    obtain ⟨q20, h⟩ := h
    refine z_iast dX3_removeGap_67 hh0.2.2.2.2.2.2.2.1 q20 ?_
    refine z_genw (fun w19 hw19 => ?_)
    replace h := h w19 hw19
    refine z_aload_n 0 dX3_removeGap_68 rfl rfl ?_
    refine z_getR (r := (o0 + 8)) zfRX3_33 dX3_removeGap_69 hh0.1 rfl ?_
    refine z_iload_n 1 dX3_removeGap_72 rfl rfl ?_
    refine z_aload_n 0 dX3_removeGap_73 rfl rfl ?_
    refine z_getR (r := (o0 + 8)) zfRX3_33 dX3_removeGap_74 hh0.1 rfl ?_
    refine z_iload_n 1 dX3_removeGap_77 rfl rfl ?_
    refine z_iconst dX3_removeGap_78 (by decide) ?_
    obtain ⟨q21, h⟩ := h
    refine z_iadd dX3_removeGap_79 q21 ?_
    obtain ⟨q22, h⟩ := h
    refine z_zald dX3_removeGap_80 hh0.2.2.2.2.2.2.2.2.1 q22 ?_
    obtain ⟨q24, h⟩ := h
    obtain ⟨q25, h⟩ := h
    refine z_zast dX3_removeGap_81 hh0.2.2.2.2.2.2.2.2.1 q24 q25 ?_
    refine z_genw (fun w23 hw23 => ?_)
    replace h := h w23 hw23
    obtain ⟨q26, h⟩ := h
    refine z_iinc (L' := [(2, z_i (x2 + 1)), (0, z_r o0)]) 1 dX3_removeGap_82 rfl (by decide) rfl q26 ?_
    refine z_goto (tgt := 2) dX3_removeGap_85 (by decide) ?_
    refine z_sub (L' := [(0, z_r o0), (2, z_i (x2 + 1))]) [1, 0] rfl ?_
    exact h
def f_X3_hasEvent (w : Nat → Int → Int) (o0 : Nat) (x1 : Int) (x2 : Int) : Int := if (w (o0 + 4) x1) = x2 then 1 else if (w (o0 + 5) x1) = x2 then 1 else 0
def s_X3_hasEvent (w : Nat → Int → Int) (o0 : Nat) (x1 : Int) (x2 : Int) : Prop := ((0 : Int) ≤ x1 ∧ x1 < 24) ∧ (¬ (w (o0 + 4) x1) = x2 → ((0 : Int) ≤ x1 ∧ x1 < 24) ∧ True) ∧ True
set_option maxRecDepth 100000 in
theorem t_X3_hasEvent {sh : List z_C} {w : Nat → Int → Int} {Q : Option z_V → z_S → Prop} {o0 : Nat} {x1 : Int} {x2 : Int} (hh0 : z_isPla sh o0) (hs : s_X3_hasEvent w o0 x1 x2) (h : Q (some (z_i (f_X3_hasEvent w o0 x1 x2))) (sh, w)) : z_Sem mX3_hasEvent (sh.length, 0) 0 [(0, z_r o0), (1, z_i x1), (2, z_i x2)] [] (sh, w) Q := by
  unfold f_X3_hasEvent at h
  unfold s_X3_hasEvent at hs
  refine z_aload_n 0 dX3_hasEvent_0 rfl rfl ?_
  refine z_getR (r := (o0 + 4)) zfRX3_21 dX3_hasEvent_1 hh0.1 rfl ?_
  refine z_iload_n 1 dX3_hasEvent_4 rfl rfl ?_
  obtain ⟨q1, hs⟩ := hs
  refine z_iald dX3_hasEvent_5 hh0.2.2.2.2.1 q1 ?_
  refine z_iload_n 2 dX3_hasEvent_6 rfl rfl ?_
  obtain ⟨m4, hs⟩ := hs
  suffices hJ2 : z_Sem mX3_hasEvent (sh.length, 0) 25 [] [z_i (if (w (o0 + 4) x1) = x2 then 1 else if (w (o0 + 5) x1) = x2 then 1 else 0)] (sh, w) Q by
    refine z_icmp_eq (tgt := 20) dX3_hasEvent_7 (by decide) (fun c3 => ?_) (fun c3 => ?_)
    · skip
      refine z_iconst dX3_hasEvent_20 (by decide) ?_
      refine z_goto (tgt := 25) dX3_hasEvent_21 (by decide) ?_
      refine z_sub (L' := []) [] rfl ?_
      simp only [if_pos c3] at hJ2
      exact hJ2
    · skip
      have ho6 := m4 c3
      refine z_aload_n 0 dX3_hasEvent_10 rfl rfl ?_
      refine z_getR (r := (o0 + 5)) zfRX3_24 dX3_hasEvent_11 hh0.1 rfl ?_
      refine z_iload_n 1 dX3_hasEvent_14 rfl rfl ?_
      obtain ⟨q7, ho6⟩ := ho6
      refine z_iald dX3_hasEvent_15 hh0.2.2.2.2.2.1 q7 ?_
      refine z_iload_n 2 dX3_hasEvent_16 rfl rfl ?_
      suffices hJ8 : z_Sem mX3_hasEvent (sh.length, 0) 25 [] [z_i (if (w (o0 + 5) x1) = x2 then 1 else 0)] (sh, w) Q by
        refine z_icmp_ne (tgt := 24) dX3_hasEvent_17 (by decide) (fun c9 => ?_) (fun c9 => ?_)
        · skip
          refine z_iconst dX3_hasEvent_24 (by decide) ?_
          refine z_sub (L' := []) [] rfl ?_
          simp only [if_neg c9] at hJ8
          exact hJ8
        · skip
          refine z_iconst dX3_hasEvent_20 (by decide) ?_
          refine z_goto (tgt := 25) dX3_hasEvent_21 (by decide) ?_
          refine z_sub (L' := []) [] rfl ?_
          simp only [if_pos c9] at hJ8
          exact hJ8
      simp only [if_neg c3] at hJ2
      exact hJ2
  exact z_ret (v := some (z_i (if (w (o0 + 4) x1) = x2 then 1 else if (w (o0 + 5) x1) = x2 then 1 else 0))) dX3_hasEvent_25 ⟨rfl, Or.inr (Or.inl ⟨rfl, (z_it01 (by decide) (z_it01 (by decide) (by decide)))⟩)⟩ rfl h
set_option maxRecDepth 100000 in
theorem t_X3_countPinned {sh : List z_C} {w : Nat → Int → Int} {Q : Option z_V → z_S → Prop} {o0 : Nat} (hh0 : z_isPla sh o0) (h : z_Sem mX3_countPinned (sh.length, 0) 4 [(0, z_r o0), (1, z_i 0), (2, z_i 0)] [] (sh, w) Q) : z_Sem mX3_countPinned (sh.length, 0) 0 [(0, z_r o0)] [] (sh, w) Q := by
  refine z_iconst dX3_countPinned_0 (by decide) ?_
  refine z_istore_n (L' := [(1, z_i 0), (0, z_r o0)]) dX3_countPinned_1 rfl (by decide) rfl ?_
  refine z_iconst dX3_countPinned_2 (by decide) ?_
  refine z_istore_n (L' := [(2, z_i 0), (1, z_i 0), (0, z_r o0)]) dX3_countPinned_3 rfl (by decide) rfl ?_
  refine z_sub (L' := [(0, z_r o0), (1, z_i 0), (2, z_i 0)]) [2, 1, 0] rfl ?_
  exact h
set_option maxRecDepth 100000 in
theorem t_X3_countPinned_4 {sh : List z_C} {w : Nat → Int → Int} {Q : Option z_V → z_S → Prop} {o0 : Nat} {x1 : Int} {x2 : Int} (hh0 : z_isPla sh o0) (h : (((w o0 10) ≤ x2 → Q (some (z_i x1)) (sh, w)) ∧ (¬ (w o0 10) ≤ x2 → (s_X3_isPinned w o0 x2) ∧ (z_R (x1 + (f_X8_asNumber w (f_X3_isPinned w o0 x2)))) ∧ ∀ y4 : Int, y4 = (x1 + (f_X8_asNumber w (f_X3_isPinned w o0 x2))) → (z_R (x2 + 1)) ∧ z_Sem mX3_countPinned (sh.length, 0) 4 [(0, z_r o0), (1, z_i y4), (2, z_i (x2 + 1))] [] (sh, w) Q))) : z_Sem mX3_countPinned (sh.length, 0) 4 [(0, z_r o0), (1, z_i x1), (2, z_i x2)] [] (sh, w) Q := by
  refine z_iload_n 2 dX3_countPinned_4 rfl rfl ?_
  refine z_aload_n 0 dX3_countPinned_5 rfl rfl ?_
  refine z_getI (ki := 10) zfRX3_48 dX3_countPinned_6 hh0.1 rfl rfl ?_
  refine z_icmp_ge (tgt := 29) dX3_countPinned_9 (by decide) (fun c1 => ?_) (fun c1 => ?_)
  · replace h := h.1 c1
    refine z_iload_n 1 dX3_countPinned_29 rfl rfl ?_
    exact z_ret (v := some (z_i x1)) dX3_countPinned_30 ⟨rfl, Or.inl rfl⟩ rfl h
  · replace h := h.2 c1
    refine z_iload_n 1 dX3_countPinned_12 rfl rfl ?_
    refine z_aload_n 0 dX3_countPinned_13 rfl rfl ?_
    refine z_iload_n 2 dX3_countPinned_14 rfl rfl ?_
    obtain ⟨q2, h⟩ := h
    refine z_callV (As := [z_i x2]) (rest := [z_i x1]) zmX3_isPinned znX3_isPinned zsX3_isPinned (show z_Cl[3]? = some (RX3, TX3, 12) from rfl) zlRX3_105 ⟨Nat.le_of_ble_eq_true rfl, Nat.le_of_ble_eq_true rfl⟩ dX3_countPinned_15 hh0.1 rfl rfl (z_ai z_a0) (Nat.le_of_ble_eq_true rfl) (Nat.le_of_ble_eq_true rfl) ⟨rfl, rfl⟩ ?_
    refine t_X3_isPinned hh0 q2 ?_
    show z_Sem mX3_countPinned (sh.length, 0) 18 [(0, z_r o0), (1, z_i x1), (2, z_i x2)] [z_i (f_X3_isPinned w o0 x2), z_i x1] (sh, w) Q
    refine z_callS (As := [z_i (f_X3_isPinned w o0 x2)]) (rest := [z_i x1]) zmX8_asNumber ztX8_asNumber zlRX3_109 ⟨Nat.le_of_ble_eq_true rfl, Nat.le_of_ble_eq_true rfl⟩ dX3_countPinned_18 rfl rfl (z_ai z_a0) (Nat.le_of_ble_eq_true rfl) (Nat.le_of_ble_eq_true rfl) ⟨rfl, rfl⟩ ?_
    refine t_X8_asNumber  ?_
    show z_Sem mX3_countPinned (sh.length, 0) 21 [(0, z_r o0), (1, z_i x1), (2, z_i x2)] [z_i (f_X8_asNumber w (f_X3_isPinned w o0 x2)), z_i x1] (sh, w) Q
    obtain ⟨q3, h⟩ := h
    refine z_iadd dX3_countPinned_21 q3 ?_
    refine z_nam (fun y4 hy4 => ?_)
    replace h := h y4 hy4
    refine z_istore_n (L' := [(1, z_i y4), (0, z_r o0), (2, z_i x2)]) dX3_countPinned_22 rfl (by decide) rfl ?_
    obtain ⟨q5, h⟩ := h
    refine z_iinc (L' := [(2, z_i (x2 + 1)), (1, z_i y4), (0, z_r o0)]) 2 dX3_countPinned_23 rfl (by decide) rfl q5 ?_
    refine z_goto (tgt := 4) dX3_countPinned_26 (by decide) ?_
    refine z_sub (L' := [(0, z_r o0), (1, z_i y4), (2, z_i (x2 + 1))]) [2, 1, 0] rfl ?_
    exact h
set_option maxRecDepth 100000 in
theorem t_X3_countOn {sh : List z_C} {w : Nat → Int → Int} {Q : Option z_V → z_S → Prop} {o0 : Nat} (hh0 : z_isPla sh o0) (h : z_Sem mX3_countOn (sh.length, 0) 4 [(0, z_r o0), (1, z_i 0), (2, z_i 0)] [] (sh, w) Q) : z_Sem mX3_countOn (sh.length, 0) 0 [(0, z_r o0)] [] (sh, w) Q := by
  refine z_iconst dX3_countOn_0 (by decide) ?_
  refine z_istore_n (L' := [(1, z_i 0), (0, z_r o0)]) dX3_countOn_1 rfl (by decide) rfl ?_
  refine z_iconst dX3_countOn_2 (by decide) ?_
  refine z_istore_n (L' := [(2, z_i 0), (1, z_i 0), (0, z_r o0)]) dX3_countOn_3 rfl (by decide) rfl ?_
  refine z_sub (L' := [(0, z_r o0), (1, z_i 0), (2, z_i 0)]) [2, 1, 0] rfl ?_
  exact h
set_option maxRecDepth 100000 in
theorem t_X3_countOn_4 {sh : List z_C} {w : Nat → Int → Int} {Q : Option z_V → z_S → Prop} {o0 : Nat} {x1 : Int} {x2 : Int} (hh0 : z_isPla sh o0) (h : (((w o0 11) ≤ x2 → Q (some (z_i x1)) (sh, w)) ∧ (¬ (w o0 11) ≤ x2 → ((0 : Int) ≤ x2 ∧ x2 < 24) ∧ (z_R (x1 + (f_X8_asNumber w (w (o0 + 8) x2)))) ∧ ∀ y4 : Int, y4 = (x1 + (f_X8_asNumber w (w (o0 + 8) x2))) → (z_R (x2 + 1)) ∧ z_Sem mX3_countOn (sh.length, 0) 4 [(0, z_r o0), (1, z_i y4), (2, z_i (x2 + 1))] [] (sh, w) Q))) : z_Sem mX3_countOn (sh.length, 0) 4 [(0, z_r o0), (1, z_i x1), (2, z_i x2)] [] (sh, w) Q := by
  refine z_iload_n 2 dX3_countOn_4 rfl rfl ?_
  refine z_aload_n 0 dX3_countOn_5 rfl rfl ?_
  refine z_getI (ki := 11) zfRX3_51 dX3_countOn_6 hh0.1 rfl rfl ?_
  refine z_icmp_ge (tgt := 30) dX3_countOn_9 (by decide) (fun c1 => ?_) (fun c1 => ?_)
  · replace h := h.1 c1
    refine z_iload_n 1 dX3_countOn_30 rfl rfl ?_
    exact z_ret (v := some (z_i x1)) dX3_countOn_31 ⟨rfl, Or.inl rfl⟩ rfl h
  · replace h := h.2 c1
    refine z_iload_n 1 dX3_countOn_12 rfl rfl ?_
    refine z_aload_n 0 dX3_countOn_13 rfl rfl ?_
    refine z_getR (r := (o0 + 8)) zfRX3_33 dX3_countOn_14 hh0.1 rfl ?_
    refine z_iload_n 2 dX3_countOn_17 rfl rfl ?_
    obtain ⟨q2, h⟩ := h
    refine z_zald dX3_countOn_18 hh0.2.2.2.2.2.2.2.2.1 q2 ?_
    refine z_callS (As := [z_i (w (o0 + 8) x2)]) (rest := [z_i x1]) zmX8_asNumber ztX8_asNumber zlRX3_109 ⟨Nat.le_of_ble_eq_true rfl, Nat.le_of_ble_eq_true rfl⟩ dX3_countOn_19 rfl rfl (z_ai z_a0) (Nat.le_of_ble_eq_true rfl) (Nat.le_of_ble_eq_true rfl) ⟨rfl, rfl⟩ ?_
    refine t_X8_asNumber  ?_
    show z_Sem mX3_countOn (sh.length, 0) 22 [(0, z_r o0), (1, z_i x1), (2, z_i x2)] [z_i (f_X8_asNumber w (w (o0 + 8) x2)), z_i x1] (sh, w) Q
    obtain ⟨q3, h⟩ := h
    refine z_iadd dX3_countOn_22 q3 ?_
    refine z_nam (fun y4 hy4 => ?_)
    replace h := h y4 hy4
    refine z_istore_n (L' := [(1, z_i y4), (0, z_r o0), (2, z_i x2)]) dX3_countOn_23 rfl (by decide) rfl ?_
    obtain ⟨q5, h⟩ := h
    refine z_iinc (L' := [(2, z_i (x2 + 1)), (1, z_i y4), (0, z_r o0)]) 2 dX3_countOn_24 rfl (by decide) rfl q5 ?_
    refine z_goto (tgt := 4) dX3_countOn_27 (by decide) ?_
    refine z_sub (L' := [(0, z_r o0), (1, z_i y4), (2, z_i (x2 + 1))]) [2, 1, 0] rfl ?_
    exact h
set_option maxRecDepth 100000 in
theorem t_X3_countOnOf {sh : List z_C} {w : Nat → Int → Int} {Q : Option z_V → z_S → Prop} {o0 : Nat} {x1 : Int} (hh0 : z_isPla sh o0) (h : z_Sem mX3_countOnOf (sh.length, 0) 4 [(0, z_r o0), (1, z_i x1), (2, z_i 0), (3, z_i 0)] [] (sh, w) Q) : z_Sem mX3_countOnOf (sh.length, 0) 0 [(0, z_r o0), (1, z_i x1)] [] (sh, w) Q := by
  refine z_iconst dX3_countOnOf_0 (by decide) ?_
  refine z_istore_n (L' := [(2, z_i 0), (0, z_r o0), (1, z_i x1)]) dX3_countOnOf_1 rfl (by decide) rfl ?_
  refine z_iconst dX3_countOnOf_2 (by decide) ?_
  refine z_istore_n (L' := [(3, z_i 0), (2, z_i 0), (0, z_r o0), (1, z_i x1)]) dX3_countOnOf_3 rfl (by decide) rfl ?_
  refine z_sub (L' := [(0, z_r o0), (1, z_i x1), (2, z_i 0), (3, z_i 0)]) [2, 3, 1, 0] rfl ?_
  exact h
set_option maxRecDepth 100000 in
theorem t_X3_countOnOf_4 {sh : List z_C} {w : Nat → Int → Int} {Q : Option z_V → z_S → Prop} {o0 : Nat} {x1 : Int} {x2 : Int} {x3 : Int} (hh0 : z_isPla sh o0) (h : (((w o0 11) ≤ x3 → Q (some (z_i x2)) (sh, w)) ∧ (¬ (w o0 11) ≤ x3 → ((0 : Int) ≤ x3 ∧ x3 < 24) ∧ (¬ (w (o0 + 8) x3) = 0 → (s_X3_hasEvent w o0 x3 x1) ∧ True) ∧ (z_R (x2 + (f_X8_asNumber w (if (w (o0 + 8) x3) = 0 then 0 else if (f_X3_hasEvent w o0 x3 x1) = 0 then 0 else 1)))) ∧ ∀ y14 : Int, y14 = (x2 + (f_X8_asNumber w (if (w (o0 + 8) x3) = 0 then 0 else if (f_X3_hasEvent w o0 x3 x1) = 0 then 0 else 1))) → (z_R (x3 + 1)) ∧ z_Sem mX3_countOnOf (sh.length, 0) 4 [(0, z_r o0), (1, z_i x1), (2, z_i y14), (3, z_i (x3 + 1))] [] (sh, w) Q))) : z_Sem mX3_countOnOf (sh.length, 0) 4 [(0, z_r o0), (1, z_i x1), (2, z_i x2), (3, z_i x3)] [] (sh, w) Q := by
  refine z_iload_n 3 dX3_countOnOf_4 rfl rfl ?_
  refine z_aload_n 0 dX3_countOnOf_5 rfl rfl ?_
  refine z_getI (ki := 11) zfRX3_51 dX3_countOnOf_6 hh0.1 rfl rfl ?_
  refine z_icmp_ge (tgt := 47) dX3_countOnOf_9 (by decide) (fun c1 => ?_) (fun c1 => ?_)
  · replace h := h.1 c1
    refine z_iload_n 2 dX3_countOnOf_47 rfl rfl ?_
    exact z_ret (v := some (z_i x2)) dX3_countOnOf_48 ⟨rfl, Or.inl rfl⟩ rfl h
  · replace h := h.2 c1
    refine z_iload_n 2 dX3_countOnOf_12 rfl rfl ?_
    refine z_aload_n 0 dX3_countOnOf_13 rfl rfl ?_
    refine z_getR (r := (o0 + 8)) zfRX3_33 dX3_countOnOf_14 hh0.1 rfl ?_
    refine z_iload_n 3 dX3_countOnOf_17 rfl rfl ?_
    obtain ⟨q2, h⟩ := h
    refine z_zald dX3_countOnOf_18 hh0.2.2.2.2.2.2.2.2.1 q2 ?_
    obtain ⟨m5, h⟩ := h
    suffices hJ3 : z_Sem mX3_countOnOf (sh.length, 0) 36 [(0, z_r o0), (1, z_i x1), (3, z_i x3)] [z_i (if (w (o0 + 8) x3) = 0 then 0 else if (f_X3_hasEvent w o0 x3 x1) = 0 then 0 else 1), z_i x2] (sh, w) Q by
      refine z_if_eq (tgt := 35) dX3_countOnOf_19 (by decide) (fun c4 => ?_) (fun c4 => ?_)
      · skip
        refine z_iconst dX3_countOnOf_35 (by decide) ?_
        refine z_sub (L' := [(0, z_r o0), (1, z_i x1), (3, z_i x3)]) [0, 1, 3] rfl ?_
        simp only [if_pos c4] at hJ3
        exact hJ3
      · skip
        have ho7 := m5 c4
        refine z_aload_n 0 dX3_countOnOf_22 rfl rfl ?_
        refine z_iload_n 3 dX3_countOnOf_23 rfl rfl ?_
        refine z_iload_n 1 dX3_countOnOf_24 rfl rfl ?_
        obtain ⟨q8, ho7⟩ := ho7
        refine z_callV (As := [z_i x3, z_i x1]) (rest := [z_i x2]) zmX3_hasEvent znX3_hasEvent zsX3_hasEvent (show z_Cl[3]? = some (RX3, TX3, 12) from rfl) zlRX3_113 ⟨Nat.le_of_ble_eq_true rfl, Nat.le_of_ble_eq_true rfl⟩ dX3_countOnOf_25 hh0.1 rfl rfl (z_ai (z_ai z_a0)) (Nat.le_of_ble_eq_true rfl) (Nat.le_of_ble_eq_true rfl) ⟨rfl, rfl⟩ ?_
        refine t_X3_hasEvent hh0 q8 ?_
        show z_Sem mX3_countOnOf (sh.length, 0) 28 [(0, z_r o0), (1, z_i x1), (2, z_i x2), (3, z_i x3)] [z_i (f_X3_hasEvent w o0 x3 x1), z_i x2] (sh, w) Q
        suffices hJ9 : z_Sem mX3_countOnOf (sh.length, 0) 36 [(0, z_r o0), (1, z_i x1), (3, z_i x3)] [z_i (if (f_X3_hasEvent w o0 x3 x1) = 0 then 0 else 1), z_i x2] (sh, w) Q by
          refine z_if_eq (tgt := 35) dX3_countOnOf_28 (by decide) (fun c10 => ?_) (fun c10 => ?_)
          · skip
            refine z_iconst dX3_countOnOf_35 (by decide) ?_
            refine z_sub (L' := [(0, z_r o0), (1, z_i x1), (3, z_i x3)]) [0, 1, 3] rfl ?_
            simp only [if_pos c10] at hJ9
            exact hJ9
          · skip
            refine z_iconst dX3_countOnOf_31 (by decide) ?_
            refine z_goto (tgt := 36) dX3_countOnOf_32 (by decide) ?_
            refine z_sub (L' := [(0, z_r o0), (1, z_i x1), (3, z_i x3)]) [0, 1, 3] rfl ?_
            simp only [if_neg c10] at hJ9
            exact hJ9
        simp only [if_neg c4] at hJ3
        exact hJ3
    refine z_callS (As := [z_i (if (w (o0 + 8) x3) = 0 then 0 else if (f_X3_hasEvent w o0 x3 x1) = 0 then 0 else 1)]) (rest := [z_i x2]) zmX8_asNumber ztX8_asNumber zlRX3_109 ⟨Nat.le_of_ble_eq_true rfl, Nat.le_of_ble_eq_true rfl⟩ dX3_countOnOf_36 rfl rfl (z_ai z_a0) (Nat.le_of_ble_eq_true rfl) (Nat.le_of_ble_eq_true rfl) ⟨rfl, rfl⟩ ?_
    refine t_X8_asNumber  ?_
    show z_Sem mX3_countOnOf (sh.length, 0) 39 [(0, z_r o0), (1, z_i x1), (3, z_i x3)] [z_i (f_X8_asNumber w (if (w (o0 + 8) x3) = 0 then 0 else if (f_X3_hasEvent w o0 x3 x1) = 0 then 0 else 1)), z_i x2] (sh, w) Q
    obtain ⟨q13, h⟩ := h
    refine z_iadd dX3_countOnOf_39 q13 ?_
    refine z_nam (fun y14 hy14 => ?_)
    replace h := h y14 hy14
    refine z_istore_n (L' := [(2, z_i y14), (0, z_r o0), (1, z_i x1), (3, z_i x3)]) dX3_countOnOf_40 rfl (by decide) rfl ?_
    obtain ⟨q15, h⟩ := h
    refine z_iinc (L' := [(3, z_i (x3 + 1)), (2, z_i y14), (0, z_r o0), (1, z_i x1)]) 3 dX3_countOnOf_41 rfl (by decide) rfl q15 ?_
    refine z_goto (tgt := 4) dX3_countOnOf_44 (by decide) ?_
    refine z_sub (L' := [(0, z_r o0), (1, z_i x1), (2, z_i y14), (3, z_i (x3 + 1))]) [2, 3, 1, 0] rfl ?_
    exact h
set_option maxRecDepth 100000 in
theorem t_X6_countSpaces {sh : List z_C} {w : Nat → Int → Int} {Q : Option z_V → z_S → Prop} {x1 : Int} (hh0 : z_isTap sh 140) (h : z_Sem mX6_countSpaces (sh.length, 0) 2 [(0, z_r 140), (1, z_i x1), (2, z_i x1)] [] (sh, w) Q) : z_Sem mX6_countSpaces (sh.length, 0) 0 [(0, z_r 140), (1, z_i x1)] [] (sh, w) Q := by
  refine z_iload_n 1 dX6_countSpaces_0 rfl rfl ?_
  refine z_istore_n (L' := [(2, z_i x1), (0, z_r 140), (1, z_i x1)]) dX6_countSpaces_1 rfl (by decide) rfl ?_
  refine z_sub (L' := [(0, z_r 140), (1, z_i x1), (2, z_i x1)]) [1, 2, 0] rfl ?_
  exact h
set_option maxRecDepth 100000 in
theorem t_X6_countSpaces_2 {sh : List z_C} {w : Nat → Int → Int} {Q : Option z_V → z_S → Prop} {x1 : Int} {x2 : Int} (hh0 : z_isTap sh 140) (h : (((w 140 1) ≤ x2 → (z_R (x2 - x1)) ∧ Q (some (z_i (x2 - x1))) (sh, w)) ∧ (¬ (w 140 1) ≤ x2 → (s_X6_byteAt w x2) ∧ (((f_X6_byteAt w x2) = 32 → (z_R (x2 + 1)) ∧ z_Sem mX6_countSpaces (sh.length, 0) 2 [(0, z_r 140), (1, z_i x1), (2, z_i (x2 + 1))] [] (sh, w) Q) ∧ (¬ (f_X6_byteAt w x2) = 32 → (s_X6_byteAt w x2) ∧ (((f_X6_byteAt w x2) = 10 → (z_R (x2 + 1)) ∧ z_Sem mX6_countSpaces (sh.length, 0) 2 [(0, z_r 140), (1, z_i x1), (2, z_i (x2 + 1))] [] (sh, w) Q) ∧ (¬ (f_X6_byteAt w x2) = 10 → (z_R (x2 - x1)) ∧ Q (some (z_i (x2 - x1))) (sh, w)))))))) : z_Sem mX6_countSpaces (sh.length, 0) 2 [(0, z_r 140), (1, z_i x1), (2, z_i x2)] [] (sh, w) Q := by
  refine z_iload_n 2 dX6_countSpaces_2 rfl rfl ?_
  refine z_aload_n 0 dX6_countSpaces_3 rfl rfl ?_
  refine z_getI (ki := 1) zfRX6_15 dX6_countSpaces_4 hh0.1 rfl rfl ?_
  refine z_icmp_ge (tgt := 36) dX6_countSpaces_7 (by decide) (fun c1 => ?_) (fun c1 => ?_)
  · replace h := h.1 c1
    refine z_iload_n 2 dX6_countSpaces_36 rfl rfl ?_
    refine z_iload_n 1 dX6_countSpaces_37 rfl rfl ?_
    obtain ⟨q2, h⟩ := h
    refine z_isub dX6_countSpaces_38 q2 ?_
    exact z_ret (v := some (z_i (x2 - x1))) dX6_countSpaces_39 ⟨rfl, Or.inl rfl⟩ rfl h
  · replace h := h.2 c1
    refine z_aload_n 0 dX6_countSpaces_10 rfl rfl ?_
    refine z_iload_n 2 dX6_countSpaces_11 rfl rfl ?_
    obtain ⟨q3, h⟩ := h
    refine z_callV (As := [z_i x2]) (rest := []) zmX6_byteAt znX6_byteAt zsX6_byteAt (show z_Cl[6]? = some (RX6, TX6, 2) from rfl) zlRX6_52 ⟨Nat.le_of_ble_eq_true rfl, Nat.le_of_ble_eq_true rfl⟩ dX6_countSpaces_12 hh0.1 rfl rfl (z_ai z_a0) (Nat.le_of_ble_eq_true rfl) (Nat.le_of_ble_eq_true rfl) ⟨rfl, rfl⟩ ?_
    refine t_X6_byteAt hh0 q3 ?_
    show z_Sem mX6_countSpaces (sh.length, 0) 15 [(0, z_r 140), (1, z_i x1), (2, z_i x2)] [z_i (f_X6_byteAt w x2)] (sh, w) Q
    refine z_bipush dX6_countSpaces_15 (by decide) (by decide) ?_
    refine z_icmp_eq (tgt := 30) dX6_countSpaces_17 (by decide) (fun c4 => ?_) (fun c4 => ?_)
    · replace h := h.1 c4
      obtain ⟨q5, h⟩ := h
      refine z_iinc (L' := [(2, z_i (x2 + 1)), (0, z_r 140), (1, z_i x1)]) 2 dX6_countSpaces_30 rfl (by decide) rfl q5 ?_
      refine z_goto (tgt := 2) dX6_countSpaces_33 (by decide) ?_
      refine z_sub (L' := [(0, z_r 140), (1, z_i x1), (2, z_i (x2 + 1))]) [1, 2, 0] rfl ?_
      exact h
    · replace h := h.2 c4
      refine z_aload_n 0 dX6_countSpaces_20 rfl rfl ?_
      refine z_iload_n 2 dX6_countSpaces_21 rfl rfl ?_
      obtain ⟨q6, h⟩ := h
      refine z_callV (As := [z_i x2]) (rest := []) zmX6_byteAt znX6_byteAt zsX6_byteAt (show z_Cl[6]? = some (RX6, TX6, 2) from rfl) zlRX6_52 ⟨Nat.le_of_ble_eq_true rfl, Nat.le_of_ble_eq_true rfl⟩ dX6_countSpaces_22 hh0.1 rfl rfl (z_ai z_a0) (Nat.le_of_ble_eq_true rfl) (Nat.le_of_ble_eq_true rfl) ⟨rfl, rfl⟩ ?_
      refine t_X6_byteAt hh0 q6 ?_
      show z_Sem mX6_countSpaces (sh.length, 0) 25 [(0, z_r 140), (1, z_i x1), (2, z_i x2)] [z_i (f_X6_byteAt w x2)] (sh, w) Q
      refine z_bipush dX6_countSpaces_25 (by decide) (by decide) ?_
      refine z_icmp_ne (tgt := 36) dX6_countSpaces_27 (by decide) (fun c7 => ?_) (fun c7 => ?_)
      · replace h := h.2 c7
        refine z_iload_n 2 dX6_countSpaces_36 rfl rfl ?_
        refine z_iload_n 1 dX6_countSpaces_37 rfl rfl ?_
        obtain ⟨q8, h⟩ := h
        refine z_isub dX6_countSpaces_38 q8 ?_
        exact z_ret (v := some (z_i (x2 - x1))) dX6_countSpaces_39 ⟨rfl, Or.inl rfl⟩ rfl h
      · replace h := h.1 c7
        obtain ⟨q9, h⟩ := h
        refine z_iinc (L' := [(2, z_i (x2 + 1)), (0, z_r 140), (1, z_i x1)]) 2 dX6_countSpaces_30 rfl (by decide) rfl q9 ?_
        refine z_goto (tgt := 2) dX6_countSpaces_33 (by decide) ?_
        refine z_sub (L' := [(0, z_r 140), (1, z_i x1), (2, z_i (x2 + 1))]) [1, 2, 0] rfl ?_
        exact h
def f_X6_isLetter (w : Nat → Int → Int) (x0 : Int) : Int := if x0 < 97 then 0 else if 122 < x0 then 0 else 1
set_option maxRecDepth 100000 in
theorem t_X6_isLetter {sh : List z_C} {w : Nat → Int → Int} {Q : Option z_V → z_S → Prop} {x0 : Int}  (h : Q (some (z_i (f_X6_isLetter w x0))) (sh, w)) : z_Sem mX6_isLetter (sh.length, 0) 0 [(0, z_i x0)] [] (sh, w) Q := by
  unfold f_X6_isLetter at h
  refine z_iload_n 0 dX6_isLetter_0 rfl rfl ?_
  refine z_bipush dX6_isLetter_1 (by decide) (by decide) ?_
  suffices hJ1 : z_Sem mX6_isLetter (sh.length, 0) 17 [] [z_i (if x0 < 97 then 0 else if 122 < x0 then 0 else 1)] (sh, w) Q by
    refine z_icmp_lt (tgt := 16) dX6_isLetter_3 (by decide) (fun c2 => ?_) (fun c2 => ?_)
    · skip
      refine z_iconst dX6_isLetter_16 (by decide) ?_
      refine z_sub (L' := []) [] rfl ?_
      simp only [if_pos c2] at hJ1
      exact hJ1
    · skip
      refine z_iload_n 0 dX6_isLetter_6 rfl rfl ?_
      refine z_bipush dX6_isLetter_7 (by decide) (by decide) ?_
      suffices hJ5 : z_Sem mX6_isLetter (sh.length, 0) 17 [] [z_i (if 122 < x0 then 0 else 1)] (sh, w) Q by
        refine z_icmp_gt (tgt := 16) dX6_isLetter_9 (by decide) (fun c6 => ?_) (fun c6 => ?_)
        · skip
          refine z_iconst dX6_isLetter_16 (by decide) ?_
          refine z_sub (L' := []) [] rfl ?_
          simp only [if_pos c6] at hJ5
          exact hJ5
        · skip
          refine z_iconst dX6_isLetter_12 (by decide) ?_
          refine z_goto (tgt := 17) dX6_isLetter_13 (by decide) ?_
          refine z_sub (L' := []) [] rfl ?_
          simp only [if_neg c6] at hJ5
          exact hJ5
      simp only [if_neg c2] at hJ1
      exact hJ1
  exact z_ret (v := some (z_i (if x0 < 97 then 0 else if 122 < x0 then 0 else 1))) dX6_isLetter_17 ⟨rfl, Or.inr (Or.inl ⟨rfl, (z_it01 (by decide) (z_it01 (by decide) (by decide)))⟩)⟩ rfl h
set_option maxRecDepth 100000 in
theorem t_X6_countLetters {sh : List z_C} {w : Nat → Int → Int} {Q : Option z_V → z_S → Prop} {x1 : Int} (hh0 : z_isTap sh 140) (h : z_Sem mX6_countLetters (sh.length, 0) 2 [(0, z_r 140), (1, z_i x1), (2, z_i x1)] [] (sh, w) Q) : z_Sem mX6_countLetters (sh.length, 0) 0 [(0, z_r 140), (1, z_i x1)] [] (sh, w) Q := by
  refine z_iload_n 1 dX6_countLetters_0 rfl rfl ?_
  refine z_istore_n (L' := [(2, z_i x1), (0, z_r 140), (1, z_i x1)]) dX6_countLetters_1 rfl (by decide) rfl ?_
  refine z_sub (L' := [(0, z_r 140), (1, z_i x1), (2, z_i x1)]) [1, 2, 0] rfl ?_
  exact h
set_option maxRecDepth 100000 in
theorem t_X6_countLetters_2 {sh : List z_C} {w : Nat → Int → Int} {Q : Option z_V → z_S → Prop} {x1 : Int} {x2 : Int} (hh0 : z_isTap sh 140) (h : (((w 140 1) ≤ x2 → (z_R (x2 - x1)) ∧ Q (some (z_i (x2 - x1))) (sh, w)) ∧ (¬ (w 140 1) ≤ x2 → (s_X6_byteAt w x2) ∧ (((f_X6_isLetter w (f_X6_byteAt w x2)) = 0 → (z_R (x2 - x1)) ∧ Q (some (z_i (x2 - x1))) (sh, w)) ∧ (¬ (f_X6_isLetter w (f_X6_byteAt w x2)) = 0 → (z_R (x2 + 1)) ∧ z_Sem mX6_countLetters (sh.length, 0) 2 [(0, z_r 140), (1, z_i x1), (2, z_i (x2 + 1))] [] (sh, w) Q))))) : z_Sem mX6_countLetters (sh.length, 0) 2 [(0, z_r 140), (1, z_i x1), (2, z_i x2)] [] (sh, w) Q := by
  refine z_iload_n 2 dX6_countLetters_2 rfl rfl ?_
  refine z_aload_n 0 dX6_countLetters_3 rfl rfl ?_
  refine z_getI (ki := 1) zfRX6_15 dX6_countLetters_4 hh0.1 rfl rfl ?_
  refine z_icmp_ge (tgt := 27) dX6_countLetters_7 (by decide) (fun c1 => ?_) (fun c1 => ?_)
  · replace h := h.1 c1
    refine z_iload_n 2 dX6_countLetters_27 rfl rfl ?_
    refine z_iload_n 1 dX6_countLetters_28 rfl rfl ?_
    obtain ⟨q2, h⟩ := h
    refine z_isub dX6_countLetters_29 q2 ?_
    exact z_ret (v := some (z_i (x2 - x1))) dX6_countLetters_30 ⟨rfl, Or.inl rfl⟩ rfl h
  · replace h := h.2 c1
    refine z_aload_n 0 dX6_countLetters_10 rfl rfl ?_
    refine z_iload_n 2 dX6_countLetters_11 rfl rfl ?_
    obtain ⟨q3, h⟩ := h
    refine z_callV (As := [z_i x2]) (rest := []) zmX6_byteAt znX6_byteAt zsX6_byteAt (show z_Cl[6]? = some (RX6, TX6, 2) from rfl) zlRX6_52 ⟨Nat.le_of_ble_eq_true rfl, Nat.le_of_ble_eq_true rfl⟩ dX6_countLetters_12 hh0.1 rfl rfl (z_ai z_a0) (Nat.le_of_ble_eq_true rfl) (Nat.le_of_ble_eq_true rfl) ⟨rfl, rfl⟩ ?_
    refine t_X6_byteAt hh0 q3 ?_
    show z_Sem mX6_countLetters (sh.length, 0) 15 [(0, z_r 140), (1, z_i x1), (2, z_i x2)] [z_i (f_X6_byteAt w x2)] (sh, w) Q
    refine z_callS (As := [z_i (f_X6_byteAt w x2)]) (rest := []) zmX6_isLetter ztX6_isLetter zlRX6_59 ⟨Nat.le_of_ble_eq_true rfl, Nat.le_of_ble_eq_true rfl⟩ dX6_countLetters_15 rfl rfl (z_ai z_a0) (Nat.le_of_ble_eq_true rfl) (Nat.le_of_ble_eq_true rfl) ⟨rfl, rfl⟩ ?_
    refine t_X6_isLetter  ?_
    show z_Sem mX6_countLetters (sh.length, 0) 18 [(0, z_r 140), (1, z_i x1), (2, z_i x2)] [z_i (f_X6_isLetter w (f_X6_byteAt w x2))] (sh, w) Q
    refine z_if_eq (tgt := 27) dX6_countLetters_18 (by decide) (fun c4 => ?_) (fun c4 => ?_)
    · replace h := h.1 c4
      refine z_iload_n 2 dX6_countLetters_27 rfl rfl ?_
      refine z_iload_n 1 dX6_countLetters_28 rfl rfl ?_
      obtain ⟨q5, h⟩ := h
      refine z_isub dX6_countLetters_29 q5 ?_
      exact z_ret (v := some (z_i (x2 - x1))) dX6_countLetters_30 ⟨rfl, Or.inl rfl⟩ rfl h
    · replace h := h.2 c4
      obtain ⟨q6, h⟩ := h
      refine z_iinc (L' := [(2, z_i (x2 + 1)), (0, z_r 140), (1, z_i x1)]) 2 dX6_countLetters_21 rfl (by decide) rfl q6 ?_
      refine z_goto (tgt := 2) dX6_countLetters_24 (by decide) ?_
      refine z_sub (L' := [(0, z_r 140), (1, z_i x1), (2, z_i (x2 + 1))]) [1, 2, 0] rfl ?_
      exact h
def f_X6_isDigit (w : Nat → Int → Int) (x0 : Int) : Int := if x0 < 48 then 0 else if 57 < x0 then 0 else 1
set_option maxRecDepth 100000 in
theorem t_X6_isDigit {sh : List z_C} {w : Nat → Int → Int} {Q : Option z_V → z_S → Prop} {x0 : Int}  (h : Q (some (z_i (f_X6_isDigit w x0))) (sh, w)) : z_Sem mX6_isDigit (sh.length, 0) 0 [(0, z_i x0)] [] (sh, w) Q := by
  unfold f_X6_isDigit at h
  refine z_iload_n 0 dX6_isDigit_0 rfl rfl ?_
  refine z_bipush dX6_isDigit_1 (by decide) (by decide) ?_
  suffices hJ1 : z_Sem mX6_isDigit (sh.length, 0) 17 [] [z_i (if x0 < 48 then 0 else if 57 < x0 then 0 else 1)] (sh, w) Q by
    refine z_icmp_lt (tgt := 16) dX6_isDigit_3 (by decide) (fun c2 => ?_) (fun c2 => ?_)
    · skip
      refine z_iconst dX6_isDigit_16 (by decide) ?_
      refine z_sub (L' := []) [] rfl ?_
      simp only [if_pos c2] at hJ1
      exact hJ1
    · skip
      refine z_iload_n 0 dX6_isDigit_6 rfl rfl ?_
      refine z_bipush dX6_isDigit_7 (by decide) (by decide) ?_
      suffices hJ5 : z_Sem mX6_isDigit (sh.length, 0) 17 [] [z_i (if 57 < x0 then 0 else 1)] (sh, w) Q by
        refine z_icmp_gt (tgt := 16) dX6_isDigit_9 (by decide) (fun c6 => ?_) (fun c6 => ?_)
        · skip
          refine z_iconst dX6_isDigit_16 (by decide) ?_
          refine z_sub (L' := []) [] rfl ?_
          simp only [if_pos c6] at hJ5
          exact hJ5
        · skip
          refine z_iconst dX6_isDigit_12 (by decide) ?_
          refine z_goto (tgt := 17) dX6_isDigit_13 (by decide) ?_
          refine z_sub (L' := []) [] rfl ?_
          simp only [if_neg c6] at hJ5
          exact hJ5
      simp only [if_neg c2] at hJ1
      exact hJ1
  exact z_ret (v := some (z_i (if x0 < 48 then 0 else if 57 < x0 then 0 else 1))) dX6_isDigit_17 ⟨rfl, Or.inr (Or.inl ⟨rfl, (z_it01 (by decide) (z_it01 (by decide) (by decide)))⟩)⟩ rfl h
set_option maxRecDepth 100000 in
theorem t_X6_countDigits {sh : List z_C} {w : Nat → Int → Int} {Q : Option z_V → z_S → Prop} {x1 : Int} (hh0 : z_isTap sh 140) (h : z_Sem mX6_countDigits (sh.length, 0) 2 [(0, z_r 140), (1, z_i x1), (2, z_i x1)] [] (sh, w) Q) : z_Sem mX6_countDigits (sh.length, 0) 0 [(0, z_r 140), (1, z_i x1)] [] (sh, w) Q := by
  refine z_iload_n 1 dX6_countDigits_0 rfl rfl ?_
  refine z_istore_n (L' := [(2, z_i x1), (0, z_r 140), (1, z_i x1)]) dX6_countDigits_1 rfl (by decide) rfl ?_
  refine z_sub (L' := [(0, z_r 140), (1, z_i x1), (2, z_i x1)]) [1, 2, 0] rfl ?_
  exact h
set_option maxRecDepth 100000 in
theorem t_X6_countDigits_2 {sh : List z_C} {w : Nat → Int → Int} {Q : Option z_V → z_S → Prop} {x1 : Int} {x2 : Int} (hh0 : z_isTap sh 140) (h : (((w 140 1) ≤ x2 → (z_R (x2 - x1)) ∧ Q (some (z_i (x2 - x1))) (sh, w)) ∧ (¬ (w 140 1) ≤ x2 → (s_X6_byteAt w x2) ∧ (((f_X6_isDigit w (f_X6_byteAt w x2)) = 0 → (z_R (x2 - x1)) ∧ Q (some (z_i (x2 - x1))) (sh, w)) ∧ (¬ (f_X6_isDigit w (f_X6_byteAt w x2)) = 0 → (z_R (x2 + 1)) ∧ z_Sem mX6_countDigits (sh.length, 0) 2 [(0, z_r 140), (1, z_i x1), (2, z_i (x2 + 1))] [] (sh, w) Q))))) : z_Sem mX6_countDigits (sh.length, 0) 2 [(0, z_r 140), (1, z_i x1), (2, z_i x2)] [] (sh, w) Q := by
  refine z_iload_n 2 dX6_countDigits_2 rfl rfl ?_
  refine z_aload_n 0 dX6_countDigits_3 rfl rfl ?_
  refine z_getI (ki := 1) zfRX6_15 dX6_countDigits_4 hh0.1 rfl rfl ?_
  refine z_icmp_ge (tgt := 27) dX6_countDigits_7 (by decide) (fun c1 => ?_) (fun c1 => ?_)
  · replace h := h.1 c1
    refine z_iload_n 2 dX6_countDigits_27 rfl rfl ?_
    refine z_iload_n 1 dX6_countDigits_28 rfl rfl ?_
    obtain ⟨q2, h⟩ := h
    refine z_isub dX6_countDigits_29 q2 ?_
    exact z_ret (v := some (z_i (x2 - x1))) dX6_countDigits_30 ⟨rfl, Or.inl rfl⟩ rfl h
  · replace h := h.2 c1
    refine z_aload_n 0 dX6_countDigits_10 rfl rfl ?_
    refine z_iload_n 2 dX6_countDigits_11 rfl rfl ?_
    obtain ⟨q3, h⟩ := h
    refine z_callV (As := [z_i x2]) (rest := []) zmX6_byteAt znX6_byteAt zsX6_byteAt (show z_Cl[6]? = some (RX6, TX6, 2) from rfl) zlRX6_52 ⟨Nat.le_of_ble_eq_true rfl, Nat.le_of_ble_eq_true rfl⟩ dX6_countDigits_12 hh0.1 rfl rfl (z_ai z_a0) (Nat.le_of_ble_eq_true rfl) (Nat.le_of_ble_eq_true rfl) ⟨rfl, rfl⟩ ?_
    refine t_X6_byteAt hh0 q3 ?_
    show z_Sem mX6_countDigits (sh.length, 0) 15 [(0, z_r 140), (1, z_i x1), (2, z_i x2)] [z_i (f_X6_byteAt w x2)] (sh, w) Q
    refine z_callS (As := [z_i (f_X6_byteAt w x2)]) (rest := []) zmX6_isDigit ztX6_isDigit zlRX6_63 ⟨Nat.le_of_ble_eq_true rfl, Nat.le_of_ble_eq_true rfl⟩ dX6_countDigits_15 rfl rfl (z_ai z_a0) (Nat.le_of_ble_eq_true rfl) (Nat.le_of_ble_eq_true rfl) ⟨rfl, rfl⟩ ?_
    refine t_X6_isDigit  ?_
    show z_Sem mX6_countDigits (sh.length, 0) 18 [(0, z_r 140), (1, z_i x1), (2, z_i x2)] [z_i (f_X6_isDigit w (f_X6_byteAt w x2))] (sh, w) Q
    refine z_if_eq (tgt := 27) dX6_countDigits_18 (by decide) (fun c4 => ?_) (fun c4 => ?_)
    · replace h := h.1 c4
      refine z_iload_n 2 dX6_countDigits_27 rfl rfl ?_
      refine z_iload_n 1 dX6_countDigits_28 rfl rfl ?_
      obtain ⟨q5, h⟩ := h
      refine z_isub dX6_countDigits_29 q5 ?_
      exact z_ret (v := some (z_i (x2 - x1))) dX6_countDigits_30 ⟨rfl, Or.inl rfl⟩ rfl h
    · replace h := h.2 c4
      obtain ⟨q6, h⟩ := h
      refine z_iinc (L' := [(2, z_i (x2 + 1)), (0, z_r 140), (1, z_i x1)]) 2 dX6_countDigits_21 rfl (by decide) rfl q6 ?_
      refine z_goto (tgt := 2) dX6_countDigits_24 (by decide) ?_
      refine z_sub (L' := [(0, z_r 140), (1, z_i x1), (2, z_i (x2 + 1))]) [1, 2, 0] rfl ?_
      exact h
