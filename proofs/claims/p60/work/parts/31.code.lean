set_option maxRecDepth 100000 in
theorem t_X4_next {sh : List z_C} {w : Nat → Int → Int} {Q : Option z_V → z_S → Prop}  (hh0 : z_isRea sh 139) (h : (z_R ((w 139 4) + (w 139 5))) ∧ ∀ w2 : Nat → Int → Int, w2 = z_W w 139 4 ((w 139 4) + (w 139 5)) → z_CI mX6_countSpaces [z_r 140, z_i (w2 139 4)] sh w2 (fun y4 w3 => (z_R ((w2 139 4) + y4)) ∧ ∀ w6 : Nat → Int → Int, w6 = z_W w3 139 4 ((w2 139 4) + y4) → (s_X6_byteAt w6 (w6 139 4)) ∧ ∀ y8 : Int, y8 = (f_X6_byteAt w6 (w6 139 4)) → ((y8 = (-1) → ∀ w34 : Nat → Int → Int, w34 = z_W w6 139 3 0 → ∀ w35 : Nat → Int → Int, w35 = z_W w34 139 5 0 → Q none (sh, w35)) ∧ (¬ y8 = (-1) → (((f_X6_isLetter w6 y8) = 0 → (((f_X6_isDigit w6 y8) = 0 → ∀ w12 : Nat → Int → Int, w12 = z_W w6 139 5 1 → ∀ w17 : Nat → Int → Int, w17 = z_W w12 139 3 (if y8 = 59 then 4 else 1) → Q none (sh, w17)) ∧ (¬ (f_X6_isDigit w6 y8) = 0 → z_CI mX6_countDigits [z_r 140, z_i (w6 139 4)] sh w6 (fun y19 w18 => ∀ w20 : Nat → Int → Int, w20 = z_W w18 139 5 y19 → ∀ w25 : Nat → Int → Int, w25 = z_W w20 139 3 (if 3 < (w20 139 5) then 1 else 3) → Q none (sh, w25))))) ∧ (¬ (f_X6_isLetter w6 y8) = 0 → z_CI mX6_countLetters [z_r 140, z_i (w6 139 4)] sh w6 (fun y27 w26 => ∀ w28 : Nat → Int → Int, w28 = z_W w26 139 5 y27 → ∀ w33 : Nat → Int → Int, w33 = z_W w28 139 3 (if 5 < (w28 139 5) then 1 else 2) → Q none (sh, w33)))))))) : z_Sem mX4_next (sh.length, 0) 0 [(0, z_r 139)] [] (sh, w) Q := by
  refine z_aload_n 0 dX4_next_0 rfl rfl ?_
  refine z_dup dX4_next_1 rfl ?_
  refine z_getI (ki := 4) zfRX4_35 dX4_next_2 hh0.1 rfl rfl ?_
  refine z_aload_n 0 dX4_next_5 rfl rfl ?_
  refine z_getI (ki := 5) zfRX4_39 dX4_next_6 hh0.1 rfl rfl ?_
  obtain ⟨q1, h⟩ := h
  refine z_iadd dX4_next_9 q1 ?_
  refine z_putI (ki := 4) zfRX4_35 dX4_next_10 hh0.1 rfl rfl ?_
  refine z_genw (fun w2 hw2 => ?_)
  replace h := h w2 hw2
  refine z_aload_n 0 dX4_next_13 rfl rfl ?_
  refine z_dup dX4_next_14 rfl ?_
  refine z_getI (ki := 4) zfRX4_35 dX4_next_15 hh0.1 rfl rfl ?_
  refine z_aload_n 0 dX4_next_18 rfl rfl ?_
  refine z_getR (r := 140) zfRX4_12 dX4_next_19 hh0.1 rfl ?_
  refine z_aload_n 0 dX4_next_22 rfl rfl ?_
  refine z_getI (ki := 4) zfRX4_35 dX4_next_23 hh0.1 rfl rfl ?_
  refine z_callV (As := [z_i (w2 139 4)]) (rest := [z_i (w2 139 4), z_r 139]) zmX6_countSpaces znX6_countSpaces zsX6_countSpaces (show z_Cl[6]? = some (RX6, TX6, 2) from rfl) zlRX4_75 ⟨Nat.le_of_ble_eq_true rfl, Nat.le_of_ble_eq_true rfl⟩ dX4_next_26 hh0.2.1.1 rfl rfl (z_ai z_a0) (Nat.le_of_ble_eq_true rfl) (Nat.le_of_ble_eq_true rfl) ⟨rfl, rfl⟩ (z_CIm h ?_)
  intro y4 w3 h
  show z_Sem mX4_next (sh.length, 0) 29 [(0, z_r 139)] [z_i y4, z_i (w2 139 4), z_r 139] (sh, w3) Q
  obtain ⟨q5, h⟩ := h
  refine z_iadd dX4_next_29 q5 ?_
  refine z_putI (ki := 4) zfRX4_35 dX4_next_30 hh0.1 rfl rfl ?_
  refine z_genw (fun w6 hw6 => ?_)
  replace h := h w6 hw6
  refine z_aload_n 0 dX4_next_33 rfl rfl ?_
  refine z_getR (r := 140) zfRX4_12 dX4_next_34 hh0.1 rfl ?_
  refine z_aload_n 0 dX4_next_37 rfl rfl ?_
  refine z_getI (ki := 4) zfRX4_35 dX4_next_38 hh0.1 rfl rfl ?_
  obtain ⟨q7, h⟩ := h
  refine z_callV (As := [z_i (w6 139 4)]) (rest := []) zmX6_byteAt znX6_byteAt zsX6_byteAt (show z_Cl[6]? = some (RX6, TX6, 2) from rfl) zlRX4_79 ⟨Nat.le_of_ble_eq_true rfl, Nat.le_of_ble_eq_true rfl⟩ dX4_next_41 hh0.2.1.1 rfl rfl (z_ai z_a0) (Nat.le_of_ble_eq_true rfl) (Nat.le_of_ble_eq_true rfl) ⟨rfl, rfl⟩ ?_
  refine t_X6_byteAt hh0.2.1 q7 ?_
  show z_Sem mX4_next (sh.length, 0) 44 [(0, z_r 139)] [z_i (f_X6_byteAt w6 (w6 139 4))] (sh, w6) Q
  refine z_nam (fun y8 hy8 => ?_)
  replace h := h y8 hy8
  refine z_istore_n (L' := [(1, z_i y8), (0, z_r 139)]) dX4_next_44 rfl (by decide) rfl ?_
  refine z_iload_n 0 dX4_next_45 rfl rfl ?_
  refine z_iconst dX4_next_46 (by decide) ?_
  refine z_icmp_ne (tgt := 63) dX4_next_47 (by decide) (fun c9 => ?_) (fun c9 => ?_)
  · replace h := h.2 c9
    refine z_iload_n 0 dX4_next_63 rfl rfl ?_
    refine z_callS (As := [z_i y8]) (rest := []) zmX6_isLetter ztX6_isLetter zlRX4_82 ⟨Nat.le_of_ble_eq_true rfl, Nat.le_of_ble_eq_true rfl⟩ dX4_next_64 rfl rfl (z_ai z_a0) (Nat.le_of_ble_eq_true rfl) (Nat.le_of_ble_eq_true rfl) ⟨rfl, rfl⟩ ?_
    refine t_X6_isLetter  ?_
    show z_Sem mX4_next (sh.length, 0) 67 [(1, z_i y8), (0, z_r 139)] [z_i (f_X6_isLetter w6 y8)] (sh, w6) Q
    refine z_if_eq (tgt := 105) dX4_next_67 (by decide) (fun c10 => ?_) (fun c10 => ?_)
    · replace h := h.1 c10
      refine z_iload_n 0 dX4_next_105 rfl rfl ?_
      refine z_callS (As := [z_i y8]) (rest := []) zmX6_isDigit ztX6_isDigit zlRX4_89 ⟨Nat.le_of_ble_eq_true rfl, Nat.le_of_ble_eq_true rfl⟩ dX4_next_106 rfl rfl (z_ai z_a0) (Nat.le_of_ble_eq_true rfl) (Nat.le_of_ble_eq_true rfl) ⟨rfl, rfl⟩ ?_
      refine t_X6_isDigit  ?_
      show z_Sem mX4_next (sh.length, 0) 109 [(1, z_i y8), (0, z_r 139)] [z_i (f_X6_isDigit w6 y8)] (sh, w6) Q
      refine z_if_eq (tgt := 147) dX4_next_109 (by decide) (fun c11 => ?_) (fun c11 => ?_)
      · replace h := h.1 c11
        refine z_aload_n 1 dX4_next_147 rfl rfl ?_
        refine z_iconst dX4_next_148 (by decide) ?_
        refine z_putI (ki := 5) zfRX4_39 dX4_next_149 hh0.1 rfl rfl ?_
        refine z_genw (fun w12 hw12 => ?_)
        replace h := h w12 hw12
        refine z_aload_n 1 dX4_next_152 rfl rfl ?_
        refine z_iload_n 0 dX4_next_153 rfl rfl ?_
        refine z_bipush dX4_next_154 (by decide) (by decide) ?_
        suffices hJ13 : z_Sem mX4_next (sh.length, 0) 164 [] [z_i (if y8 = 59 then 4 else 1), z_r 139] (sh, w12) Q by
          refine z_icmp_ne (tgt := 163) dX4_next_156 (by decide) (fun c14 => ?_) (fun c14 => ?_)
          · skip
            refine z_iconst dX4_next_163 (by decide) ?_
            refine z_sub (L' := []) [] rfl ?_
            simp only [if_neg c14] at hJ13
            exact hJ13
          · skip
            refine z_iconst dX4_next_159 (by decide) ?_
            refine z_goto (tgt := 164) dX4_next_160 (by decide) ?_
            refine z_sub (L' := []) [] rfl ?_
            simp only [if_pos c14] at hJ13
            exact hJ13
        refine z_putI (ki := 3) zfRX4_72 dX4_next_164 hh0.1 rfl rfl ?_
        refine z_genw (fun w17 hw17 => ?_)
        replace h := h w17 hw17
        exact z_ret (v := none) dX4_next_167 ⟨rfl, rfl⟩ rfl h
      · replace h := h.2 c11
        refine z_aload_n 1 dX4_next_112 rfl rfl ?_
        refine z_aload_n 1 dX4_next_113 rfl rfl ?_
        refine z_getR (r := 140) zfRX4_12 dX4_next_114 hh0.1 rfl ?_
        refine z_aload_n 1 dX4_next_117 rfl rfl ?_
        refine z_getI (ki := 4) zfRX4_35 dX4_next_118 hh0.1 rfl rfl ?_
        refine z_callV (As := [z_i (w6 139 4)]) (rest := [z_r 139]) zmX6_countDigits znX6_countDigits zsX6_countDigits (show z_Cl[6]? = some (RX6, TX6, 2) from rfl) zlRX4_92 ⟨Nat.le_of_ble_eq_true rfl, Nat.le_of_ble_eq_true rfl⟩ dX4_next_121 hh0.2.1.1 rfl rfl (z_ai z_a0) (Nat.le_of_ble_eq_true rfl) (Nat.le_of_ble_eq_true rfl) ⟨rfl, rfl⟩ (z_CIm h ?_)
        intro y19 w18 h
        show z_Sem mX4_next (sh.length, 0) 124 [(1, z_i y8), (0, z_r 139)] [z_i y19, z_r 139] (sh, w18) Q
        refine z_putI (ki := 5) zfRX4_39 dX4_next_124 hh0.1 rfl rfl ?_
        refine z_genw (fun w20 hw20 => ?_)
        replace h := h w20 hw20
        refine z_aload_n 1 dX4_next_127 rfl rfl ?_
        refine z_aload_n 1 dX4_next_128 rfl rfl ?_
        refine z_getI (ki := 5) zfRX4_39 dX4_next_129 hh0.1 rfl rfl ?_
        refine z_iconst dX4_next_132 (by decide) ?_
        suffices hJ21 : z_Sem mX4_next (sh.length, 0) 141 [] [z_i (if 3 < (w20 139 5) then 1 else 3), z_r 139] (sh, w20) Q by
          refine z_icmp_gt (tgt := 140) dX4_next_133 (by decide) (fun c22 => ?_) (fun c22 => ?_)
          · skip
            refine z_iconst dX4_next_140 (by decide) ?_
            refine z_sub (L' := []) [] rfl ?_
            simp only [if_pos c22] at hJ21
            exact hJ21
          · skip
            refine z_iconst dX4_next_136 (by decide) ?_
            refine z_goto (tgt := 141) dX4_next_137 (by decide) ?_
            refine z_sub (L' := []) [] rfl ?_
            simp only [if_neg c22] at hJ21
            exact hJ21
        refine z_putI (ki := 3) zfRX4_72 dX4_next_141 hh0.1 rfl rfl ?_
        refine z_genw (fun w25 hw25 => ?_)
        replace h := h w25 hw25
        refine z_goto (tgt := 167) dX4_next_144 (by decide) ?_
        exact z_ret (v := none) dX4_next_167 ⟨rfl, rfl⟩ rfl h
    · replace h := h.2 c10
      refine z_aload_n 1 dX4_next_70 rfl rfl ?_
      refine z_aload_n 1 dX4_next_71 rfl rfl ?_
      refine z_getR (r := 140) zfRX4_12 dX4_next_72 hh0.1 rfl ?_
      refine z_aload_n 1 dX4_next_75 rfl rfl ?_
      refine z_getI (ki := 4) zfRX4_35 dX4_next_76 hh0.1 rfl rfl ?_
      refine z_callV (As := [z_i (w6 139 4)]) (rest := [z_r 139]) zmX6_countLetters znX6_countLetters zsX6_countLetters (show z_Cl[6]? = some (RX6, TX6, 2) from rfl) zlRX4_86 ⟨Nat.le_of_ble_eq_true rfl, Nat.le_of_ble_eq_true rfl⟩ dX4_next_79 hh0.2.1.1 rfl rfl (z_ai z_a0) (Nat.le_of_ble_eq_true rfl) (Nat.le_of_ble_eq_true rfl) ⟨rfl, rfl⟩ (z_CIm h ?_)
      intro y27 w26 h
      show z_Sem mX4_next (sh.length, 0) 82 [(1, z_i y8), (0, z_r 139)] [z_i y27, z_r 139] (sh, w26) Q
      refine z_putI (ki := 5) zfRX4_39 dX4_next_82 hh0.1 rfl rfl ?_
      refine z_genw (fun w28 hw28 => ?_)
      replace h := h w28 hw28
      refine z_aload_n 1 dX4_next_85 rfl rfl ?_
      refine z_aload_n 1 dX4_next_86 rfl rfl ?_
      refine z_getI (ki := 5) zfRX4_39 dX4_next_87 hh0.1 rfl rfl ?_
      refine z_iconst dX4_next_90 (by decide) ?_
      suffices hJ29 : z_Sem mX4_next (sh.length, 0) 99 [] [z_i (if 5 < (w28 139 5) then 1 else 2), z_r 139] (sh, w28) Q by
        refine z_icmp_gt (tgt := 98) dX4_next_91 (by decide) (fun c30 => ?_) (fun c30 => ?_)
        · skip
          refine z_iconst dX4_next_98 (by decide) ?_
          refine z_sub (L' := []) [] rfl ?_
          simp only [if_pos c30] at hJ29
          exact hJ29
        · skip
          refine z_iconst dX4_next_94 (by decide) ?_
          refine z_goto (tgt := 99) dX4_next_95 (by decide) ?_
          refine z_sub (L' := []) [] rfl ?_
          simp only [if_neg c30] at hJ29
          exact hJ29
      refine z_putI (ki := 3) zfRX4_72 dX4_next_99 hh0.1 rfl rfl ?_
      refine z_genw (fun w33 hw33 => ?_)
      replace h := h w33 hw33
      refine z_goto (tgt := 167) dX4_next_102 (by decide) ?_
      exact z_ret (v := none) dX4_next_167 ⟨rfl, rfl⟩ rfl h
  · replace h := h.1 c9
    refine z_aload_n 1 dX4_next_50 rfl rfl ?_
    refine z_iconst dX4_next_51 (by decide) ?_
    refine z_putI (ki := 3) zfRX4_72 dX4_next_52 hh0.1 rfl rfl ?_
    refine z_genw (fun w34 hw34 => ?_)
    replace h := h w34 hw34
    refine z_aload_n 1 dX4_next_55 rfl rfl ?_
    refine z_iconst dX4_next_56 (by decide) ?_
    refine z_putI (ki := 5) zfRX4_39 dX4_next_57 hh0.1 rfl rfl ?_
    refine z_genw (fun w35 hw35 => ?_)
    replace h := h w35 hw35
    refine z_goto (tgt := 167) dX4_next_60 (by decide) ?_
    exact z_ret (v := none) dX4_next_167 ⟨rfl, rfl⟩ rfl h
set_option maxRecDepth 100000 in
theorem t_X6_spells {sh : List z_C} {w : Nat → Int → Int} {Q : Option z_V → z_S → Prop} {x1 : Int} {x2 : Int} {s3 : Nat} (hh0 : z_isTap sh 140) (hs3 : s3 < 35) (h : ((x2 = (f_J0_length_8abf5 w s3) → z_Sem mX6_spells (sh.length, 0) 13 [(0, z_r 140), (1, z_i x1), (2, z_i x2), (3, z_r (1001 + s3)), (4, z_i 0)] [] (sh, w) Q) ∧ (¬ x2 = (f_J0_length_8abf5 w s3) → Q (some (z_i 0)) (sh, w)))) : z_Sem mX6_spells (sh.length, 0) 0 [(0, z_r 140), (1, z_i x1), (2, z_i x2), (3, z_r (1001 + s3))] [] (sh, w) Q := by
  refine z_iload_n 2 dX6_spells_0 rfl rfl ?_
  refine z_aload_n 3 dX6_spells_1 rfl rfl ?_
  refine z_callVS (i := s3) (As := []) (rest := [z_i x2]) hs3 zmJ0_length_8abf5 znJ0_length_8abf5 zsJ0_length_8abf5 zlRX6_47 ⟨Nat.le_of_ble_eq_true rfl, Nat.le_of_ble_eq_true rfl⟩ dX6_spells_2 rfl rfl z_a0 (Nat.le_of_ble_eq_true rfl) (Nat.le_of_ble_eq_true rfl) ⟨rfl, rfl⟩ ?_
  refine t_J0_length_8abf5 hs3 ?_
  show z_Sem mX6_spells (sh.length, 0) 5 [(0, z_r 140), (1, z_i x1), (2, z_i x2), (3, z_r (1001 + s3))] [z_i (f_J0_length_8abf5 w s3), z_i x2] (sh, w) Q
  refine z_icmp_eq (tgt := 10) dX6_spells_5 (by decide) (fun c1 => ?_) (fun c1 => ?_)
  · replace h := h.1 c1
    refine z_iconst dX6_spells_10 (by decide) ?_
    refine z_istore (L' := [(4, z_i 0), (0, z_r 140), (1, z_i x1), (2, z_i x2), (3, z_r (1001 + s3))]) dX6_spells_11 (by decide) rfl ?_
    refine z_sub (L' := [(0, z_r 140), (1, z_i x1), (2, z_i x2), (3, z_r (1001 + s3)), (4, z_i 0)]) [1, 2, 3, 4, 0] rfl ?_
    exact h
  · replace h := h.2 c1
    refine z_iconst dX6_spells_8 (by decide) ?_
    exact z_ret (v := some (z_i 0)) dX6_spells_9 ⟨rfl, Or.inr (Or.inl ⟨rfl, (by decide)⟩)⟩ rfl h
set_option maxRecDepth 100000 in
theorem t_X6_spells_13 {sh : List z_C} {w : Nat → Int → Int} {Q : Option z_V → z_S → Prop} {s3 : Nat} {x1 : Int} {x2 : Int} {x4 : Int} (hh0 : z_isTap sh 140) (hs3 : s3 < 35) (h : ((x2 ≤ x4 → Q (some (z_i 1)) (sh, w)) ∧ (¬ x2 ≤ x4 → (((f_J0_length_8abf5 w s3) ≤ x4 → Q (some (z_i 1)) (sh, w)) ∧ (¬ (f_J0_length_8abf5 w s3) ≤ x4 → (z_R (x1 + x4)) ∧ (s_X6_byteAt w (x1 + x4)) ∧ (s_J0_charAt_5068e w s3 x4) ∧ (((f_X6_byteAt w (x1 + x4)) = (f_J0_charAt_5068e w s3 x4) → (z_R (x4 + 1)) ∧ z_Sem mX6_spells (sh.length, 0) 13 [(0, z_r 140), (1, z_i x1), (2, z_i x2), (3, z_r (1001 + s3)), (4, z_i (x4 + 1))] [] (sh, w) Q) ∧ (¬ (f_X6_byteAt w (x1 + x4)) = (f_J0_charAt_5068e w s3 x4) → Q (some (z_i 0)) (sh, w)))))))) : z_Sem mX6_spells (sh.length, 0) 13 [(0, z_r 140), (1, z_i x1), (2, z_i x2), (3, z_r (1001 + s3)), (4, z_i x4)] [] (sh, w) Q := by
  refine z_iload 4 dX6_spells_13 rfl ?_
  refine z_iload_n 2 dX6_spells_15 rfl rfl ?_
  refine z_icmp_ge (tgt := 53) dX6_spells_16 (by decide) (fun c1 => ?_) (fun c1 => ?_)
  · replace h := h.1 c1
    refine z_iconst dX6_spells_53 (by decide) ?_
    exact z_ret (v := some (z_i 1)) dX6_spells_54 ⟨rfl, Or.inr (Or.inl ⟨rfl, (by decide)⟩)⟩ rfl h
  · replace h := h.2 c1
    refine z_iload 4 dX6_spells_19 rfl ?_
    refine z_aload_n 3 dX6_spells_21 rfl rfl ?_
    refine z_callVS (i := s3) (As := []) (rest := [z_i x4]) hs3 zmJ0_length_8abf5 znJ0_length_8abf5 zsJ0_length_8abf5 zlRX6_47 ⟨Nat.le_of_ble_eq_true rfl, Nat.le_of_ble_eq_true rfl⟩ dX6_spells_22 rfl rfl z_a0 (Nat.le_of_ble_eq_true rfl) (Nat.le_of_ble_eq_true rfl) ⟨rfl, rfl⟩ ?_
    refine t_J0_length_8abf5 hs3 ?_
    show z_Sem mX6_spells (sh.length, 0) 25 [(0, z_r 140), (1, z_i x1), (2, z_i x2), (3, z_r (1001 + s3)), (4, z_i x4)] [z_i (f_J0_length_8abf5 w s3), z_i x4] (sh, w) Q
    refine z_icmp_ge (tgt := 53) dX6_spells_25 (by decide) (fun c2 => ?_) (fun c2 => ?_)
    · replace h := h.1 c2
      refine z_iconst dX6_spells_53 (by decide) ?_
      exact z_ret (v := some (z_i 1)) dX6_spells_54 ⟨rfl, Or.inr (Or.inl ⟨rfl, (by decide)⟩)⟩ rfl h
    · replace h := h.2 c2
      refine z_aload_n 0 dX6_spells_28 rfl rfl ?_
      refine z_iload_n 1 dX6_spells_29 rfl rfl ?_
      refine z_iload 4 dX6_spells_30 rfl ?_
      obtain ⟨q3, h⟩ := h
      refine z_iadd dX6_spells_32 q3 ?_
      obtain ⟨q4, h⟩ := h
      refine z_callV (As := [z_i (x1 + x4)]) (rest := []) zmX6_byteAt znX6_byteAt zsX6_byteAt (show z_Cl[6]? = some (RX6, TX6, 2) from rfl) zlRX6_52 ⟨Nat.le_of_ble_eq_true rfl, Nat.le_of_ble_eq_true rfl⟩ dX6_spells_33 hh0.1 rfl rfl (z_ai z_a0) (Nat.le_of_ble_eq_true rfl) (Nat.le_of_ble_eq_true rfl) ⟨rfl, rfl⟩ ?_
      refine t_X6_byteAt hh0 q4 ?_
      show z_Sem mX6_spells (sh.length, 0) 36 [(0, z_r 140), (1, z_i x1), (2, z_i x2), (3, z_r (1001 + s3)), (4, z_i x4)] [z_i (f_X6_byteAt w (x1 + x4))] (sh, w) Q
      refine z_aload_n 3 dX6_spells_36 rfl rfl ?_
      refine z_iload 4 dX6_spells_37 rfl ?_
      obtain ⟨q5, h⟩ := h
      refine z_callVS (i := s3) (As := [z_i x4]) (rest := [z_i (f_X6_byteAt w (x1 + x4))]) hs3 zmJ0_charAt_5068e znJ0_charAt_5068e zsJ0_charAt_5068e zlRX6_55 ⟨Nat.le_of_ble_eq_true rfl, Nat.le_of_ble_eq_true rfl⟩ dX6_spells_39 rfl rfl (z_ai z_a0) (Nat.le_of_ble_eq_true rfl) (Nat.le_of_ble_eq_true rfl) ⟨rfl, rfl⟩ ?_
      refine t_J0_charAt_5068e hs3 q5 ?_
      show z_Sem mX6_spells (sh.length, 0) 42 [(0, z_r 140), (1, z_i x1), (2, z_i x2), (3, z_r (1001 + s3)), (4, z_i x4)] [z_i (f_J0_charAt_5068e w s3 x4), z_i (f_X6_byteAt w (x1 + x4))] (sh, w) Q
      refine z_icmp_eq (tgt := 47) dX6_spells_42 (by decide) (fun c6 => ?_) (fun c6 => ?_)
      · replace h := h.1 c6
        obtain ⟨q7, h⟩ := h
        refine z_iinc (L' := [(4, z_i (x4 + 1)), (0, z_r 140), (1, z_i x1), (2, z_i x2), (3, z_r (1001 + s3))]) 4 dX6_spells_47 rfl (by decide) rfl q7 ?_
        refine z_goto (tgt := 13) dX6_spells_50 (by decide) ?_
        refine z_sub (L' := [(0, z_r 140), (1, z_i x1), (2, z_i x2), (3, z_r (1001 + s3)), (4, z_i (x4 + 1))]) [1, 2, 3, 4, 0] rfl ?_
        exact h
      · replace h := h.2 c6
        refine z_iconst dX6_spells_45 (by decide) ?_
        exact z_ret (v := some (z_i 0)) dX6_spells_46 ⟨rfl, Or.inr (Or.inl ⟨rfl, (by decide)⟩)⟩ rfl h
set_option maxRecDepth 100000 in
theorem t_X4_isHere {sh : List z_C} {w : Nat → Int → Int} {Q : Option z_V → z_S → Prop} {s1 : Nat} (hh0 : z_isRea sh 139) (hs1 : s1 < 35) (h : (((w 139 3) = 2 → z_CI mX6_spells [z_r 140, z_i (w 139 4), z_i (w 139 5), z_r (1001 + s1)] sh w (fun y3 w2 => Q (some (z_i (if y3 = 0 then 0 else 1))) (sh, w2))) ∧ (¬ (w 139 3) = 2 → Q (some (z_i 0)) (sh, w)))) : z_Sem mX4_isHere (sh.length, 0) 0 [(0, z_r 139), (1, z_r (1001 + s1))] [] (sh, w) Q := by
  refine z_aload_n 0 dX4_isHere_0 rfl rfl ?_
  refine z_getI (ki := 3) zfRX4_72 dX4_isHere_1 hh0.1 rfl rfl ?_
  refine z_iconst dX4_isHere_4 (by decide) ?_
  refine z_icmp_ne (tgt := 31) dX4_isHere_5 (by decide) (fun c1 => ?_) (fun c1 => ?_)
  · replace h := h.2 c1
    refine z_iconst dX4_isHere_31 (by decide) ?_
    exact z_ret (v := some (z_i 0)) dX4_isHere_32 ⟨rfl, Or.inr (Or.inl ⟨rfl, (by decide)⟩)⟩ rfl h
  · replace h := h.1 c1
    refine z_aload_n 0 dX4_isHere_8 rfl rfl ?_
    refine z_getR (r := 140) zfRX4_12 dX4_isHere_9 hh0.1 rfl ?_
    refine z_aload_n 0 dX4_isHere_12 rfl rfl ?_
    refine z_getI (ki := 4) zfRX4_35 dX4_isHere_13 hh0.1 rfl rfl ?_
    refine z_aload_n 0 dX4_isHere_16 rfl rfl ?_
    refine z_getI (ki := 5) zfRX4_39 dX4_isHere_17 hh0.1 rfl rfl ?_
    refine z_aload_n 1 dX4_isHere_20 rfl rfl ?_
    refine z_callV (As := [z_i (w 139 4), z_i (w 139 5), z_r (1001 + s1)]) (rest := []) zmX6_spells znX6_spells zsX6_spells (show z_Cl[6]? = some (RX6, TX6, 2) from rfl) zlRX4_95 ⟨Nat.le_of_ble_eq_true rfl, Nat.le_of_ble_eq_true rfl⟩ dX4_isHere_21 hh0.2.1.1 rfl rfl (z_ai (z_ai (z_ar z_a0))) (Nat.le_of_ble_eq_true rfl) (Nat.le_of_ble_eq_true rfl) ⟨rfl, rfl⟩ (z_CIm h ?_)
    intro y3 w2 h
    show z_Sem mX4_isHere (sh.length, 0) 24 [(0, z_r 139), (1, z_r (1001 + s1))] [z_i y3] (sh, w2) Q
    suffices hJ4 : z_Sem mX4_isHere (sh.length, 0) 32 [] [z_i (if y3 = 0 then 0 else 1)] (sh, w2) Q by
      refine z_if_eq (tgt := 31) dX4_isHere_24 (by decide) (fun c5 => ?_) (fun c5 => ?_)
      · skip
        refine z_iconst dX4_isHere_31 (by decide) ?_
        refine z_sub (L' := []) [] rfl ?_
        simp only [if_pos c5] at hJ4
        exact hJ4
      · skip
        refine z_iconst dX4_isHere_27 (by decide) ?_
        refine z_goto (tgt := 32) dX4_isHere_28 (by decide) ?_
        refine z_sub (L' := []) [] rfl ?_
        simp only [if_neg c5] at hJ4
        exact hJ4
    exact z_ret (v := some (z_i (if y3 = 0 then 0 else 1))) dX4_isHere_32 ⟨rfl, Or.inr (Or.inl ⟨rfl, (z_it01 (by decide) (by decide))⟩)⟩ rfl h
set_option maxRecDepth 100000 in
theorem t_X4_takeWord {sh : List z_C} {w : Nat → Int → Int} {Q : Option z_V → z_S → Prop} {s1 : Nat} (hh0 : z_isRea sh 139) (hs1 : s1 < 35) (h : z_CI mX4_isHere [z_r 139, z_r (1001 + s1)] sh w (fun y2 w1 => ((y2 = 0 → ((0 : Int) ≤ y2 ∧ y2 ≤ 1) ∧ Q (some (z_i y2)) (sh, w1)) ∧ (¬ y2 = 0 → z_CV mX4_next [z_r 139] sh w1 (fun w5 => ((0 : Int) ≤ y2 ∧ y2 ≤ 1) ∧ Q (some (z_i y2)) (sh, w5)))))) : z_Sem mX4_takeWord (sh.length, 0) 0 [(0, z_r 139), (1, z_r (1001 + s1))] [] (sh, w) Q := by
  refine z_aload_n 0 dX4_takeWord_0 rfl rfl ?_
  refine z_aload_n 1 dX4_takeWord_1 rfl rfl ?_
  refine z_callV (As := [z_r (1001 + s1)]) (rest := []) zmX4_isHere znX4_isHere zsX4_isHere (show z_Cl[4]? = some (RX4, TX4, 6) from rfl) zlRX4_51 ⟨Nat.le_of_ble_eq_true rfl, Nat.le_of_ble_eq_true rfl⟩ dX4_takeWord_2 hh0.1 rfl rfl (z_ar z_a0) (Nat.le_of_ble_eq_true rfl) (Nat.le_of_ble_eq_true rfl) ⟨rfl, rfl⟩ (z_CIm h ?_)
  intro y2 w1 h
  show z_Sem mX4_takeWord (sh.length, 0) 5 [(0, z_r 139), (1, z_r (1001 + s1))] [z_i y2] (sh, w1) Q
  refine z_istore_n (L' := [(2, z_i y2), (0, z_r 139), (1, z_r (1001 + s1))]) dX4_takeWord_5 rfl (by decide) rfl ?_
  refine z_iload_n 0 dX4_takeWord_6 rfl rfl ?_
  refine z_if_eq (tgt := 14) dX4_takeWord_7 (by decide) (fun c3 => ?_) (fun c3 => ?_)
  · replace h := h.1 c3
    refine z_iload_n 0 dX4_takeWord_14 rfl rfl ?_
    obtain ⟨q4, h⟩ := h
    exact z_ret (v := some (z_i y2)) dX4_takeWord_15 ⟨rfl, Or.inr (Or.inl ⟨rfl, q4⟩)⟩ rfl h
  · replace h := h.2 c3
    refine z_aload_n 1 dX4_takeWord_10 rfl rfl ?_
    refine z_callV (As := []) (rest := []) zmX4_next znX4_next zsX4_next (show z_Cl[4]? = some (RX4, TX4, 6) from rfl) zlRX4_42 ⟨Nat.le_of_ble_eq_true rfl, Nat.le_of_ble_eq_true rfl⟩ dX4_takeWord_11 hh0.1 rfl rfl z_a0 (Nat.le_of_ble_eq_true rfl) (Nat.le_of_ble_eq_true rfl) ⟨rfl, rfl⟩ (z_CVm h ?_)
    intro w5 h
    show z_Sem mX4_takeWord (sh.length, 0) 14 [(2, z_i y2), (0, z_r 139), (1, z_r (1001 + s1))] [] (sh, w5) Q
    refine z_iload_n 0 dX4_takeWord_14 rfl rfl ?_
    obtain ⟨q6, h⟩ := h
    exact z_ret (v := some (z_i y2)) dX4_takeWord_15 ⟨rfl, Or.inr (Or.inl ⟨rfl, q6⟩)⟩ rfl h
set_option maxRecDepth 100000 in
theorem t_X4_numberHere {sh : List z_C} {w : Nat → Int → Int} {Q : Option z_V → z_S → Prop}  (hh0 : z_isRea sh 139) (h : (((w 139 3) = 3 → z_Sem mX4_numberHere (sh.length, 0) 14 [(0, z_r 139), (1, z_i 0), (2, z_i 0)] [] (sh, w) Q) ∧ (¬ (w 139 3) = 3 → Q (some (z_i (-1))) (sh, w)))) : z_Sem mX4_numberHere (sh.length, 0) 0 [(0, z_r 139)] [] (sh, w) Q := by
  refine z_aload_n 0 dX4_numberHere_0 rfl rfl ?_
  refine z_getI (ki := 3) zfRX4_72 dX4_numberHere_1 hh0.1 rfl rfl ?_
  refine z_iconst dX4_numberHere_4 (by decide) ?_
  refine z_icmp_eq (tgt := 10) dX4_numberHere_5 (by decide) (fun c1 => ?_) (fun c1 => ?_)
  · replace h := h.1 c1
    refine z_iconst dX4_numberHere_10 (by decide) ?_
    refine z_istore_n (L' := [(1, z_i 0), (0, z_r 139)]) dX4_numberHere_11 rfl (by decide) rfl ?_
    refine z_iconst dX4_numberHere_12 (by decide) ?_
    refine z_istore_n (L' := [(2, z_i 0), (1, z_i 0), (0, z_r 139)]) dX4_numberHere_13 rfl (by decide) rfl ?_
    refine z_sub (L' := [(0, z_r 139), (1, z_i 0), (2, z_i 0)]) [2, 1, 0] rfl ?_
    exact h
  · replace h := h.2 c1
    refine z_iconst dX4_numberHere_8 (by decide) ?_
    exact z_ret (v := some (z_i (-1))) dX4_numberHere_9 ⟨rfl, Or.inl rfl⟩ rfl h
set_option maxRecDepth 100000 in
theorem t_X4_numberHere_14 {sh : List z_C} {w : Nat → Int → Int} {Q : Option z_V → z_S → Prop} {x1 : Int} {x2 : Int} (hh0 : z_isRea sh 139) (h : (((w 139 5) ≤ x2 → Q (some (z_i x1)) (sh, w)) ∧ (¬ (w 139 5) ≤ x2 → (z_R (x1 * 10)) ∧ (z_R ((w 139 4) + x2)) ∧ (s_X6_byteAt w ((w 139 4) + x2)) ∧ (z_R ((x1 * 10) + (f_X6_byteAt w ((w 139 4) + x2)))) ∧ (z_R (((x1 * 10) + (f_X6_byteAt w ((w 139 4) + x2))) - 48)) ∧ ∀ y7 : Int, y7 = (((x1 * 10) + (f_X6_byteAt w ((w 139 4) + x2))) - 48) → (z_R (x2 + 1)) ∧ z_Sem mX4_numberHere (sh.length, 0) 14 [(0, z_r 139), (1, z_i y7), (2, z_i (x2 + 1))] [] (sh, w) Q))) : z_Sem mX4_numberHere (sh.length, 0) 14 [(0, z_r 139), (1, z_i x1), (2, z_i x2)] [] (sh, w) Q := by
  refine z_iload_n 2 dX4_numberHere_14 rfl rfl ?_
  refine z_aload_n 0 dX4_numberHere_15 rfl rfl ?_
  refine z_getI (ki := 5) zfRX4_39 dX4_numberHere_16 hh0.1 rfl rfl ?_
  refine z_icmp_ge (tgt := 50) dX4_numberHere_19 (by decide) (fun c1 => ?_) (fun c1 => ?_)
  · replace h := h.1 c1
    refine z_iload_n 1 dX4_numberHere_50 rfl rfl ?_
    exact z_ret (v := some (z_i x1)) dX4_numberHere_51 ⟨rfl, Or.inl rfl⟩ rfl h
  · replace h := h.2 c1
    refine z_iload_n 1 dX4_numberHere_22 rfl rfl ?_
    refine z_bipush dX4_numberHere_23 (by decide) (by decide) ?_
    obtain ⟨q2, h⟩ := h
    refine z_imul dX4_numberHere_25 q2 ?_
    refine z_aload_n 0 dX4_numberHere_26 rfl rfl ?_
    refine z_getR (r := 140) zfRX4_12 dX4_numberHere_27 hh0.1 rfl ?_
    refine z_aload_n 0 dX4_numberHere_30 rfl rfl ?_
    refine z_getI (ki := 4) zfRX4_35 dX4_numberHere_31 hh0.1 rfl rfl ?_
    refine z_iload_n 2 dX4_numberHere_34 rfl rfl ?_
    obtain ⟨q3, h⟩ := h
    refine z_iadd dX4_numberHere_35 q3 ?_
    obtain ⟨q4, h⟩ := h
    refine z_callV (As := [z_i ((w 139 4) + x2)]) (rest := [z_i (x1 * 10)]) zmX6_byteAt znX6_byteAt zsX6_byteAt (show z_Cl[6]? = some (RX6, TX6, 2) from rfl) zlRX4_79 ⟨Nat.le_of_ble_eq_true rfl, Nat.le_of_ble_eq_true rfl⟩ dX4_numberHere_36 hh0.2.1.1 rfl rfl (z_ai z_a0) (Nat.le_of_ble_eq_true rfl) (Nat.le_of_ble_eq_true rfl) ⟨rfl, rfl⟩ ?_
    refine t_X6_byteAt hh0.2.1 q4 ?_
    show z_Sem mX4_numberHere (sh.length, 0) 39 [(0, z_r 139), (1, z_i x1), (2, z_i x2)] [z_i (f_X6_byteAt w ((w 139 4) + x2)), z_i (x1 * 10)] (sh, w) Q
    obtain ⟨q5, h⟩ := h
    refine z_iadd dX4_numberHere_39 q5 ?_
    refine z_bipush dX4_numberHere_40 (by decide) (by decide) ?_
    obtain ⟨q6, h⟩ := h
    refine z_isub dX4_numberHere_42 q6 ?_
    refine z_nam (fun y7 hy7 => ?_)
    replace h := h y7 hy7
    refine z_istore_n (L' := [(1, z_i y7), (0, z_r 139), (2, z_i x2)]) dX4_numberHere_43 rfl (by decide) rfl ?_
    obtain ⟨q8, h⟩ := h
    refine z_iinc (L' := [(2, z_i (x2 + 1)), (1, z_i y7), (0, z_r 139)]) 2 dX4_numberHere_44 rfl (by decide) rfl q8 ?_
    refine z_goto (tgt := 14) dX4_numberHere_47 (by decide) ?_
    refine z_sub (L' := [(0, z_r 139), (1, z_i y7), (2, z_i (x2 + 1))]) [2, 1, 0] rfl ?_
    exact h
set_option maxRecDepth 100000 in
theorem t_X4_takeSemicolon {sh : List z_C} {w : Nat → Int → Int} {Q : Option z_V → z_S → Prop}  (hh0 : z_isRea sh 139) (h : ∀ y5 : Int, y5 = (if (w 139 3) = 4 then 1 else 0) → ((y5 = 0 → ((0 : Int) ≤ y5 ∧ y5 ≤ 1) ∧ Q (some (z_i y5)) (sh, w)) ∧ (¬ y5 = 0 → z_CV mX4_next [z_r 139] sh w (fun w8 => ((0 : Int) ≤ y5 ∧ y5 ≤ 1) ∧ Q (some (z_i y5)) (sh, w8))))) : z_Sem mX4_takeSemicolon (sh.length, 0) 0 [(0, z_r 139)] [] (sh, w) Q := by
  refine z_aload_n 0 dX4_takeSemicolon_0 rfl rfl ?_
  refine z_getI (ki := 3) zfRX4_72 dX4_takeSemicolon_1 hh0.1 rfl rfl ?_
  refine z_iconst dX4_takeSemicolon_4 (by decide) ?_
  suffices hJ1 : z_Sem mX4_takeSemicolon (sh.length, 0) 13 [(0, z_r 139)] [z_i (if (w 139 3) = 4 then 1 else 0)] (sh, w) Q by
    refine z_icmp_ne (tgt := 12) dX4_takeSemicolon_5 (by decide) (fun c2 => ?_) (fun c2 => ?_)
    · skip
      refine z_iconst dX4_takeSemicolon_12 (by decide) ?_
      simp only [if_neg c2] at hJ1
      exact hJ1
    · skip
      refine z_iconst dX4_takeSemicolon_8 (by decide) ?_
      refine z_goto (tgt := 13) dX4_takeSemicolon_9 (by decide) ?_
      simp only [if_pos c2] at hJ1
      exact hJ1
  refine z_nam (fun y5 hy5 => ?_)
  replace h := h y5 hy5
  refine z_istore_n (L' := [(1, z_i y5), (0, z_r 139)]) dX4_takeSemicolon_13 rfl (by decide) rfl ?_
  refine z_iload_n 0 dX4_takeSemicolon_14 rfl rfl ?_
  refine z_if_eq (tgt := 22) dX4_takeSemicolon_15 (by decide) (fun c6 => ?_) (fun c6 => ?_)
  · replace h := h.1 c6
    refine z_iload_n 0 dX4_takeSemicolon_22 rfl rfl ?_
    obtain ⟨q7, h⟩ := h
    exact z_ret (v := some (z_i y5)) dX4_takeSemicolon_23 ⟨rfl, Or.inr (Or.inl ⟨rfl, q7⟩)⟩ rfl h
  · replace h := h.2 c6
    refine z_aload_n 1 dX4_takeSemicolon_18 rfl rfl ?_
    refine z_callV (As := []) (rest := []) zmX4_next znX4_next zsX4_next (show z_Cl[4]? = some (RX4, TX4, 6) from rfl) zlRX4_42 ⟨Nat.le_of_ble_eq_true rfl, Nat.le_of_ble_eq_true rfl⟩ dX4_takeSemicolon_19 hh0.1 rfl rfl z_a0 (Nat.le_of_ble_eq_true rfl) (Nat.le_of_ble_eq_true rfl) ⟨rfl, rfl⟩ (z_CVm h ?_)
    intro w8 h
    show z_Sem mX4_takeSemicolon (sh.length, 0) 22 [(1, z_i y5), (0, z_r 139)] [] (sh, w8) Q
    refine z_iload_n 0 dX4_takeSemicolon_22 rfl rfl ?_
    obtain ⟨q9, h⟩ := h
    exact z_ret (v := some (z_i y5)) dX4_takeSemicolon_23 ⟨rfl, Or.inr (Or.inl ⟨rfl, q9⟩)⟩ rfl h
set_option maxRecDepth 100000 in
theorem t_X4_readEnd {sh : List z_C} {w : Nat → Int → Int} {Q : Option z_V → z_S → Prop}  (hh0 : z_isRea sh 139) (h : z_CI mX4_takeWord [z_r 139, z_r (1001 + 3)] sh w (fun y2 w1 => ((y2 = 0 → Q (some (z_i 0)) (sh, w1)) ∧ (¬ y2 = 0 → z_CI mX4_numberHere [z_r 139] sh w1 (fun y5 w4 => ((1 ≤ y5 → ∀ w7 : Nat → Int → Int, w7 = z_W w4 142 9 y5 → z_CV mX4_next [z_r 139] sh w7 (fun w8 => z_CI mX4_takeSemicolon [z_r 139] sh w8 (fun y10 w9 => ((0 : Int) ≤ y10 ∧ y10 ≤ 1) ∧ Q (some (z_i y10)) (sh, w9)))) ∧ (¬ 1 ≤ y5 → Q (some (z_i 0)) (sh, w4)))))))) : z_Sem mX4_readEnd (sh.length, 0) 0 [(0, z_r 139)] [] (sh, w) Q := by
  refine z_aload_n 0 dX4_readEnd_0 rfl rfl ?_
  refine z_ldcS (i := 3) rfl dX4_readEnd_1 ?_
  refine z_callV (As := [z_r (1001 + 3)]) (rest := []) zmX4_takeWord znX4_takeWord zsX4_takeWord (show z_Cl[4]? = some (RX4, TX4, 6) from rfl) zlRX4_109 ⟨Nat.le_of_ble_eq_true rfl, Nat.le_of_ble_eq_true rfl⟩ dX4_readEnd_3 hh0.1 rfl rfl (z_ar z_a0) (Nat.le_of_ble_eq_true rfl) (Nat.le_of_ble_eq_true rfl) ⟨rfl, rfl⟩ (z_CIm h ?_)
  intro y2 w1 h
  show z_Sem mX4_readEnd (sh.length, 0) 6 [(0, z_r 139)] [z_i y2] (sh, w1) Q
  refine z_if_ne (tgt := 11) dX4_readEnd_6 (by decide) (fun c3 => ?_) (fun c3 => ?_)
  · replace h := h.2 c3
    refine z_aload_n 0 dX4_readEnd_11 rfl rfl ?_
    refine z_callV (As := []) (rest := []) zmX4_numberHere znX4_numberHere zsX4_numberHere (show z_Cl[4]? = some (RX4, TX4, 6) from rfl) zlRX4_112 ⟨Nat.le_of_ble_eq_true rfl, Nat.le_of_ble_eq_true rfl⟩ dX4_readEnd_12 hh0.1 rfl rfl z_a0 (Nat.le_of_ble_eq_true rfl) (Nat.le_of_ble_eq_true rfl) ⟨rfl, rfl⟩ (z_CIm h ?_)
    intro y5 w4 h
    show z_Sem mX4_readEnd (sh.length, 0) 15 [(0, z_r 139)] [z_i y5] (sh, w4) Q
    refine z_istore_n (L' := [(1, z_i y5), (0, z_r 139)]) dX4_readEnd_15 rfl (by decide) rfl ?_
    refine z_iload_n 0 dX4_readEnd_16 rfl rfl ?_
    refine z_iconst dX4_readEnd_17 (by decide) ?_
    refine z_icmp_ge (tgt := 23) dX4_readEnd_18 (by decide) (fun c6 => ?_) (fun c6 => ?_)
    · replace h := h.1 c6
      refine z_aload_n 1 dX4_readEnd_23 rfl rfl ?_
      refine z_getR (r := 142) zfRX4_21 dX4_readEnd_24 hh0.1 rfl ?_
      refine z_iload_n 0 dX4_readEnd_27 rfl rfl ?_
      refine z_putI (ki := 9) zfRX4_116 dX4_readEnd_28 hh0.2.2.1.1 rfl rfl ?_
      refine z_genw (fun w7 hw7 => ?_)
      replace h := h w7 hw7
      refine z_aload_n 1 dX4_readEnd_31 rfl rfl ?_
      refine z_callV (As := []) (rest := []) zmX4_next znX4_next zsX4_next (show z_Cl[4]? = some (RX4, TX4, 6) from rfl) zlRX4_42 ⟨Nat.le_of_ble_eq_true rfl, Nat.le_of_ble_eq_true rfl⟩ dX4_readEnd_32 hh0.1 rfl rfl z_a0 (Nat.le_of_ble_eq_true rfl) (Nat.le_of_ble_eq_true rfl) ⟨rfl, rfl⟩ (z_CVm h ?_)
      intro w8 h
      show z_Sem mX4_readEnd (sh.length, 0) 35 [(1, z_i y5), (0, z_r 139)] [] (sh, w8) Q
      refine z_aload_n 1 dX4_readEnd_35 rfl rfl ?_
      refine z_callV (As := []) (rest := []) zmX4_takeSemicolon znX4_takeSemicolon zsX4_takeSemicolon (show z_Cl[4]? = some (RX4, TX4, 6) from rfl) zlRX4_119 ⟨Nat.le_of_ble_eq_true rfl, Nat.le_of_ble_eq_true rfl⟩ dX4_readEnd_36 hh0.1 rfl rfl z_a0 (Nat.le_of_ble_eq_true rfl) (Nat.le_of_ble_eq_true rfl) ⟨rfl, rfl⟩ (z_CIm h ?_)
      intro y10 w9 h
      show z_Sem mX4_readEnd (sh.length, 0) 39 [(1, z_i y5), (0, z_r 139)] [z_i y10] (sh, w9) Q
      obtain ⟨q11, h⟩ := h
      exact z_ret (v := some (z_i y10)) dX4_readEnd_39 ⟨rfl, Or.inr (Or.inl ⟨rfl, q11⟩)⟩ rfl h
    · replace h := h.2 c6
      refine z_iconst dX4_readEnd_21 (by decide) ?_
      exact z_ret (v := some (z_i 0)) dX4_readEnd_22 ⟨rfl, Or.inr (Or.inl ⟨rfl, (by decide)⟩)⟩ rfl h
  · replace h := h.1 c3
    refine z_iconst dX4_readEnd_9 (by decide) ?_
    exact z_ret (v := some (z_i 0)) dX4_readEnd_10 ⟨rfl, Or.inr (Or.inl ⟨rfl, (by decide)⟩)⟩ rfl h
set_option maxRecDepth 100000 in
theorem t_X6_isKeyword {sh : List z_C} {w : Nat → Int → Int} {Q : Option z_V → z_S → Prop} {x1 : Int} {x2 : Int} (hh0 : z_isTap sh 140) (h : z_CI mX6_spells [z_r 140, z_i x1, z_i x2, z_r (1001 + 8)] sh w (fun y2 w1 => ((y2 = 0 → z_CI mX6_spells [z_r 140, z_i x1, z_i x2, z_r (1001 + 9)] sh w1 (fun y5 w4 => ((y5 = 0 → z_CI mX6_spells [z_r 140, z_i x1, z_i x2, z_r (1001 + 10)] sh w4 (fun y8 w7 => ((y8 = 0 → z_CI mX6_spells [z_r 140, z_i x1, z_i x2, z_r (1001 + 11)] sh w7 (fun y11 w10 => ((y11 = 0 → z_CI mX6_spells [z_r 140, z_i x1, z_i x2, z_r (1001 + 12)] sh w10 (fun y14 w13 => ((y14 = 0 → z_CI mX6_spells [z_r 140, z_i x1, z_i x2, z_r (1001 + 13)] sh w13 (fun y17 w16 => ((y17 = 0 → z_CI mX6_spells [z_r 140, z_i x1, z_i x2, z_r (1001 + 14)] sh w16 (fun y20 w19 => ((y20 = 0 → z_CI mX6_spells [z_r 140, z_i x1, z_i x2, z_r (1001 + 15)] sh w19 (fun y23 w22 => Q (some (z_i (if y23 = 0 then 0 else 1))) (sh, w22))) ∧ (¬ y20 = 0 → Q (some (z_i 1)) (sh, w19))))) ∧ (¬ y17 = 0 → Q (some (z_i 1)) (sh, w16))))) ∧ (¬ y14 = 0 → Q (some (z_i 1)) (sh, w13))))) ∧ (¬ y11 = 0 → Q (some (z_i 1)) (sh, w10))))) ∧ (¬ y8 = 0 → Q (some (z_i 1)) (sh, w7))))) ∧ (¬ y5 = 0 → Q (some (z_i 1)) (sh, w4))))) ∧ (¬ y2 = 0 → Q (some (z_i 1)) (sh, w1))))) : z_Sem mX6_isKeyword (sh.length, 0) 0 [(0, z_r 140), (1, z_i x1), (2, z_i x2)] [] (sh, w) Q := by
  refine z_aload_n 0 dX6_isKeyword_0 rfl rfl ?_
  refine z_iload_n 1 dX6_isKeyword_1 rfl rfl ?_
  refine z_iload_n 2 dX6_isKeyword_2 rfl rfl ?_
  refine z_ldcS (i := 8) rfl dX6_isKeyword_3 ?_
  refine z_callV (As := [z_i x1, z_i x2, z_r (1001 + 8)]) (rest := []) zmX6_spells znX6_spells zsX6_spells (show z_Cl[6]? = some (RX6, TX6, 2) from rfl) zlRX6_29 ⟨Nat.le_of_ble_eq_true rfl, Nat.le_of_ble_eq_true rfl⟩ dX6_isKeyword_5 hh0.1 rfl rfl (z_ai (z_ai (z_ar z_a0))) (Nat.le_of_ble_eq_true rfl) (Nat.le_of_ble_eq_true rfl) ⟨rfl, rfl⟩ (z_CIm h ?_)
  intro y2 w1 h
  show z_Sem mX6_isKeyword (sh.length, 0) 8 [(0, z_r 140), (1, z_i x1), (2, z_i x2)] [z_i y2] (sh, w1) Q
  refine z_if_ne (tgt := 88) dX6_isKeyword_8 (by decide) (fun c3 => ?_) (fun c3 => ?_)
  · replace h := h.2 c3
    refine z_iconst dX6_isKeyword_88 (by decide) ?_
    refine z_goto (tgt := 93) dX6_isKeyword_89 (by decide) ?_
    exact z_ret (v := some (z_i 1)) dX6_isKeyword_93 ⟨rfl, Or.inr (Or.inl ⟨rfl, (by decide)⟩)⟩ rfl h
  · replace h := h.1 c3
    refine z_aload_n 0 dX6_isKeyword_11 rfl rfl ?_
    refine z_iload_n 1 dX6_isKeyword_12 rfl rfl ?_
    refine z_iload_n 2 dX6_isKeyword_13 rfl rfl ?_
    refine z_ldcS (i := 9) rfl dX6_isKeyword_14 ?_
    refine z_callV (As := [z_i x1, z_i x2, z_r (1001 + 9)]) (rest := []) zmX6_spells znX6_spells zsX6_spells (show z_Cl[6]? = some (RX6, TX6, 2) from rfl) zlRX6_29 ⟨Nat.le_of_ble_eq_true rfl, Nat.le_of_ble_eq_true rfl⟩ dX6_isKeyword_16 hh0.1 rfl rfl (z_ai (z_ai (z_ar z_a0))) (Nat.le_of_ble_eq_true rfl) (Nat.le_of_ble_eq_true rfl) ⟨rfl, rfl⟩ (z_CIm h ?_)
    intro y5 w4 h
    show z_Sem mX6_isKeyword (sh.length, 0) 19 [(0, z_r 140), (1, z_i x1), (2, z_i x2)] [z_i y5] (sh, w4) Q
    refine z_if_ne (tgt := 88) dX6_isKeyword_19 (by decide) (fun c6 => ?_) (fun c6 => ?_)
    · replace h := h.2 c6
      refine z_iconst dX6_isKeyword_88 (by decide) ?_
      refine z_goto (tgt := 93) dX6_isKeyword_89 (by decide) ?_
      exact z_ret (v := some (z_i 1)) dX6_isKeyword_93 ⟨rfl, Or.inr (Or.inl ⟨rfl, (by decide)⟩)⟩ rfl h
    · replace h := h.1 c6
      refine z_aload_n 0 dX6_isKeyword_22 rfl rfl ?_
      refine z_iload_n 1 dX6_isKeyword_23 rfl rfl ?_
      refine z_iload_n 2 dX6_isKeyword_24 rfl rfl ?_
      refine z_ldcS (i := 10) rfl dX6_isKeyword_25 ?_
      refine z_callV (As := [z_i x1, z_i x2, z_r (1001 + 10)]) (rest := []) zmX6_spells znX6_spells zsX6_spells (show z_Cl[6]? = some (RX6, TX6, 2) from rfl) zlRX6_29 ⟨Nat.le_of_ble_eq_true rfl, Nat.le_of_ble_eq_true rfl⟩ dX6_isKeyword_27 hh0.1 rfl rfl (z_ai (z_ai (z_ar z_a0))) (Nat.le_of_ble_eq_true rfl) (Nat.le_of_ble_eq_true rfl) ⟨rfl, rfl⟩ (z_CIm h ?_)
      intro y8 w7 h
      show z_Sem mX6_isKeyword (sh.length, 0) 30 [(0, z_r 140), (1, z_i x1), (2, z_i x2)] [z_i y8] (sh, w7) Q
      refine z_if_ne (tgt := 88) dX6_isKeyword_30 (by decide) (fun c9 => ?_) (fun c9 => ?_)
      · replace h := h.2 c9
        refine z_iconst dX6_isKeyword_88 (by decide) ?_
        refine z_goto (tgt := 93) dX6_isKeyword_89 (by decide) ?_
        exact z_ret (v := some (z_i 1)) dX6_isKeyword_93 ⟨rfl, Or.inr (Or.inl ⟨rfl, (by decide)⟩)⟩ rfl h
      · replace h := h.1 c9
        refine z_aload_n 0 dX6_isKeyword_33 rfl rfl ?_
        refine z_iload_n 1 dX6_isKeyword_34 rfl rfl ?_
        refine z_iload_n 2 dX6_isKeyword_35 rfl rfl ?_
        refine z_ldcS (i := 11) rfl dX6_isKeyword_36 ?_
        refine z_callV (As := [z_i x1, z_i x2, z_r (1001 + 11)]) (rest := []) zmX6_spells znX6_spells zsX6_spells (show z_Cl[6]? = some (RX6, TX6, 2) from rfl) zlRX6_29 ⟨Nat.le_of_ble_eq_true rfl, Nat.le_of_ble_eq_true rfl⟩ dX6_isKeyword_38 hh0.1 rfl rfl (z_ai (z_ai (z_ar z_a0))) (Nat.le_of_ble_eq_true rfl) (Nat.le_of_ble_eq_true rfl) ⟨rfl, rfl⟩ (z_CIm h ?_)
        intro y11 w10 h
        show z_Sem mX6_isKeyword (sh.length, 0) 41 [(0, z_r 140), (1, z_i x1), (2, z_i x2)] [z_i y11] (sh, w10) Q
        refine z_if_ne (tgt := 88) dX6_isKeyword_41 (by decide) (fun c12 => ?_) (fun c12 => ?_)
        · replace h := h.2 c12
          refine z_iconst dX6_isKeyword_88 (by decide) ?_
          refine z_goto (tgt := 93) dX6_isKeyword_89 (by decide) ?_
          exact z_ret (v := some (z_i 1)) dX6_isKeyword_93 ⟨rfl, Or.inr (Or.inl ⟨rfl, (by decide)⟩)⟩ rfl h
        · replace h := h.1 c12
          refine z_aload_n 0 dX6_isKeyword_44 rfl rfl ?_
          refine z_iload_n 1 dX6_isKeyword_45 rfl rfl ?_
          refine z_iload_n 2 dX6_isKeyword_46 rfl rfl ?_
          refine z_ldcS (i := 12) rfl dX6_isKeyword_47 ?_
          refine z_callV (As := [z_i x1, z_i x2, z_r (1001 + 12)]) (rest := []) zmX6_spells znX6_spells zsX6_spells (show z_Cl[6]? = some (RX6, TX6, 2) from rfl) zlRX6_29 ⟨Nat.le_of_ble_eq_true rfl, Nat.le_of_ble_eq_true rfl⟩ dX6_isKeyword_49 hh0.1 rfl rfl (z_ai (z_ai (z_ar z_a0))) (Nat.le_of_ble_eq_true rfl) (Nat.le_of_ble_eq_true rfl) ⟨rfl, rfl⟩ (z_CIm h ?_)
          intro y14 w13 h
          show z_Sem mX6_isKeyword (sh.length, 0) 52 [(0, z_r 140), (1, z_i x1), (2, z_i x2)] [z_i y14] (sh, w13) Q
          refine z_if_ne (tgt := 88) dX6_isKeyword_52 (by decide) (fun c15 => ?_) (fun c15 => ?_)
          · replace h := h.2 c15
            refine z_iconst dX6_isKeyword_88 (by decide) ?_
            refine z_goto (tgt := 93) dX6_isKeyword_89 (by decide) ?_
            exact z_ret (v := some (z_i 1)) dX6_isKeyword_93 ⟨rfl, Or.inr (Or.inl ⟨rfl, (by decide)⟩)⟩ rfl h
          · replace h := h.1 c15
            refine z_aload_n 0 dX6_isKeyword_55 rfl rfl ?_
            refine z_iload_n 1 dX6_isKeyword_56 rfl rfl ?_
            refine z_iload_n 2 dX6_isKeyword_57 rfl rfl ?_
            refine z_ldcS (i := 13) rfl dX6_isKeyword_58 ?_
            refine z_callV (As := [z_i x1, z_i x2, z_r (1001 + 13)]) (rest := []) zmX6_spells znX6_spells zsX6_spells (show z_Cl[6]? = some (RX6, TX6, 2) from rfl) zlRX6_29 ⟨Nat.le_of_ble_eq_true rfl, Nat.le_of_ble_eq_true rfl⟩ dX6_isKeyword_60 hh0.1 rfl rfl (z_ai (z_ai (z_ar z_a0))) (Nat.le_of_ble_eq_true rfl) (Nat.le_of_ble_eq_true rfl) ⟨rfl, rfl⟩ (z_CIm h ?_)
            intro y17 w16 h
            show z_Sem mX6_isKeyword (sh.length, 0) 63 [(0, z_r 140), (1, z_i x1), (2, z_i x2)] [z_i y17] (sh, w16) Q
            refine z_if_ne (tgt := 88) dX6_isKeyword_63 (by decide) (fun c18 => ?_) (fun c18 => ?_)
            · replace h := h.2 c18
              refine z_iconst dX6_isKeyword_88 (by decide) ?_
              refine z_goto (tgt := 93) dX6_isKeyword_89 (by decide) ?_
              exact z_ret (v := some (z_i 1)) dX6_isKeyword_93 ⟨rfl, Or.inr (Or.inl ⟨rfl, (by decide)⟩)⟩ rfl h
            · replace h := h.1 c18
              refine z_aload_n 0 dX6_isKeyword_66 rfl rfl ?_
              refine z_iload_n 1 dX6_isKeyword_67 rfl rfl ?_
              refine z_iload_n 2 dX6_isKeyword_68 rfl rfl ?_
              refine z_ldcS (i := 14) rfl dX6_isKeyword_69 ?_
              refine z_callV (As := [z_i x1, z_i x2, z_r (1001 + 14)]) (rest := []) zmX6_spells znX6_spells zsX6_spells (show z_Cl[6]? = some (RX6, TX6, 2) from rfl) zlRX6_29 ⟨Nat.le_of_ble_eq_true rfl, Nat.le_of_ble_eq_true rfl⟩ dX6_isKeyword_71 hh0.1 rfl rfl (z_ai (z_ai (z_ar z_a0))) (Nat.le_of_ble_eq_true rfl) (Nat.le_of_ble_eq_true rfl) ⟨rfl, rfl⟩ (z_CIm h ?_)
              intro y20 w19 h
              show z_Sem mX6_isKeyword (sh.length, 0) 74 [(0, z_r 140), (1, z_i x1), (2, z_i x2)] [z_i y20] (sh, w19) Q
              refine z_if_ne (tgt := 88) dX6_isKeyword_74 (by decide) (fun c21 => ?_) (fun c21 => ?_)
              · replace h := h.2 c21
                refine z_iconst dX6_isKeyword_88 (by decide) ?_
                refine z_goto (tgt := 93) dX6_isKeyword_89 (by decide) ?_
                exact z_ret (v := some (z_i 1)) dX6_isKeyword_93 ⟨rfl, Or.inr (Or.inl ⟨rfl, (by decide)⟩)⟩ rfl h
              · replace h := h.1 c21
                refine z_aload_n 0 dX6_isKeyword_77 rfl rfl ?_
                refine z_iload_n 1 dX6_isKeyword_78 rfl rfl ?_
                refine z_iload_n 2 dX6_isKeyword_79 rfl rfl ?_
                refine z_ldcS (i := 15) rfl dX6_isKeyword_80 ?_
                refine z_callV (As := [z_i x1, z_i x2, z_r (1001 + 15)]) (rest := []) zmX6_spells znX6_spells zsX6_spells (show z_Cl[6]? = some (RX6, TX6, 2) from rfl) zlRX6_29 ⟨Nat.le_of_ble_eq_true rfl, Nat.le_of_ble_eq_true rfl⟩ dX6_isKeyword_82 hh0.1 rfl rfl (z_ai (z_ai (z_ar z_a0))) (Nat.le_of_ble_eq_true rfl) (Nat.le_of_ble_eq_true rfl) ⟨rfl, rfl⟩ (z_CIm h ?_)
                intro y23 w22 h
                show z_Sem mX6_isKeyword (sh.length, 0) 85 [(0, z_r 140), (1, z_i x1), (2, z_i x2)] [z_i y23] (sh, w22) Q
                suffices hJ24 : z_Sem mX6_isKeyword (sh.length, 0) 93 [] [z_i (if y23 = 0 then 0 else 1)] (sh, w22) Q by
                  refine z_if_eq (tgt := 92) dX6_isKeyword_85 (by decide) (fun c25 => ?_) (fun c25 => ?_)
                  · skip
                    refine z_iconst dX6_isKeyword_92 (by decide) ?_
                    refine z_sub (L' := []) [] rfl ?_
                    simp only [if_pos c25] at hJ24
                    exact hJ24
                  · skip
                    refine z_iconst dX6_isKeyword_88 (by decide) ?_
                    refine z_goto (tgt := 93) dX6_isKeyword_89 (by decide) ?_
                    refine z_sub (L' := []) [] rfl ?_
                    simp only [if_neg c25] at hJ24
                    exact hJ24
                exact z_ret (v := some (z_i (if y23 = 0 then 0 else 1))) dX6_isKeyword_93 ⟨rfl, Or.inr (Or.inl ⟨rfl, (z_it01 (by decide) (by decide))⟩)⟩ rfl h
set_option maxRecDepth 100000 in
theorem t_X6_isName {sh : List z_C} {w : Nat → Int → Int} {Q : Option z_V → z_S → Prop} {x1 : Int} {x2 : Int} (hh0 : z_isTap sh 140) (h : ((x2 < 1 → Q (some (z_i 0)) (sh, w)) ∧ (¬ x2 < 1 → ((5 < x2 → Q (some (z_i 0)) (sh, w)) ∧ (¬ 5 < x2 → z_CI mX6_countLetters [z_r 140, z_i x1] sh w (fun y4 w3 => ((y4 < x2 → Q (some (z_i 0)) (sh, w3)) ∧ (¬ y4 < x2 → z_CI mX6_isKeyword [z_r 140, z_i x1, z_i x2] sh w3 (fun y7 w6 => Q (some (z_i (if y7 = 0 then 1 else 0))) (sh, w6)))))))))) : z_Sem mX6_isName (sh.length, 0) 0 [(0, z_r 140), (1, z_i x1), (2, z_i x2)] [] (sh, w) Q := by
  refine z_iload_n 2 dX6_isName_0 rfl rfl ?_
  refine z_iconst dX6_isName_1 (by decide) ?_
  refine z_icmp_lt (tgt := 32) dX6_isName_2 (by decide) (fun c1 => ?_) (fun c1 => ?_)
  · replace h := h.1 c1
    refine z_iconst dX6_isName_32 (by decide) ?_
    exact z_ret (v := some (z_i 0)) dX6_isName_33 ⟨rfl, Or.inr (Or.inl ⟨rfl, (by decide)⟩)⟩ rfl h
  · replace h := h.2 c1
    refine z_iload_n 2 dX6_isName_5 rfl rfl ?_
    refine z_iconst dX6_isName_6 (by decide) ?_
    refine z_icmp_gt (tgt := 32) dX6_isName_7 (by decide) (fun c2 => ?_) (fun c2 => ?_)
    · replace h := h.1 c2
      refine z_iconst dX6_isName_32 (by decide) ?_
      exact z_ret (v := some (z_i 0)) dX6_isName_33 ⟨rfl, Or.inr (Or.inl ⟨rfl, (by decide)⟩)⟩ rfl h
    · replace h := h.2 c2
      refine z_aload_n 0 dX6_isName_10 rfl rfl ?_
      refine z_iload_n 1 dX6_isName_11 rfl rfl ?_
      refine z_callV (As := [z_i x1]) (rest := []) zmX6_countLetters znX6_countLetters zsX6_countLetters (show z_Cl[6]? = some (RX6, TX6, 2) from rfl) zlRX6_19 ⟨Nat.le_of_ble_eq_true rfl, Nat.le_of_ble_eq_true rfl⟩ dX6_isName_12 hh0.1 rfl rfl (z_ai z_a0) (Nat.le_of_ble_eq_true rfl) (Nat.le_of_ble_eq_true rfl) ⟨rfl, rfl⟩ (z_CIm h ?_)
      intro y4 w3 h
      show z_Sem mX6_isName (sh.length, 0) 15 [(0, z_r 140), (1, z_i x1), (2, z_i x2)] [z_i y4] (sh, w3) Q
      refine z_iload_n 2 dX6_isName_15 rfl rfl ?_
      refine z_icmp_lt (tgt := 32) dX6_isName_16 (by decide) (fun c5 => ?_) (fun c5 => ?_)
      · replace h := h.1 c5
        refine z_iconst dX6_isName_32 (by decide) ?_
        exact z_ret (v := some (z_i 0)) dX6_isName_33 ⟨rfl, Or.inr (Or.inl ⟨rfl, (by decide)⟩)⟩ rfl h
      · replace h := h.2 c5
        refine z_aload_n 0 dX6_isName_19 rfl rfl ?_
        refine z_iload_n 1 dX6_isName_20 rfl rfl ?_
        refine z_iload_n 2 dX6_isName_21 rfl rfl ?_
        refine z_callV (As := [z_i x1, z_i x2]) (rest := []) zmX6_isKeyword znX6_isKeyword zsX6_isKeyword (show z_Cl[6]? = some (RX6, TX6, 2) from rfl) zlRX6_23 ⟨Nat.le_of_ble_eq_true rfl, Nat.le_of_ble_eq_true rfl⟩ dX6_isName_22 hh0.1 rfl rfl (z_ai (z_ai z_a0)) (Nat.le_of_ble_eq_true rfl) (Nat.le_of_ble_eq_true rfl) ⟨rfl, rfl⟩ (z_CIm h ?_)
        intro y7 w6 h
        show z_Sem mX6_isName (sh.length, 0) 25 [(0, z_r 140), (1, z_i x1), (2, z_i x2)] [z_i y7] (sh, w6) Q
        suffices hJ8 : z_Sem mX6_isName (sh.length, 0) 33 [] [z_i (if y7 = 0 then 1 else 0)] (sh, w6) Q by
          refine z_if_ne (tgt := 32) dX6_isName_25 (by decide) (fun c9 => ?_) (fun c9 => ?_)
          · skip
            refine z_iconst dX6_isName_32 (by decide) ?_
            refine z_sub (L' := []) [] rfl ?_
            simp only [if_neg c9] at hJ8
            exact hJ8
          · skip
            refine z_iconst dX6_isName_28 (by decide) ?_
            refine z_goto (tgt := 33) dX6_isName_29 (by decide) ?_
            refine z_sub (L' := []) [] rfl ?_
            simp only [if_pos c9] at hJ8
            exact hJ8
        exact z_ret (v := some (z_i (if y7 = 0 then 1 else 0))) dX6_isName_33 ⟨rfl, Or.inr (Or.inl ⟨rfl, (z_it01 (by decide) (by decide))⟩)⟩ rfl h
set_option maxRecDepth 100000 in
theorem t_X4_eventHere {sh : List z_C} {w : Nat → Int → Int} {Q : Option z_V → z_S → Prop}  (hh0 : z_isRea sh 139) (h : (((w 139 3) = 2 → z_CI mX3_findEvent [z_r 142, z_r 140, z_i (w 139 4), z_i (w 139 5)] sh w (fun y3 w2 => Q (some (z_i y3)) (sh, w2))) ∧ (¬ (w 139 3) = 2 → Q (some (z_i (-1))) (sh, w)))) : z_Sem mX4_eventHere (sh.length, 0) 0 [(0, z_r 139)] [] (sh, w) Q := by
  refine z_aload_n 0 dX4_eventHere_0 rfl rfl ?_
  refine z_getI (ki := 3) zfRX4_72 dX4_eventHere_1 hh0.1 rfl rfl ?_
  refine z_iconst dX4_eventHere_4 (by decide) ?_
  refine z_icmp_ne (tgt := 30) dX4_eventHere_5 (by decide) (fun c1 => ?_) (fun c1 => ?_)
  · replace h := h.2 c1
    refine z_iconst dX4_eventHere_30 (by decide) ?_
    exact z_ret (v := some (z_i (-1))) dX4_eventHere_31 ⟨rfl, Or.inl rfl⟩ rfl h
  · replace h := h.1 c1
    refine z_aload_n 0 dX4_eventHere_8 rfl rfl ?_
    refine z_getR (r := 142) zfRX4_21 dX4_eventHere_9 hh0.1 rfl ?_
    refine z_aload_n 0 dX4_eventHere_12 rfl rfl ?_
    refine z_getR (r := 140) zfRX4_12 dX4_eventHere_13 hh0.1 rfl ?_
    refine z_aload_n 0 dX4_eventHere_16 rfl rfl ?_
    refine z_getI (ki := 4) zfRX4_35 dX4_eventHere_17 hh0.1 rfl rfl ?_
    refine z_aload_n 0 dX4_eventHere_20 rfl rfl ?_
    refine z_getI (ki := 5) zfRX4_39 dX4_eventHere_21 hh0.1 rfl rfl ?_
    refine z_callV (As := [z_r 140, z_i (w 139 4), z_i (w 139 5)]) (rest := []) zmX3_findEvent znX3_findEvent zsX3_findEvent (show z_Cl[3]? = some (RX3, TX3, 12) from rfl) zlRX4_99 ⟨Nat.le_of_ble_eq_true rfl, Nat.le_of_ble_eq_true rfl⟩ dX4_eventHere_24 hh0.2.2.1.1 rfl rfl (z_ar (z_ai (z_ai z_a0))) (Nat.le_of_ble_eq_true rfl) (Nat.le_of_ble_eq_true rfl) ⟨rfl, rfl⟩ (z_CIm h ?_)
    intro y3 w2 h
    show z_Sem mX4_eventHere (sh.length, 0) 27 [(0, z_r 139)] [z_i y3] (sh, w2) Q
    refine z_goto (tgt := 31) dX4_eventHere_27 (by decide) ?_
    exact z_ret (v := some (z_i y3)) dX4_eventHere_31 ⟨rfl, Or.inl rfl⟩ rfl h
set_option maxRecDepth 100000 in
theorem t_X4_readEvent {sh : List z_C} {w : Nat → Int → Int} {Q : Option z_V → z_S → Prop}  (hh0 : z_isRea sh 139) (h : (((w 142 10) = 10 → Q (some (z_i 0)) (sh, w)) ∧ (¬ (w 142 10) = 10 → z_CV mX4_next [z_r 139] sh w (fun w2 => (((w2 139 3) = 2 → z_CI mX6_isName [z_r 140, z_i (w2 139 4), z_i (w2 139 5)] sh w2 (fun y5 w4 => ((y5 = 0 → Q (some (z_i 0)) (sh, w4)) ∧ (¬ y5 = 0 → z_CI mX4_eventHere [z_r 139] sh w4 (fun y8 w7 => ((y8 = (-1) → z_CI mX3_addEvent [z_r 142, z_r 140, z_i (w7 139 4), z_i (w7 139 5)] sh w7 (fun y11 w10 => z_CV mX4_next [z_r 139] sh w10 (fun w12 => z_CI mX4_takeSemicolon [z_r 139] sh w12 (fun y14 w13 => ((0 : Int) ≤ y14 ∧ y14 ≤ 1) ∧ Q (some (z_i y14)) (sh, w13))))) ∧ (¬ y8 = (-1) → Q (some (z_i 0)) (sh, w7)))))))) ∧ (¬ (w2 139 3) = 2 → Q (some (z_i 0)) (sh, w2))))))) : z_Sem mX4_readEvent (sh.length, 0) 0 [(0, z_r 139)] [] (sh, w) Q := by
  refine z_aload_n 0 dX4_readEvent_0 rfl rfl ?_
  refine z_getR (r := 142) zfRX4_21 dX4_readEvent_1 hh0.1 rfl ?_
  refine z_getI (ki := 10) zfRX4_122 dX4_readEvent_4 hh0.2.2.1.1 rfl rfl ?_
  refine z_bipush dX4_readEvent_7 (by decide) (by decide) ?_
  refine z_icmp_ne (tgt := 14) dX4_readEvent_9 (by decide) (fun c1 => ?_) (fun c1 => ?_)
  · replace h := h.2 c1
    refine z_aload_n 0 dX4_readEvent_14 rfl rfl ?_
    refine z_callV (As := []) (rest := []) zmX4_next znX4_next zsX4_next (show z_Cl[4]? = some (RX4, TX4, 6) from rfl) zlRX4_42 ⟨Nat.le_of_ble_eq_true rfl, Nat.le_of_ble_eq_true rfl⟩ dX4_readEvent_15 hh0.1 rfl rfl z_a0 (Nat.le_of_ble_eq_true rfl) (Nat.le_of_ble_eq_true rfl) ⟨rfl, rfl⟩ (z_CVm h ?_)
    intro w2 h
    show z_Sem mX4_readEvent (sh.length, 0) 18 [(0, z_r 139)] [] (sh, w2) Q
    refine z_aload_n 0 dX4_readEvent_18 rfl rfl ?_
    refine z_getI (ki := 3) zfRX4_72 dX4_readEvent_19 hh0.1 rfl rfl ?_
    refine z_iconst dX4_readEvent_22 (by decide) ?_
    refine z_icmp_ne (tgt := 52) dX4_readEvent_23 (by decide) (fun c3 => ?_) (fun c3 => ?_)
    · replace h := h.2 c3
      refine z_iconst dX4_readEvent_52 (by decide) ?_
      exact z_ret (v := some (z_i 0)) dX4_readEvent_53 ⟨rfl, Or.inr (Or.inl ⟨rfl, (by decide)⟩)⟩ rfl h
    · replace h := h.1 c3
      refine z_aload_n 0 dX4_readEvent_26 rfl rfl ?_
      refine z_getR (r := 140) zfRX4_12 dX4_readEvent_27 hh0.1 rfl ?_
      refine z_aload_n 0 dX4_readEvent_30 rfl rfl ?_
      refine z_getI (ki := 4) zfRX4_35 dX4_readEvent_31 hh0.1 rfl rfl ?_
      refine z_aload_n 0 dX4_readEvent_34 rfl rfl ?_
      refine z_getI (ki := 5) zfRX4_39 dX4_readEvent_35 hh0.1 rfl rfl ?_
      refine z_callV (As := [z_i (w2 139 4), z_i (w2 139 5)]) (rest := []) zmX6_isName znX6_isName zsX6_isName (show z_Cl[6]? = some (RX6, TX6, 2) from rfl) zlRX4_125 ⟨Nat.le_of_ble_eq_true rfl, Nat.le_of_ble_eq_true rfl⟩ dX4_readEvent_38 hh0.2.1.1 rfl rfl (z_ai (z_ai z_a0)) (Nat.le_of_ble_eq_true rfl) (Nat.le_of_ble_eq_true rfl) ⟨rfl, rfl⟩ (z_CIm h ?_)
      intro y5 w4 h
      show z_Sem mX4_readEvent (sh.length, 0) 41 [(0, z_r 139)] [z_i y5] (sh, w4) Q
      refine z_if_eq (tgt := 52) dX4_readEvent_41 (by decide) (fun c6 => ?_) (fun c6 => ?_)
      · replace h := h.1 c6
        refine z_iconst dX4_readEvent_52 (by decide) ?_
        exact z_ret (v := some (z_i 0)) dX4_readEvent_53 ⟨rfl, Or.inr (Or.inl ⟨rfl, (by decide)⟩)⟩ rfl h
      · replace h := h.2 c6
        refine z_aload_n 0 dX4_readEvent_44 rfl rfl ?_
        refine z_callV (As := []) (rest := []) zmX4_eventHere znX4_eventHere zsX4_eventHere (show z_Cl[4]? = some (RX4, TX4, 6) from rfl) zlRX4_129 ⟨Nat.le_of_ble_eq_true rfl, Nat.le_of_ble_eq_true rfl⟩ dX4_readEvent_45 hh0.1 rfl rfl z_a0 (Nat.le_of_ble_eq_true rfl) (Nat.le_of_ble_eq_true rfl) ⟨rfl, rfl⟩ (z_CIm h ?_)
        intro y8 w7 h
        show z_Sem mX4_readEvent (sh.length, 0) 48 [(0, z_r 139)] [z_i y8] (sh, w7) Q
        refine z_iconst dX4_readEvent_48 (by decide) ?_
        refine z_icmp_eq (tgt := 54) dX4_readEvent_49 (by decide) (fun c9 => ?_) (fun c9 => ?_)
        · replace h := h.1 c9
          refine z_aload_n 0 dX4_readEvent_54 rfl rfl ?_
          refine z_getR (r := 142) zfRX4_21 dX4_readEvent_55 hh0.1 rfl ?_
          refine z_aload_n 0 dX4_readEvent_58 rfl rfl ?_
          refine z_getR (r := 140) zfRX4_12 dX4_readEvent_59 hh0.1 rfl ?_
          refine z_aload_n 0 dX4_readEvent_62 rfl rfl ?_
          refine z_getI (ki := 4) zfRX4_35 dX4_readEvent_63 hh0.1 rfl rfl ?_
          refine z_aload_n 0 dX4_readEvent_66 rfl rfl ?_
          refine z_getI (ki := 5) zfRX4_39 dX4_readEvent_67 hh0.1 rfl rfl ?_
          refine z_callV (As := [z_r 140, z_i (w7 139 4), z_i (w7 139 5)]) (rest := []) zmX3_addEvent znX3_addEvent zsX3_addEvent (show z_Cl[3]? = some (RX3, TX3, 12) from rfl) zlRX4_132 ⟨Nat.le_of_ble_eq_true rfl, Nat.le_of_ble_eq_true rfl⟩ dX4_readEvent_70 hh0.2.2.1.1 rfl rfl (z_ar (z_ai (z_ai z_a0))) (Nat.le_of_ble_eq_true rfl) (Nat.le_of_ble_eq_true rfl) ⟨rfl, rfl⟩ (z_CIm h ?_)
          intro y11 w10 h
          show z_Sem mX4_readEvent (sh.length, 0) 73 [(0, z_r 139)] [z_i y11] (sh, w10) Q
          refine z_pop dX4_readEvent_73 rfl ?_
          refine z_aload_n 0 dX4_readEvent_74 rfl rfl ?_
          refine z_callV (As := []) (rest := []) zmX4_next znX4_next zsX4_next (show z_Cl[4]? = some (RX4, TX4, 6) from rfl) zlRX4_42 ⟨Nat.le_of_ble_eq_true rfl, Nat.le_of_ble_eq_true rfl⟩ dX4_readEvent_75 hh0.1 rfl rfl z_a0 (Nat.le_of_ble_eq_true rfl) (Nat.le_of_ble_eq_true rfl) ⟨rfl, rfl⟩ (z_CVm h ?_)
          intro w12 h
          show z_Sem mX4_readEvent (sh.length, 0) 78 [(0, z_r 139)] [] (sh, w12) Q
          refine z_aload_n 0 dX4_readEvent_78 rfl rfl ?_
          refine z_callV (As := []) (rest := []) zmX4_takeSemicolon znX4_takeSemicolon zsX4_takeSemicolon (show z_Cl[4]? = some (RX4, TX4, 6) from rfl) zlRX4_119 ⟨Nat.le_of_ble_eq_true rfl, Nat.le_of_ble_eq_true rfl⟩ dX4_readEvent_79 hh0.1 rfl rfl z_a0 (Nat.le_of_ble_eq_true rfl) (Nat.le_of_ble_eq_true rfl) ⟨rfl, rfl⟩ (z_CIm h ?_)
          intro y14 w13 h
          show z_Sem mX4_readEvent (sh.length, 0) 82 [(0, z_r 139)] [z_i y14] (sh, w13) Q
          obtain ⟨q15, h⟩ := h
          exact z_ret (v := some (z_i y14)) dX4_readEvent_82 ⟨rfl, Or.inr (Or.inl ⟨rfl, q15⟩)⟩ rfl h
        · replace h := h.2 c9
          refine z_iconst dX4_readEvent_52 (by decide) ?_
          exact z_ret (v := some (z_i 0)) dX4_readEvent_53 ⟨rfl, Or.inr (Or.inl ⟨rfl, (by decide)⟩)⟩ rfl h
  · replace h := h.1 c1
    refine z_iconst dX4_readEvent_12 (by decide) ?_
    exact z_ret (v := some (z_i 0)) dX4_readEvent_13 ⟨rfl, Or.inr (Or.inl ⟨rfl, (by decide)⟩)⟩ rfl h
set_option maxRecDepth 100000 in
theorem t_X4_kindHere {sh : List z_C} {w : Nat → Int → Int} {Q : Option z_V → z_S → Prop}  (hh0 : z_isRea sh 139) (h : z_CI mX4_isHere [z_r 139, z_r (1001 + 1)] sh w (fun y2 w1 => ((y2 = 0 → z_CI mX4_isHere [z_r 139, z_r (1001 + 2)] sh w1 (fun y5 w4 => Q (some (z_i (if y5 = 0 then -1 else 1))) (sh, w4))) ∧ (¬ y2 = 0 → Q (some (z_i 0)) (sh, w1))))) : z_Sem mX4_kindHere (sh.length, 0) 0 [(0, z_r 139)] [] (sh, w) Q := by
  refine z_aload_n 0 dX4_kindHere_0 rfl rfl ?_
  refine z_ldcS (i := 1) rfl dX4_kindHere_1 ?_
  refine z_callV (As := [z_r (1001 + 1)]) (rest := []) zmX4_isHere znX4_isHere zsX4_isHere (show z_Cl[4]? = some (RX4, TX4, 6) from rfl) zlRX4_51 ⟨Nat.le_of_ble_eq_true rfl, Nat.le_of_ble_eq_true rfl⟩ dX4_kindHere_3 hh0.1 rfl rfl (z_ar z_a0) (Nat.le_of_ble_eq_true rfl) (Nat.le_of_ble_eq_true rfl) ⟨rfl, rfl⟩ (z_CIm h ?_)
  intro y2 w1 h
  show z_Sem mX4_kindHere (sh.length, 0) 6 [(0, z_r 139)] [z_i y2] (sh, w1) Q
  refine z_if_eq (tgt := 11) dX4_kindHere_6 (by decide) (fun c3 => ?_) (fun c3 => ?_)
  · replace h := h.1 c3
    refine z_aload_n 0 dX4_kindHere_11 rfl rfl ?_
    refine z_ldcS (i := 2) rfl dX4_kindHere_12 ?_
    refine z_callV (As := [z_r (1001 + 2)]) (rest := []) zmX4_isHere znX4_isHere zsX4_isHere (show z_Cl[4]? = some (RX4, TX4, 6) from rfl) zlRX4_51 ⟨Nat.le_of_ble_eq_true rfl, Nat.le_of_ble_eq_true rfl⟩ dX4_kindHere_14 hh0.1 rfl rfl (z_ar z_a0) (Nat.le_of_ble_eq_true rfl) (Nat.le_of_ble_eq_true rfl) ⟨rfl, rfl⟩ (z_CIm h ?_)
    intro y5 w4 h
    show z_Sem mX4_kindHere (sh.length, 0) 17 [(0, z_r 139)] [z_i y5] (sh, w4) Q
    suffices hJ6 : z_Sem mX4_kindHere (sh.length, 0) 25 [] [z_i (if y5 = 0 then -1 else 1)] (sh, w4) Q by
      refine z_if_eq (tgt := 24) dX4_kindHere_17 (by decide) (fun c7 => ?_) (fun c7 => ?_)
      · skip
        refine z_iconst dX4_kindHere_24 (by decide) ?_
        refine z_sub (L' := []) [] rfl ?_
        simp only [if_pos c7] at hJ6
        exact hJ6
      · skip
        refine z_iconst dX4_kindHere_20 (by decide) ?_
        refine z_goto (tgt := 25) dX4_kindHere_21 (by decide) ?_
        refine z_sub (L' := []) [] rfl ?_
        simp only [if_neg c7] at hJ6
        exact hJ6
    exact z_ret (v := some (z_i (if y5 = 0 then -1 else 1))) dX4_kindHere_25 ⟨rfl, Or.inl rfl⟩ rfl h
  · replace h := h.2 c3
    refine z_iconst dX4_kindHere_9 (by decide) ?_
    exact z_ret (v := some (z_i 0)) dX4_kindHere_10 ⟨rfl, Or.inl rfl⟩ rfl h
set_option maxRecDepth 100000 in
theorem t_X4_readGap {sh : List z_C} {w : Nat → Int → Int} {Q : Option z_V → z_S → Prop}  (hh0 : z_isRea sh 139) (h : (((w 142 11) = 24 → Q (some (z_i 0)) (sh, w)) ∧ (¬ (w 142 11) = 24 → z_CV mX4_next [z_r 139] sh w (fun w2 => z_CI mX4_eventHere [z_r 139] sh w2 (fun y4 w3 => ((y4 = (-1) → Q (some (z_i 0)) (sh, w3)) ∧ (¬ y4 = (-1) → z_CV mX4_next [z_r 139] sh w3 (fun w6 => z_CI mX4_eventHere [z_r 139] sh w6 (fun y8 w7 => ((y8 = (-1) → Q (some (z_i 0)) (sh, w7)) ∧ (¬ y8 = (-1) → ((y8 = y4 → Q (some (z_i 0)) (sh, w7)) ∧ (¬ y8 = y4 → z_CV mX4_next [z_r 139] sh w7 (fun w11 => z_CI mX4_kindHere [z_r 139] sh w11 (fun y13 w12 => ((y13 = (-1) → Q (some (z_i 0)) (sh, w12)) ∧ (¬ y13 = (-1) → z_CV mX4_next [z_r 139] sh w12 (fun w15 => z_CI mX4_numberHere [z_r 139] sh w15 (fun y17 w16 => ((y17 = (-1) → Q (some (z_i 0)) (sh, w16)) ∧ (¬ y17 = (-1) → z_CV mX4_next [z_r 139] sh w16 (fun w19 => z_CI mX4_takeWord [z_r 139, z_r (1001 + 4)] sh w19 (fun y21 w20 => ∀ y26 : Int, y26 = (if y21 = 0 then 1 else 0) → (((w20 139 3) = 4 → ((y26 = 0 → z_CI mX3_addGap [z_r 142, z_i y4, z_i y8, z_i y13, z_i y17, z_i y26] sh w20 (fun y30 w29 => ((y26 = 0 → z_CV mX4_next [z_r 139] sh w29 (fun w32 => Q (some (z_i 1)) (sh, w32))) ∧ (¬ y26 = 0 → z_CV mX2_addGapStep [z_r 153, z_i y4, z_i y8, z_i y13, z_i y17] sh w29 (fun w33 => z_CV mX4_next [z_r 139] sh w33 (fun w34 => Q (some (z_i 1)) (sh, w34))))))) ∧ (¬ y26 = 0 → (s_X2_leastRing w20 153 y4 y8 y13 y17) ∧ ((0 ≤ (f_X2_leastRing w20 153 y4 y8 y13 y17) → z_CI mX3_addGap [z_r 142, z_i y4, z_i y8, z_i y13, z_i y17, z_i y26] sh w20 (fun y38 w37 => ((y26 = 0 → z_CV mX4_next [z_r 139] sh w37 (fun w40 => Q (some (z_i 1)) (sh, w40))) ∧ (¬ y26 = 0 → z_CV mX2_addGapStep [z_r 153, z_i y4, z_i y8, z_i y13, z_i y17] sh w37 (fun w41 => z_CV mX4_next [z_r 139] sh w41 (fun w42 => Q (some (z_i 1)) (sh, w42))))))) ∧ (¬ 0 ≤ (f_X2_leastRing w20 153 y4 y8 y13 y17) → Q (some (z_i 0)) (sh, w20)))))) ∧ (¬ (w20 139 3) = 4 → Q (some (z_i 0)) (sh, w20)))))))))))))))))))))))))) : z_Sem mX4_readGap (sh.length, 0) 0 [(0, z_r 139)] [] (sh, w) Q := by
  refine z_aload_n 0 dX4_readGap_0 rfl rfl ?_
  refine z_getR (r := 142) zfRX4_21 dX4_readGap_1 hh0.1 rfl ?_
  refine z_getI (ki := 11) zfRX4_135 dX4_readGap_4 hh0.2.2.1.1 rfl rfl ?_
  refine z_bipush dX4_readGap_7 (by decide) (by decide) ?_
  refine z_icmp_ne (tgt := 14) dX4_readGap_9 (by decide) (fun c1 => ?_) (fun c1 => ?_)
  · replace h := h.2 c1
    refine z_aload_n 0 dX4_readGap_14 rfl rfl ?_
    refine z_callV (As := []) (rest := []) zmX4_next znX4_next zsX4_next (show z_Cl[4]? = some (RX4, TX4, 6) from rfl) zlRX4_42 ⟨Nat.le_of_ble_eq_true rfl, Nat.le_of_ble_eq_true rfl⟩ dX4_readGap_15 hh0.1 rfl rfl z_a0 (Nat.le_of_ble_eq_true rfl) (Nat.le_of_ble_eq_true rfl) ⟨rfl, rfl⟩ (z_CVm h ?_)
    intro w2 h
    show z_Sem mX4_readGap (sh.length, 0) 18 [(0, z_r 139)] [] (sh, w2) Q
    refine z_aload_n 0 dX4_readGap_18 rfl rfl ?_
    refine z_callV (As := []) (rest := []) zmX4_eventHere znX4_eventHere zsX4_eventHere (show z_Cl[4]? = some (RX4, TX4, 6) from rfl) zlRX4_129 ⟨Nat.le_of_ble_eq_true rfl, Nat.le_of_ble_eq_true rfl⟩ dX4_readGap_19 hh0.1 rfl rfl z_a0 (Nat.le_of_ble_eq_true rfl) (Nat.le_of_ble_eq_true rfl) ⟨rfl, rfl⟩ (z_CIm h ?_)
    intro y4 w3 h
    show z_Sem mX4_readGap (sh.length, 0) 22 [(0, z_r 139)] [z_i y4] (sh, w3) Q
    refine z_istore_n (L' := [(1, z_i y4), (0, z_r 139)]) dX4_readGap_22 rfl (by decide) rfl ?_
    refine z_iload_n 0 dX4_readGap_23 rfl rfl ?_
    refine z_iconst dX4_readGap_24 (by decide) ?_
    refine z_icmp_ne (tgt := 30) dX4_readGap_25 (by decide) (fun c5 => ?_) (fun c5 => ?_)
    · replace h := h.2 c5
      refine z_aload_n 1 dX4_readGap_30 rfl rfl ?_
      refine z_callV (As := []) (rest := []) zmX4_next znX4_next zsX4_next (show z_Cl[4]? = some (RX4, TX4, 6) from rfl) zlRX4_42 ⟨Nat.le_of_ble_eq_true rfl, Nat.le_of_ble_eq_true rfl⟩ dX4_readGap_31 hh0.1 rfl rfl z_a0 (Nat.le_of_ble_eq_true rfl) (Nat.le_of_ble_eq_true rfl) ⟨rfl, rfl⟩ (z_CVm h ?_)
      intro w6 h
      show z_Sem mX4_readGap (sh.length, 0) 34 [(1, z_i y4), (0, z_r 139)] [] (sh, w6) Q
      refine z_aload_n 1 dX4_readGap_34 rfl rfl ?_
      refine z_callV (As := []) (rest := []) zmX4_eventHere znX4_eventHere zsX4_eventHere (show z_Cl[4]? = some (RX4, TX4, 6) from rfl) zlRX4_129 ⟨Nat.le_of_ble_eq_true rfl, Nat.le_of_ble_eq_true rfl⟩ dX4_readGap_35 hh0.1 rfl rfl z_a0 (Nat.le_of_ble_eq_true rfl) (Nat.le_of_ble_eq_true rfl) ⟨rfl, rfl⟩ (z_CIm h ?_)
      intro y8 w7 h
      show z_Sem mX4_readGap (sh.length, 0) 38 [(1, z_i y4), (0, z_r 139)] [z_i y8] (sh, w7) Q
      refine z_istore_n (L' := [(2, z_i y8), (1, z_i y4), (0, z_r 139)]) dX4_readGap_38 rfl (by decide) rfl ?_
      refine z_iload_n 0 dX4_readGap_39 rfl rfl ?_
      refine z_iconst dX4_readGap_40 (by decide) ?_
      refine z_icmp_eq (tgt := 49) dX4_readGap_41 (by decide) (fun c9 => ?_) (fun c9 => ?_)
      · replace h := h.1 c9
        refine z_iconst dX4_readGap_49 (by decide) ?_
        exact z_ret (v := some (z_i 0)) dX4_readGap_50 ⟨rfl, Or.inr (Or.inl ⟨rfl, (by decide)⟩)⟩ rfl h
      · replace h := h.2 c9
        refine z_iload_n 0 dX4_readGap_44 rfl rfl ?_
        refine z_iload_n 1 dX4_readGap_45 rfl rfl ?_
        refine z_icmp_ne (tgt := 51) dX4_readGap_46 (by decide) (fun c10 => ?_) (fun c10 => ?_)
        · replace h := h.2 c10
          refine z_aload_n 2 dX4_readGap_51 rfl rfl ?_
          refine z_callV (As := []) (rest := []) zmX4_next znX4_next zsX4_next (show z_Cl[4]? = some (RX4, TX4, 6) from rfl) zlRX4_42 ⟨Nat.le_of_ble_eq_true rfl, Nat.le_of_ble_eq_true rfl⟩ dX4_readGap_52 hh0.1 rfl rfl z_a0 (Nat.le_of_ble_eq_true rfl) (Nat.le_of_ble_eq_true rfl) ⟨rfl, rfl⟩ (z_CVm h ?_)
          intro w11 h
          show z_Sem mX4_readGap (sh.length, 0) 55 [(2, z_i y8), (1, z_i y4), (0, z_r 139)] [] (sh, w11) Q
          refine z_aload_n 2 dX4_readGap_55 rfl rfl ?_
          refine z_callV (As := []) (rest := []) zmX4_kindHere znX4_kindHere zsX4_kindHere (show z_Cl[4]? = some (RX4, TX4, 6) from rfl) zlRX4_138 ⟨Nat.le_of_ble_eq_true rfl, Nat.le_of_ble_eq_true rfl⟩ dX4_readGap_56 hh0.1 rfl rfl z_a0 (Nat.le_of_ble_eq_true rfl) (Nat.le_of_ble_eq_true rfl) ⟨rfl, rfl⟩ (z_CIm h ?_)
          intro y13 w12 h
          show z_Sem mX4_readGap (sh.length, 0) 59 [(2, z_i y8), (1, z_i y4), (0, z_r 139)] [z_i y13] (sh, w12) Q
          refine z_istore_n (L' := [(3, z_i y13), (2, z_i y8), (1, z_i y4), (0, z_r 139)]) dX4_readGap_59 rfl (by decide) rfl ?_
          refine z_iload_n 0 dX4_readGap_60 rfl rfl ?_
          refine z_iconst dX4_readGap_61 (by decide) ?_
          refine z_icmp_ne (tgt := 67) dX4_readGap_62 (by decide) (fun c14 => ?_) (fun c14 => ?_)
          · replace h := h.2 c14
            refine z_aload_n 3 dX4_readGap_67 rfl rfl ?_
            refine z_callV (As := []) (rest := []) zmX4_next znX4_next zsX4_next (show z_Cl[4]? = some (RX4, TX4, 6) from rfl) zlRX4_42 ⟨Nat.le_of_ble_eq_true rfl, Nat.le_of_ble_eq_true rfl⟩ dX4_readGap_68 hh0.1 rfl rfl z_a0 (Nat.le_of_ble_eq_true rfl) (Nat.le_of_ble_eq_true rfl) ⟨rfl, rfl⟩ (z_CVm h ?_)
            intro w15 h
            show z_Sem mX4_readGap (sh.length, 0) 71 [(3, z_i y13), (2, z_i y8), (1, z_i y4), (0, z_r 139)] [] (sh, w15) Q
            refine z_aload_n 3 dX4_readGap_71 rfl rfl ?_
            refine z_callV (As := []) (rest := []) zmX4_numberHere znX4_numberHere zsX4_numberHere (show z_Cl[4]? = some (RX4, TX4, 6) from rfl) zlRX4_112 ⟨Nat.le_of_ble_eq_true rfl, Nat.le_of_ble_eq_true rfl⟩ dX4_readGap_72 hh0.1 rfl rfl z_a0 (Nat.le_of_ble_eq_true rfl) (Nat.le_of_ble_eq_true rfl) ⟨rfl, rfl⟩ (z_CIm h ?_)
            intro y17 w16 h
            show z_Sem mX4_readGap (sh.length, 0) 75 [(3, z_i y13), (2, z_i y8), (1, z_i y4), (0, z_r 139)] [z_i y17] (sh, w16) Q
            refine z_istore (L' := [(4, z_i y17), (3, z_i y13), (2, z_i y8), (1, z_i y4), (0, z_r 139)]) dX4_readGap_75 (by decide) rfl ?_
            refine z_iload 0 dX4_readGap_77 rfl ?_
            refine z_iconst dX4_readGap_79 (by decide) ?_
            refine z_icmp_ne (tgt := 85) dX4_readGap_80 (by decide) (fun c18 => ?_) (fun c18 => ?_)
            · replace h := h.2 c18
              refine z_aload_n 4 dX4_readGap_85 rfl rfl ?_
              refine z_callV (As := []) (rest := []) zmX4_next znX4_next zsX4_next (show z_Cl[4]? = some (RX4, TX4, 6) from rfl) zlRX4_42 ⟨Nat.le_of_ble_eq_true rfl, Nat.le_of_ble_eq_true rfl⟩ dX4_readGap_86 hh0.1 rfl rfl z_a0 (Nat.le_of_ble_eq_true rfl) (Nat.le_of_ble_eq_true rfl) ⟨rfl, rfl⟩ (z_CVm h ?_)
              intro w19 h
              show z_Sem mX4_readGap (sh.length, 0) 89 [(4, z_i y17), (3, z_i y13), (2, z_i y8), (1, z_i y4), (0, z_r 139)] [] (sh, w19) Q
              refine z_aload_n 4 dX4_readGap_89 rfl rfl ?_
              refine z_ldcS (i := 4) rfl dX4_readGap_90 ?_
              refine z_callV (As := [z_r (1001 + 4)]) (rest := []) zmX4_takeWord znX4_takeWord zsX4_takeWord (show z_Cl[4]? = some (RX4, TX4, 6) from rfl) zlRX4_109 ⟨Nat.le_of_ble_eq_true rfl, Nat.le_of_ble_eq_true rfl⟩ dX4_readGap_92 hh0.1 rfl rfl (z_ar z_a0) (Nat.le_of_ble_eq_true rfl) (Nat.le_of_ble_eq_true rfl) ⟨rfl, rfl⟩ (z_CIm h ?_)
              intro y21 w20 h
              show z_Sem mX4_readGap (sh.length, 0) 95 [(4, z_i y17), (3, z_i y13), (2, z_i y8), (1, z_i y4), (0, z_r 139)] [z_i y21] (sh, w20) Q
              suffices hJ22 : z_Sem mX4_readGap (sh.length, 0) 103 [(0, z_r 139), (1, z_i y4), (2, z_i y8), (3, z_i y13), (4, z_i y17)] [z_i (if y21 = 0 then 1 else 0)] (sh, w20) Q by
                refine z_if_ne (tgt := 102) dX4_readGap_95 (by decide) (fun c23 => ?_) (fun c23 => ?_)
                · skip
                  refine z_iconst dX4_readGap_102 (by decide) ?_
                  refine z_sub (L' := [(0, z_r 139), (1, z_i y4), (2, z_i y8), (3, z_i y13), (4, z_i y17)]) [4, 3, 2, 1, 0] rfl ?_
                  simp only [if_neg c23] at hJ22
                  exact hJ22
                · skip
                  refine z_iconst dX4_readGap_98 (by decide) ?_
                  refine z_goto (tgt := 103) dX4_readGap_99 (by decide) ?_
                  refine z_sub (L' := [(0, z_r 139), (1, z_i y4), (2, z_i y8), (3, z_i y13), (4, z_i y17)]) [4, 3, 2, 1, 0] rfl ?_
                  simp only [if_pos c23] at hJ22
                  exact hJ22
              refine z_nam (fun y26 hy26 => ?_)
              replace h := h y26 hy26
              refine z_istore (L' := [(5, z_i y26), (0, z_r 139), (1, z_i y4), (2, z_i y8), (3, z_i y13), (4, z_i y17)]) dX4_readGap_103 (by decide) rfl ?_
              refine z_aload_n 1 dX4_readGap_105 rfl rfl ?_
              refine z_getI (ki := 3) zfRX4_72 dX4_readGap_106 hh0.1 rfl rfl ?_
              refine z_iconst dX4_readGap_109 (by decide) ?_
              refine z_icmp_ne (tgt := 133) dX4_readGap_110 (by decide) (fun c27 => ?_) (fun c27 => ?_)
              · replace h := h.2 c27
                refine z_iconst dX4_readGap_133 (by decide) ?_
                exact z_ret (v := some (z_i 0)) dX4_readGap_134 ⟨rfl, Or.inr (Or.inl ⟨rfl, (by decide)⟩)⟩ rfl h
              · replace h := h.1 c27
                refine z_iload 0 dX4_readGap_113 rfl ?_
                refine z_if_eq (tgt := 135) dX4_readGap_115 (by decide) (fun c28 => ?_) (fun c28 => ?_)
                · replace h := h.1 c28
                  refine z_aload_n 1 dX4_readGap_135 rfl rfl ?_
                  refine z_getR (r := 142) zfRX4_21 dX4_readGap_136 hh0.1 rfl ?_
                  refine z_iload_n 2 dX4_readGap_139 rfl rfl ?_
                  refine z_iload_n 3 dX4_readGap_140 rfl rfl ?_
                  refine z_iload_n 4 dX4_readGap_141 rfl rfl ?_
                  refine z_iload 5 dX4_readGap_142 rfl ?_
                  refine z_iload 0 dX4_readGap_144 rfl ?_
                  refine z_callV (As := [z_i y4, z_i y8, z_i y13, z_i y17, z_i y26]) (rest := []) zmX3_addGap znX3_addGap zsX3_addGap (show z_Cl[3]? = some (RX3, TX3, 12) from rfl) zlRX4_147 ⟨Nat.le_of_ble_eq_true rfl, Nat.le_of_ble_eq_true rfl⟩ dX4_readGap_146 hh0.2.2.1.1 rfl rfl (z_ai (z_ai (z_ai (z_ai (z_ai z_a0))))) (Nat.le_of_ble_eq_true rfl) (Nat.le_of_ble_eq_true rfl) ⟨rfl, rfl⟩ (z_CIm h ?_)
                  intro y30 w29 h
                  show z_Sem mX4_readGap (sh.length, 0) 149 [(5, z_i y26), (0, z_r 139), (1, z_i y4), (2, z_i y8), (3, z_i y13), (4, z_i y17)] [z_i y30] (sh, w29) Q
                  refine z_pop dX4_readGap_149 rfl ?_
                  refine z_iload 0 dX4_readGap_150 rfl ?_
                  refine z_if_eq (tgt := 167) dX4_readGap_152 (by decide) (fun c31 => ?_) (fun c31 => ?_)
                  · replace h := h.1 c31
                    refine z_aload_n 1 dX4_readGap_167 rfl rfl ?_
                    refine z_callV (As := []) (rest := []) zmX4_next znX4_next zsX4_next (show z_Cl[4]? = some (RX4, TX4, 6) from rfl) zlRX4_42 ⟨Nat.le_of_ble_eq_true rfl, Nat.le_of_ble_eq_true rfl⟩ dX4_readGap_168 hh0.1 rfl rfl z_a0 (Nat.le_of_ble_eq_true rfl) (Nat.le_of_ble_eq_true rfl) ⟨rfl, rfl⟩ (z_CVm h ?_)
                    intro w32 h
                    show z_Sem mX4_readGap (sh.length, 0) 171 [(5, z_i y26), (0, z_r 139), (1, z_i y4), (2, z_i y8), (3, z_i y13), (4, z_i y17)] [] (sh, w32) Q
                    refine z_iconst dX4_readGap_171 (by decide) ?_
                    exact z_ret (v := some (z_i 1)) dX4_readGap_172 ⟨rfl, Or.inr (Or.inl ⟨rfl, (by decide)⟩)⟩ rfl h
                  · replace h := h.2 c31
                    refine z_aload_n 1 dX4_readGap_155 rfl rfl ?_
                    refine z_getR (r := 153) zfRX4_28 dX4_readGap_156 hh0.1 rfl ?_
                    refine z_iload_n 2 dX4_readGap_159 rfl rfl ?_
                    refine z_iload_n 3 dX4_readGap_160 rfl rfl ?_
                    refine z_iload_n 4 dX4_readGap_161 rfl rfl ?_
                    refine z_iload 5 dX4_readGap_162 rfl ?_
                    refine z_callV (As := [z_i y4, z_i y8, z_i y13, z_i y17]) (rest := []) zmX2_addGapStep znX2_addGapStep zsX2_addGapStep (show z_Cl[2]? = some (RX2, TX2, 7) from rfl) zlRX4_151 ⟨Nat.le_of_ble_eq_true rfl, Nat.le_of_ble_eq_true rfl⟩ dX4_readGap_164 hh0.2.2.2.1 rfl rfl (z_ai (z_ai (z_ai (z_ai z_a0)))) (Nat.le_of_ble_eq_true rfl) (Nat.le_of_ble_eq_true rfl) ⟨rfl, rfl⟩ (z_CVm h ?_)
                    intro w33 h
                    show z_Sem mX4_readGap (sh.length, 0) 167 [(5, z_i y26), (0, z_r 139), (1, z_i y4), (2, z_i y8), (3, z_i y13), (4, z_i y17)] [] (sh, w33) Q
                    refine z_aload_n 1 dX4_readGap_167 rfl rfl ?_
                    refine z_callV (As := []) (rest := []) zmX4_next znX4_next zsX4_next (show z_Cl[4]? = some (RX4, TX4, 6) from rfl) zlRX4_42 ⟨Nat.le_of_ble_eq_true rfl, Nat.le_of_ble_eq_true rfl⟩ dX4_readGap_168 hh0.1 rfl rfl z_a0 (Nat.le_of_ble_eq_true rfl) (Nat.le_of_ble_eq_true rfl) ⟨rfl, rfl⟩ (z_CVm h ?_)
                    intro w34 h
                    show z_Sem mX4_readGap (sh.length, 0) 171 [(5, z_i y26), (0, z_r 139), (1, z_i y4), (2, z_i y8), (3, z_i y13), (4, z_i y17)] [] (sh, w34) Q
                    refine z_iconst dX4_readGap_171 (by decide) ?_
                    exact z_ret (v := some (z_i 1)) dX4_readGap_172 ⟨rfl, Or.inr (Or.inl ⟨rfl, (by decide)⟩)⟩ rfl h
                · replace h := h.2 c28
                  refine z_aload_n 1 dX4_readGap_118 rfl rfl ?_
                  refine z_getR (r := 153) zfRX4_28 dX4_readGap_119 hh0.1 rfl ?_
                  refine z_iload_n 2 dX4_readGap_122 rfl rfl ?_
                  refine z_iload_n 3 dX4_readGap_123 rfl rfl ?_
                  refine z_iload_n 4 dX4_readGap_124 rfl rfl ?_
                  refine z_iload 5 dX4_readGap_125 rfl ?_
                  obtain ⟨q35, h⟩ := h
                  refine z_callV (As := [z_i y4, z_i y8, z_i y13, z_i y17]) (rest := []) zmX2_leastRing znX2_leastRing zsX2_leastRing (show z_Cl[2]? = some (RX2, TX2, 7) from rfl) zlRX4_143 ⟨Nat.le_of_ble_eq_true rfl, Nat.le_of_ble_eq_true rfl⟩ dX4_readGap_127 hh0.2.2.2.1 rfl rfl (z_ai (z_ai (z_ai (z_ai z_a0)))) (Nat.le_of_ble_eq_true rfl) (Nat.le_of_ble_eq_true rfl) ⟨rfl, rfl⟩ ?_
                  refine t_X2_leastRing hh0.2.2.2 q35 ?_
                  show z_Sem mX4_readGap (sh.length, 0) 130 [(5, z_i y26), (0, z_r 139), (1, z_i y4), (2, z_i y8), (3, z_i y13), (4, z_i y17)] [z_i (f_X2_leastRing w20 153 y4 y8 y13 y17)] (sh, w20) Q
                  refine z_if_ge (tgt := 135) dX4_readGap_130 (by decide) (fun c36 => ?_) (fun c36 => ?_)
                  · replace h := h.1 c36
                    refine z_aload_n 1 dX4_readGap_135 rfl rfl ?_
                    refine z_getR (r := 142) zfRX4_21 dX4_readGap_136 hh0.1 rfl ?_
                    refine z_iload_n 2 dX4_readGap_139 rfl rfl ?_
                    refine z_iload_n 3 dX4_readGap_140 rfl rfl ?_
                    refine z_iload_n 4 dX4_readGap_141 rfl rfl ?_
                    refine z_iload 5 dX4_readGap_142 rfl ?_
                    refine z_iload 0 dX4_readGap_144 rfl ?_
                    refine z_callV (As := [z_i y4, z_i y8, z_i y13, z_i y17, z_i y26]) (rest := []) zmX3_addGap znX3_addGap zsX3_addGap (show z_Cl[3]? = some (RX3, TX3, 12) from rfl) zlRX4_147 ⟨Nat.le_of_ble_eq_true rfl, Nat.le_of_ble_eq_true rfl⟩ dX4_readGap_146 hh0.2.2.1.1 rfl rfl (z_ai (z_ai (z_ai (z_ai (z_ai z_a0))))) (Nat.le_of_ble_eq_true rfl) (Nat.le_of_ble_eq_true rfl) ⟨rfl, rfl⟩ (z_CIm h ?_)
                    intro y38 w37 h
                    show z_Sem mX4_readGap (sh.length, 0) 149 [(5, z_i y26), (0, z_r 139), (1, z_i y4), (2, z_i y8), (3, z_i y13), (4, z_i y17)] [z_i y38] (sh, w37) Q
                    refine z_pop dX4_readGap_149 rfl ?_
                    refine z_iload 0 dX4_readGap_150 rfl ?_
                    refine z_if_eq (tgt := 167) dX4_readGap_152 (by decide) (fun c39 => ?_) (fun c39 => ?_)
                    · replace h := h.1 c39
                      refine z_aload_n 1 dX4_readGap_167 rfl rfl ?_
                      refine z_callV (As := []) (rest := []) zmX4_next znX4_next zsX4_next (show z_Cl[4]? = some (RX4, TX4, 6) from rfl) zlRX4_42 ⟨Nat.le_of_ble_eq_true rfl, Nat.le_of_ble_eq_true rfl⟩ dX4_readGap_168 hh0.1 rfl rfl z_a0 (Nat.le_of_ble_eq_true rfl) (Nat.le_of_ble_eq_true rfl) ⟨rfl, rfl⟩ (z_CVm h ?_)
                      intro w40 h
                      show z_Sem mX4_readGap (sh.length, 0) 171 [(5, z_i y26), (0, z_r 139), (1, z_i y4), (2, z_i y8), (3, z_i y13), (4, z_i y17)] [] (sh, w40) Q
                      refine z_iconst dX4_readGap_171 (by decide) ?_
                      exact z_ret (v := some (z_i 1)) dX4_readGap_172 ⟨rfl, Or.inr (Or.inl ⟨rfl, (by decide)⟩)⟩ rfl h
                    · replace h := h.2 c39
                      refine z_aload_n 1 dX4_readGap_155 rfl rfl ?_
                      refine z_getR (r := 153) zfRX4_28 dX4_readGap_156 hh0.1 rfl ?_
                      refine z_iload_n 2 dX4_readGap_159 rfl rfl ?_
                      refine z_iload_n 3 dX4_readGap_160 rfl rfl ?_
                      refine z_iload_n 4 dX4_readGap_161 rfl rfl ?_
                      refine z_iload 5 dX4_readGap_162 rfl ?_
                      refine z_callV (As := [z_i y4, z_i y8, z_i y13, z_i y17]) (rest := []) zmX2_addGapStep znX2_addGapStep zsX2_addGapStep (show z_Cl[2]? = some (RX2, TX2, 7) from rfl) zlRX4_151 ⟨Nat.le_of_ble_eq_true rfl, Nat.le_of_ble_eq_true rfl⟩ dX4_readGap_164 hh0.2.2.2.1 rfl rfl (z_ai (z_ai (z_ai (z_ai z_a0)))) (Nat.le_of_ble_eq_true rfl) (Nat.le_of_ble_eq_true rfl) ⟨rfl, rfl⟩ (z_CVm h ?_)
                      intro w41 h
                      show z_Sem mX4_readGap (sh.length, 0) 167 [(5, z_i y26), (0, z_r 139), (1, z_i y4), (2, z_i y8), (3, z_i y13), (4, z_i y17)] [] (sh, w41) Q
                      refine z_aload_n 1 dX4_readGap_167 rfl rfl ?_
                      refine z_callV (As := []) (rest := []) zmX4_next znX4_next zsX4_next (show z_Cl[4]? = some (RX4, TX4, 6) from rfl) zlRX4_42 ⟨Nat.le_of_ble_eq_true rfl, Nat.le_of_ble_eq_true rfl⟩ dX4_readGap_168 hh0.1 rfl rfl z_a0 (Nat.le_of_ble_eq_true rfl) (Nat.le_of_ble_eq_true rfl) ⟨rfl, rfl⟩ (z_CVm h ?_)
                      intro w42 h
                      show z_Sem mX4_readGap (sh.length, 0) 171 [(5, z_i y26), (0, z_r 139), (1, z_i y4), (2, z_i y8), (3, z_i y13), (4, z_i y17)] [] (sh, w42) Q
                      refine z_iconst dX4_readGap_171 (by decide) ?_
                      exact z_ret (v := some (z_i 1)) dX4_readGap_172 ⟨rfl, Or.inr (Or.inl ⟨rfl, (by decide)⟩)⟩ rfl h
                  · replace h := h.2 c36
                    refine z_iconst dX4_readGap_133 (by decide) ?_
                    exact z_ret (v := some (z_i 0)) dX4_readGap_134 ⟨rfl, Or.inr (Or.inl ⟨rfl, (by decide)⟩)⟩ rfl h
            · replace h := h.1 c18
              refine z_iconst dX4_readGap_83 (by decide) ?_
              exact z_ret (v := some (z_i 0)) dX4_readGap_84 ⟨rfl, Or.inr (Or.inl ⟨rfl, (by decide)⟩)⟩ rfl h
          · replace h := h.1 c14
            refine z_iconst dX4_readGap_65 (by decide) ?_
            exact z_ret (v := some (z_i 0)) dX4_readGap_66 ⟨rfl, Or.inr (Or.inl ⟨rfl, (by decide)⟩)⟩ rfl h
        · replace h := h.1 c10
          refine z_iconst dX4_readGap_49 (by decide) ?_
          exact z_ret (v := some (z_i 0)) dX4_readGap_50 ⟨rfl, Or.inr (Or.inl ⟨rfl, (by decide)⟩)⟩ rfl h
    · replace h := h.1 c5
      refine z_iconst dX4_readGap_28 (by decide) ?_
      exact z_ret (v := some (z_i 0)) dX4_readGap_29 ⟨rfl, Or.inr (Or.inl ⟨rfl, (by decide)⟩)⟩ rfl h
  · replace h := h.1 c1
    refine z_iconst dX4_readGap_12 (by decide) ?_
    exact z_ret (v := some (z_i 0)) dX4_readGap_13 ⟨rfl, Or.inr (Or.inl ⟨rfl, (by decide)⟩)⟩ rfl h
set_option maxRecDepth 100000 in
theorem t_X4_readPin {sh : List z_C} {w : Nat → Int → Int} {Q : Option z_V → z_S → Prop}  (hh0 : z_isRea sh 139) (h : z_CV mX4_next [z_r 139] sh w (fun w1 => z_CI mX4_eventHere [z_r 139] sh w1 (fun y3 w2 => ((y3 = (-1) → Q (some (z_i 0)) (sh, w2)) ∧ (¬ y3 = (-1) → ((y3 = 0 → Q (some (z_i 0)) (sh, w2)) ∧ (¬ y3 = 0 → (s_X3_isPinned w2 142 y3) ∧ (((f_X3_isPinned w2 142 y3) = 0 → z_CV mX4_next [z_r 139] sh w2 (fun w8 => z_CI mX4_numberHere [z_r 139] sh w8 (fun y10 w9 => ((y10 = (-1) → Q (some (z_i 0)) (sh, w9)) ∧ (¬ y10 = (-1) → ((y10 ≤ (w9 142 9) → z_CV mX4_next [z_r 139] sh w9 (fun w13 => (((w13 139 3) = 4 → (s_X2_allows w13 153 y3 y10) ∧ (((f_X2_allows w13 153 y3 y10) = 0 → Q (some (z_i 0)) (sh, w13)) ∧ (¬ (f_X2_allows w13 153 y3 y10) = 0 → ((0 : Int) ≤ y3 ∧ y3 < 10) ∧ ∀ w17 : Nat → Int → Int, w17 = z_W w13 145 y3 y10 → z_CV mX2_addPin [z_r 153, z_i y3, z_i y10] sh w17 (fun w19 => z_CV mX4_next [z_r 139] sh w19 (fun w20 => Q (some (z_i 1)) (sh, w20)))))) ∧ (¬ (w13 139 3) = 4 → Q (some (z_i 0)) (sh, w13))))) ∧ (¬ y10 ≤ (w9 142 9) → Q (some (z_i 0)) (sh, w9)))))))) ∧ (¬ (f_X3_isPinned w2 142 y3) = 0 → Q (some (z_i 0)) (sh, w2)))))))))) : z_Sem mX4_readPin (sh.length, 0) 0 [(0, z_r 139)] [] (sh, w) Q := by
  refine z_aload_n 0 dX4_readPin_0 rfl rfl ?_
  refine z_callV (As := []) (rest := []) zmX4_next znX4_next zsX4_next (show z_Cl[4]? = some (RX4, TX4, 6) from rfl) zlRX4_42 ⟨Nat.le_of_ble_eq_true rfl, Nat.le_of_ble_eq_true rfl⟩ dX4_readPin_1 hh0.1 rfl rfl z_a0 (Nat.le_of_ble_eq_true rfl) (Nat.le_of_ble_eq_true rfl) ⟨rfl, rfl⟩ (z_CVm h ?_)
  intro w1 h
  show z_Sem mX4_readPin (sh.length, 0) 4 [(0, z_r 139)] [] (sh, w1) Q
  refine z_aload_n 0 dX4_readPin_4 rfl rfl ?_
  refine z_callV (As := []) (rest := []) zmX4_eventHere znX4_eventHere zsX4_eventHere (show z_Cl[4]? = some (RX4, TX4, 6) from rfl) zlRX4_129 ⟨Nat.le_of_ble_eq_true rfl, Nat.le_of_ble_eq_true rfl⟩ dX4_readPin_5 hh0.1 rfl rfl z_a0 (Nat.le_of_ble_eq_true rfl) (Nat.le_of_ble_eq_true rfl) ⟨rfl, rfl⟩ (z_CIm h ?_)
  intro y3 w2 h
  show z_Sem mX4_readPin (sh.length, 0) 8 [(0, z_r 139)] [z_i y3] (sh, w2) Q
  refine z_istore_n (L' := [(1, z_i y3), (0, z_r 139)]) dX4_readPin_8 rfl (by decide) rfl ?_
  refine z_iload_n 0 dX4_readPin_9 rfl rfl ?_
  refine z_iconst dX4_readPin_10 (by decide) ?_
  refine z_icmp_eq (tgt := 29) dX4_readPin_11 (by decide) (fun c4 => ?_) (fun c4 => ?_)
  · replace h := h.1 c4
    refine z_iconst dX4_readPin_29 (by decide) ?_
    exact z_ret (v := some (z_i 0)) dX4_readPin_30 ⟨rfl, Or.inr (Or.inl ⟨rfl, (by decide)⟩)⟩ rfl h
  · replace h := h.2 c4
    refine z_iload_n 0 dX4_readPin_14 rfl rfl ?_
    refine z_if_eq (tgt := 29) dX4_readPin_15 (by decide) (fun c5 => ?_) (fun c5 => ?_)
    · replace h := h.1 c5
      refine z_iconst dX4_readPin_29 (by decide) ?_
      exact z_ret (v := some (z_i 0)) dX4_readPin_30 ⟨rfl, Or.inr (Or.inl ⟨rfl, (by decide)⟩)⟩ rfl h
    · replace h := h.2 c5
      refine z_aload_n 1 dX4_readPin_18 rfl rfl ?_
      refine z_getR (r := 142) zfRX4_21 dX4_readPin_19 hh0.1 rfl ?_
      refine z_iload_n 0 dX4_readPin_22 rfl rfl ?_
      obtain ⟨q6, h⟩ := h
      refine z_callV (As := [z_i y3]) (rest := []) zmX3_isPinned znX3_isPinned zsX3_isPinned (show z_Cl[3]? = some (RX3, TX3, 12) from rfl) zlRX4_155 ⟨Nat.le_of_ble_eq_true rfl, Nat.le_of_ble_eq_true rfl⟩ dX4_readPin_23 hh0.2.2.1.1 rfl rfl (z_ai z_a0) (Nat.le_of_ble_eq_true rfl) (Nat.le_of_ble_eq_true rfl) ⟨rfl, rfl⟩ ?_
      refine t_X3_isPinned hh0.2.2.1 q6 ?_
      show z_Sem mX4_readPin (sh.length, 0) 26 [(1, z_i y3), (0, z_r 139)] [z_i (f_X3_isPinned w2 142 y3)] (sh, w2) Q
      refine z_if_eq (tgt := 31) dX4_readPin_26 (by decide) (fun c7 => ?_) (fun c7 => ?_)
      · replace h := h.1 c7
        refine z_aload_n 1 dX4_readPin_31 rfl rfl ?_
        refine z_callV (As := []) (rest := []) zmX4_next znX4_next zsX4_next (show z_Cl[4]? = some (RX4, TX4, 6) from rfl) zlRX4_42 ⟨Nat.le_of_ble_eq_true rfl, Nat.le_of_ble_eq_true rfl⟩ dX4_readPin_32 hh0.1 rfl rfl z_a0 (Nat.le_of_ble_eq_true rfl) (Nat.le_of_ble_eq_true rfl) ⟨rfl, rfl⟩ (z_CVm h ?_)
        intro w8 h
        show z_Sem mX4_readPin (sh.length, 0) 35 [(1, z_i y3), (0, z_r 139)] [] (sh, w8) Q
        refine z_aload_n 1 dX4_readPin_35 rfl rfl ?_
        refine z_callV (As := []) (rest := []) zmX4_numberHere znX4_numberHere zsX4_numberHere (show z_Cl[4]? = some (RX4, TX4, 6) from rfl) zlRX4_112 ⟨Nat.le_of_ble_eq_true rfl, Nat.le_of_ble_eq_true rfl⟩ dX4_readPin_36 hh0.1 rfl rfl z_a0 (Nat.le_of_ble_eq_true rfl) (Nat.le_of_ble_eq_true rfl) ⟨rfl, rfl⟩ (z_CIm h ?_)
        intro y10 w9 h
        show z_Sem mX4_readPin (sh.length, 0) 39 [(1, z_i y3), (0, z_r 139)] [z_i y10] (sh, w9) Q
        refine z_istore_n (L' := [(2, z_i y10), (1, z_i y3), (0, z_r 139)]) dX4_readPin_39 rfl (by decide) rfl ?_
        refine z_iload_n 0 dX4_readPin_40 rfl rfl ?_
        refine z_iconst dX4_readPin_41 (by decide) ?_
        refine z_icmp_eq (tgt := 56) dX4_readPin_42 (by decide) (fun c11 => ?_) (fun c11 => ?_)
        · replace h := h.1 c11
          refine z_iconst dX4_readPin_56 (by decide) ?_
          exact z_ret (v := some (z_i 0)) dX4_readPin_57 ⟨rfl, Or.inr (Or.inl ⟨rfl, (by decide)⟩)⟩ rfl h
        · replace h := h.2 c11
          refine z_iload_n 0 dX4_readPin_45 rfl rfl ?_
          refine z_aload_n 2 dX4_readPin_46 rfl rfl ?_
          refine z_getR (r := 142) zfRX4_21 dX4_readPin_47 hh0.1 rfl ?_
          refine z_getI (ki := 9) zfRX4_116 dX4_readPin_50 hh0.2.2.1.1 rfl rfl ?_
          refine z_icmp_le (tgt := 58) dX4_readPin_53 (by decide) (fun c12 => ?_) (fun c12 => ?_)
          · replace h := h.1 c12
            refine z_aload_n 2 dX4_readPin_58 rfl rfl ?_
            refine z_callV (As := []) (rest := []) zmX4_next znX4_next zsX4_next (show z_Cl[4]? = some (RX4, TX4, 6) from rfl) zlRX4_42 ⟨Nat.le_of_ble_eq_true rfl, Nat.le_of_ble_eq_true rfl⟩ dX4_readPin_59 hh0.1 rfl rfl z_a0 (Nat.le_of_ble_eq_true rfl) (Nat.le_of_ble_eq_true rfl) ⟨rfl, rfl⟩ (z_CVm h ?_)
            intro w13 h
            show z_Sem mX4_readPin (sh.length, 0) 62 [(2, z_i y10), (1, z_i y3), (0, z_r 139)] [] (sh, w13) Q
            refine z_aload_n 2 dX4_readPin_62 rfl rfl ?_
            refine z_getI (ki := 3) zfRX4_72 dX4_readPin_63 hh0.1 rfl rfl ?_
            refine z_iconst dX4_readPin_66 (by decide) ?_
            refine z_icmp_ne (tgt := 82) dX4_readPin_67 (by decide) (fun c14 => ?_) (fun c14 => ?_)
            · replace h := h.2 c14
              refine z_iconst dX4_readPin_82 (by decide) ?_
              exact z_ret (v := some (z_i 0)) dX4_readPin_83 ⟨rfl, Or.inr (Or.inl ⟨rfl, (by decide)⟩)⟩ rfl h
            · replace h := h.1 c14
              refine z_aload_n 2 dX4_readPin_70 rfl rfl ?_
              refine z_getR (r := 153) zfRX4_28 dX4_readPin_71 hh0.1 rfl ?_
              refine z_iload_n 1 dX4_readPin_74 rfl rfl ?_
              refine z_iload_n 0 dX4_readPin_75 rfl rfl ?_
              obtain ⟨q15, h⟩ := h
              refine z_callV (As := [z_i y3, z_i y10]) (rest := []) zmX2_allows znX2_allows zsX2_allows (show z_Cl[2]? = some (RX2, TX2, 7) from rfl) zlRX4_158 ⟨Nat.le_of_ble_eq_true rfl, Nat.le_of_ble_eq_true rfl⟩ dX4_readPin_76 hh0.2.2.2.1 rfl rfl (z_ai (z_ai z_a0)) (Nat.le_of_ble_eq_true rfl) (Nat.le_of_ble_eq_true rfl) ⟨rfl, rfl⟩ ?_
              refine t_X2_allows hh0.2.2.2 q15 ?_
              show z_Sem mX4_readPin (sh.length, 0) 79 [(2, z_i y10), (1, z_i y3), (0, z_r 139)] [z_i (f_X2_allows w13 153 y3 y10)] (sh, w13) Q
              refine z_if_ne (tgt := 84) dX4_readPin_79 (by decide) (fun c16 => ?_) (fun c16 => ?_)
              · replace h := h.2 c16
                refine z_aload_n 2 dX4_readPin_84 rfl rfl ?_
                refine z_getR (r := 142) zfRX4_21 dX4_readPin_85 hh0.1 rfl ?_
                refine z_getR (r := 145) zfRX4_161 dX4_readPin_88 hh0.2.2.1.1 rfl ?_
                refine z_iload_n 1 dX4_readPin_91 rfl rfl ?_
                refine z_iload_n 0 dX4_readPin_92 rfl rfl ?_
                obtain ⟨q18, h⟩ := h
                refine z_iast dX4_readPin_93 hh0.2.2.1.2.2.2.1 q18 ?_
                refine z_genw (fun w17 hw17 => ?_)
                replace h := h w17 hw17
                refine z_aload_n 2 dX4_readPin_94 rfl rfl ?_
                refine z_getR (r := 153) zfRX4_28 dX4_readPin_95 hh0.1 rfl ?_
                refine z_iload_n 1 dX4_readPin_98 rfl rfl ?_
                refine z_iload_n 0 dX4_readPin_99 rfl rfl ?_
                refine z_callV (As := [z_i y3, z_i y10]) (rest := []) zmX2_addPin znX2_addPin zsX2_addPin (show z_Cl[2]? = some (RX2, TX2, 7) from rfl) zlRX4_165 ⟨Nat.le_of_ble_eq_true rfl, Nat.le_of_ble_eq_true rfl⟩ dX4_readPin_100 hh0.2.2.2.1 rfl rfl (z_ai (z_ai z_a0)) (Nat.le_of_ble_eq_true rfl) (Nat.le_of_ble_eq_true rfl) ⟨rfl, rfl⟩ (z_CVm h ?_)
                intro w19 h
                show z_Sem mX4_readPin (sh.length, 0) 103 [(2, z_i y10), (1, z_i y3), (0, z_r 139)] [] (sh, w19) Q
                refine z_aload_n 2 dX4_readPin_103 rfl rfl ?_
                refine z_callV (As := []) (rest := []) zmX4_next znX4_next zsX4_next (show z_Cl[4]? = some (RX4, TX4, 6) from rfl) zlRX4_42 ⟨Nat.le_of_ble_eq_true rfl, Nat.le_of_ble_eq_true rfl⟩ dX4_readPin_104 hh0.1 rfl rfl z_a0 (Nat.le_of_ble_eq_true rfl) (Nat.le_of_ble_eq_true rfl) ⟨rfl, rfl⟩ (z_CVm h ?_)
                intro w20 h
                show z_Sem mX4_readPin (sh.length, 0) 107 [(2, z_i y10), (1, z_i y3), (0, z_r 139)] [] (sh, w20) Q
                refine z_iconst dX4_readPin_107 (by decide) ?_
                exact z_ret (v := some (z_i 1)) dX4_readPin_108 ⟨rfl, Or.inr (Or.inl ⟨rfl, (by decide)⟩)⟩ rfl h
              · replace h := h.1 c16
                refine z_iconst dX4_readPin_82 (by decide) ?_
                exact z_ret (v := some (z_i 0)) dX4_readPin_83 ⟨rfl, Or.inr (Or.inl ⟨rfl, (by decide)⟩)⟩ rfl h
          · replace h := h.2 c12
            refine z_iconst dX4_readPin_56 (by decide) ?_
            exact z_ret (v := some (z_i 0)) dX4_readPin_57 ⟨rfl, Or.inr (Or.inl ⟨rfl, (by decide)⟩)⟩ rfl h
      · replace h := h.2 c7
        refine z_iconst dX4_readPin_29 (by decide) ?_
        exact z_ret (v := some (z_i 0)) dX4_readPin_30 ⟨rfl, Or.inr (Or.inl ⟨rfl, (by decide)⟩)⟩ rfl h
set_option maxRecDepth 100000 in
theorem t_X4_read {sh : List z_C} {w : Nat → Int → Int} {Q : Option z_V → z_S → Prop}  (hh0 : z_isRea sh 139) (h : z_CV mX3_clear [z_r 142] sh w (fun w1 => ∀ w2 : Nat → Int → Int, w2 = z_W w1 139 4 0 → ∀ w3 : Nat → Int → Int, w3 = z_W w2 139 5 0 → z_CV mX4_next [z_r 139] sh w3 (fun w4 => z_CI mX4_readEnd [z_r 139] sh w4 (fun y6 w5 => ((y6 = 0 → Q (some (z_i 0)) (sh, w5)) ∧ (¬ y6 = 0 → z_Sem mX4_read (sh.length, 0) 32 [(0, z_r 139), (1, z_i 0)] [] (sh, w5) Q)))))) : z_Sem mX4_read (sh.length, 0) 0 [(0, z_r 139)] [] (sh, w) Q := by
  refine z_aload_n 0 dX4_read_0 rfl rfl ?_
  refine z_getR (r := 142) zfRX4_21 dX4_read_1 hh0.1 rfl ?_
  refine z_callV (As := []) (rest := []) zmX3_clear znX3_clear zsX3_clear (show z_Cl[3]? = some (RX3, TX3, 12) from rfl) zlRX4_32 ⟨Nat.le_of_ble_eq_true rfl, Nat.le_of_ble_eq_true rfl⟩ dX4_read_4 hh0.2.2.1.1 rfl rfl z_a0 (Nat.le_of_ble_eq_true rfl) (Nat.le_of_ble_eq_true rfl) ⟨rfl, rfl⟩ (z_CVm h ?_)
  intro w1 h
  show z_Sem mX4_read (sh.length, 0) 7 [(0, z_r 139)] [] (sh, w1) Q
  refine z_aload_n 0 dX4_read_7 rfl rfl ?_
  refine z_iconst dX4_read_8 (by decide) ?_
  refine z_putI (ki := 4) zfRX4_35 dX4_read_9 hh0.1 rfl rfl ?_
  refine z_genw (fun w2 hw2 => ?_)
  replace h := h w2 hw2
  refine z_aload_n 0 dX4_read_12 rfl rfl ?_
  refine z_iconst dX4_read_13 (by decide) ?_
  refine z_putI (ki := 5) zfRX4_39 dX4_read_14 hh0.1 rfl rfl ?_
  refine z_genw (fun w3 hw3 => ?_)
  replace h := h w3 hw3
  refine z_aload_n 0 dX4_read_17 rfl rfl ?_
  refine z_callV (As := []) (rest := []) zmX4_next znX4_next zsX4_next (show z_Cl[4]? = some (RX4, TX4, 6) from rfl) zlRX4_42 ⟨Nat.le_of_ble_eq_true rfl, Nat.le_of_ble_eq_true rfl⟩ dX4_read_18 hh0.1 rfl rfl z_a0 (Nat.le_of_ble_eq_true rfl) (Nat.le_of_ble_eq_true rfl) ⟨rfl, rfl⟩ (z_CVm h ?_)
  intro w4 h
  show z_Sem mX4_read (sh.length, 0) 21 [(0, z_r 139)] [] (sh, w4) Q
  refine z_aload_n 0 dX4_read_21 rfl rfl ?_
  refine z_callV (As := []) (rest := []) zmX4_readEnd znX4_readEnd zsX4_readEnd (show z_Cl[4]? = some (RX4, TX4, 6) from rfl) zlRX4_45 ⟨Nat.le_of_ble_eq_true rfl, Nat.le_of_ble_eq_true rfl⟩ dX4_read_22 hh0.1 rfl rfl z_a0 (Nat.le_of_ble_eq_true rfl) (Nat.le_of_ble_eq_true rfl) ⟨rfl, rfl⟩ (z_CIm h ?_)
  intro y6 w5 h
  show z_Sem mX4_read (sh.length, 0) 25 [(0, z_r 139)] [z_i y6] (sh, w5) Q
  refine z_if_ne (tgt := 30) dX4_read_25 (by decide) (fun c7 => ?_) (fun c7 => ?_)
  · replace h := h.2 c7
    refine z_iconst dX4_read_30 (by decide) ?_
    refine z_istore_n (L' := [(1, z_i 0), (0, z_r 139)]) dX4_read_31 rfl (by decide) rfl ?_
    refine z_sub (L' := [(0, z_r 139), (1, z_i 0)]) [1, 0] rfl ?_
    exact h
  · replace h := h.1 c7
    refine z_iconst dX4_read_28 (by decide) ?_
    exact z_ret (v := some (z_i 0)) dX4_read_29 ⟨rfl, Or.inr (Or.inl ⟨rfl, (by decide)⟩)⟩ rfl h
set_option maxRecDepth 100000 in
theorem t_X4_read_32 {sh : List z_C} {w : Nat → Int → Int} {Q : Option z_V → z_S → Prop} {x1 : Int} (hh0 : z_isRea sh 139) (h : ((10 ≤ x1 → z_CV mX2_build [z_r 153, z_r 142, z_i (-1)] sh w (fun w2 => z_Sem mX4_read (sh.length, 0) 76 [(0, z_r 139), (1, z_i 0)] [] (sh, w2) Q)) ∧ (¬ 10 ≤ x1 → z_CI mX4_isHere [z_r 139, z_r (1001 + 5)] sh w (fun y4 w3 => ((y4 = 0 → z_CV mX2_build [z_r 153, z_r 142, z_i (-1)] sh w3 (fun w6 => z_Sem mX4_read (sh.length, 0) 76 [(0, z_r 139), (1, z_i 0)] [] (sh, w6) Q)) ∧ (¬ y4 = 0 → z_CI mX4_readEvent [z_r 139] sh w3 (fun y8 w7 => ((y8 = 0 → Q (some (z_i 0)) (sh, w7)) ∧ (¬ y8 = 0 → (z_R (x1 + 1)) ∧ z_Sem mX4_read (sh.length, 0) 32 [(0, z_r 139), (1, z_i (x1 + 1))] [] (sh, w7) Q))))))))) : z_Sem mX4_read (sh.length, 0) 32 [(0, z_r 139), (1, z_i x1)] [] (sh, w) Q := by
  refine z_iload_n 1 dX4_read_32 rfl rfl ?_
  refine z_bipush dX4_read_33 (by decide) (by decide) ?_
  refine z_icmp_ge (tgt := 62) dX4_read_35 (by decide) (fun c1 => ?_) (fun c1 => ?_)
  · replace h := h.1 c1
    refine z_aload_n 0 dX4_read_62 rfl rfl ?_
    refine z_getR (r := 153) zfRX4_28 dX4_read_63 hh0.1 rfl ?_
    refine z_aload_n 0 dX4_read_66 rfl rfl ?_
    refine z_getR (r := 142) zfRX4_21 dX4_read_67 hh0.1 rfl ?_
    refine z_iconst dX4_read_70 (by decide) ?_
    refine z_callV (As := [z_r 142, z_i (-1)]) (rest := []) zmX2_build znX2_build zsX2_build (show z_Cl[2]? = some (RX2, TX2, 7) from rfl) zlRX4_58 ⟨Nat.le_of_ble_eq_true rfl, Nat.le_of_ble_eq_true rfl⟩ dX4_read_71 hh0.2.2.2.1 rfl rfl (z_ar (z_ai z_a0)) (Nat.le_of_ble_eq_true rfl) (Nat.le_of_ble_eq_true rfl) ⟨rfl, rfl⟩ (z_CVm h ?_)
    intro w2 h
    show z_Sem mX4_read (sh.length, 0) 74 [(0, z_r 139), (1, z_i x1)] [] (sh, w2) Q
    refine z_iconst dX4_read_74 (by decide) ?_
    refine z_istore_n (L' := [(1, z_i 0), (0, z_r 139)]) dX4_read_75 rfl (by decide) rfl ?_
    refine z_sub (L' := [(0, z_r 139), (1, z_i 0)]) [1, 0] rfl ?_
    exact h
  · replace h := h.2 c1
    refine z_aload_n 0 dX4_read_38 rfl rfl ?_
    refine z_ldcS (i := 5) rfl dX4_read_39 ?_
    refine z_callV (As := [z_r (1001 + 5)]) (rest := []) zmX4_isHere znX4_isHere zsX4_isHere (show z_Cl[4]? = some (RX4, TX4, 6) from rfl) zlRX4_51 ⟨Nat.le_of_ble_eq_true rfl, Nat.le_of_ble_eq_true rfl⟩ dX4_read_41 hh0.1 rfl rfl (z_ar z_a0) (Nat.le_of_ble_eq_true rfl) (Nat.le_of_ble_eq_true rfl) ⟨rfl, rfl⟩ (z_CIm h ?_)
    intro y4 w3 h
    show z_Sem mX4_read (sh.length, 0) 44 [(0, z_r 139), (1, z_i x1)] [z_i y4] (sh, w3) Q
    refine z_if_eq (tgt := 62) dX4_read_44 (by decide) (fun c5 => ?_) (fun c5 => ?_)
    · replace h := h.1 c5
      refine z_aload_n 0 dX4_read_62 rfl rfl ?_
      refine z_getR (r := 153) zfRX4_28 dX4_read_63 hh0.1 rfl ?_
      refine z_aload_n 0 dX4_read_66 rfl rfl ?_
      refine z_getR (r := 142) zfRX4_21 dX4_read_67 hh0.1 rfl ?_
      refine z_iconst dX4_read_70 (by decide) ?_
      refine z_callV (As := [z_r 142, z_i (-1)]) (rest := []) zmX2_build znX2_build zsX2_build (show z_Cl[2]? = some (RX2, TX2, 7) from rfl) zlRX4_58 ⟨Nat.le_of_ble_eq_true rfl, Nat.le_of_ble_eq_true rfl⟩ dX4_read_71 hh0.2.2.2.1 rfl rfl (z_ar (z_ai z_a0)) (Nat.le_of_ble_eq_true rfl) (Nat.le_of_ble_eq_true rfl) ⟨rfl, rfl⟩ (z_CVm h ?_)
      intro w6 h
      show z_Sem mX4_read (sh.length, 0) 74 [(0, z_r 139), (1, z_i x1)] [] (sh, w6) Q
      refine z_iconst dX4_read_74 (by decide) ?_
      refine z_istore_n (L' := [(1, z_i 0), (0, z_r 139)]) dX4_read_75 rfl (by decide) rfl ?_
      refine z_sub (L' := [(0, z_r 139), (1, z_i 0)]) [1, 0] rfl ?_
      exact h
    · replace h := h.2 c5
      refine z_aload_n 0 dX4_read_47 rfl rfl ?_
      refine z_callV (As := []) (rest := []) zmX4_readEvent znX4_readEvent zsX4_readEvent (show z_Cl[4]? = some (RX4, TX4, 6) from rfl) zlRX4_55 ⟨Nat.le_of_ble_eq_true rfl, Nat.le_of_ble_eq_true rfl⟩ dX4_read_48 hh0.1 rfl rfl z_a0 (Nat.le_of_ble_eq_true rfl) (Nat.le_of_ble_eq_true rfl) ⟨rfl, rfl⟩ (z_CIm h ?_)
      intro y8 w7 h
      show z_Sem mX4_read (sh.length, 0) 51 [(0, z_r 139), (1, z_i x1)] [z_i y8] (sh, w7) Q
      refine z_if_ne (tgt := 56) dX4_read_51 (by decide) (fun c9 => ?_) (fun c9 => ?_)
      · replace h := h.2 c9
        obtain ⟨q10, h⟩ := h
        refine z_iinc (L' := [(1, z_i (x1 + 1)), (0, z_r 139)]) 1 dX4_read_56 rfl (by decide) rfl q10 ?_
        refine z_goto (tgt := 32) dX4_read_59 (by decide) ?_
        refine z_sub (L' := [(0, z_r 139), (1, z_i (x1 + 1))]) [1, 0] rfl ?_
        exact h
      · replace h := h.1 c9
        refine z_iconst dX4_read_54 (by decide) ?_
        exact z_ret (v := some (z_i 0)) dX4_read_55 ⟨rfl, Or.inr (Or.inl ⟨rfl, (by decide)⟩)⟩ rfl h
set_option maxRecDepth 100000 in
theorem t_X4_read_76 {sh : List z_C} {w : Nat → Int → Int} {Q : Option z_V → z_S → Prop} {x1 : Int} (hh0 : z_isRea sh 139) (h : ((24 < x1 → z_Sem mX4_read (sh.length, 0) 108 [(0, z_r 139), (1, z_i 0)] [] (sh, w) Q) ∧ (¬ 24 < x1 → z_CI mX4_isHere [z_r 139, z_r (1001 + 6)] sh w (fun y3 w2 => ((y3 = 0 → z_Sem mX4_read (sh.length, 0) 108 [(0, z_r 139), (1, z_i 0)] [] (sh, w2) Q) ∧ (¬ y3 = 0 → z_CI mX4_readGap [z_r 139] sh w2 (fun y6 w5 => ((y6 = 0 → Q (some (z_i 0)) (sh, w5)) ∧ (¬ y6 = 0 → (z_R (x1 + 1)) ∧ z_Sem mX4_read (sh.length, 0) 76 [(0, z_r 139), (1, z_i (x1 + 1))] [] (sh, w5) Q))))))))) : z_Sem mX4_read (sh.length, 0) 76 [(0, z_r 139), (1, z_i x1)] [] (sh, w) Q := by
  refine z_iload_n 1 dX4_read_76 rfl rfl ?_
  refine z_bipush dX4_read_77 (by decide) (by decide) ?_
  refine z_icmp_gt (tgt := 106) dX4_read_79 (by decide) (fun c1 => ?_) (fun c1 => ?_)
  · replace h := h.1 c1
    refine z_iconst dX4_read_106 (by decide) ?_
    refine z_istore_n (L' := [(1, z_i 0), (0, z_r 139)]) dX4_read_107 rfl (by decide) rfl ?_
    refine z_sub (L' := [(0, z_r 139), (1, z_i 0)]) [1, 0] rfl ?_
    exact h
  · replace h := h.2 c1
    refine z_aload_n 0 dX4_read_82 rfl rfl ?_
    refine z_ldcS (i := 6) rfl dX4_read_83 ?_
    refine z_callV (As := [z_r (1001 + 6)]) (rest := []) zmX4_isHere znX4_isHere zsX4_isHere (show z_Cl[4]? = some (RX4, TX4, 6) from rfl) zlRX4_51 ⟨Nat.le_of_ble_eq_true rfl, Nat.le_of_ble_eq_true rfl⟩ dX4_read_85 hh0.1 rfl rfl (z_ar z_a0) (Nat.le_of_ble_eq_true rfl) (Nat.le_of_ble_eq_true rfl) ⟨rfl, rfl⟩ (z_CIm h ?_)
    intro y3 w2 h
    show z_Sem mX4_read (sh.length, 0) 88 [(0, z_r 139), (1, z_i x1)] [z_i y3] (sh, w2) Q
    refine z_if_eq (tgt := 106) dX4_read_88 (by decide) (fun c4 => ?_) (fun c4 => ?_)
    · replace h := h.1 c4
      refine z_iconst dX4_read_106 (by decide) ?_
      refine z_istore_n (L' := [(1, z_i 0), (0, z_r 139)]) dX4_read_107 rfl (by decide) rfl ?_
      refine z_sub (L' := [(0, z_r 139), (1, z_i 0)]) [1, 0] rfl ?_
      exact h
    · replace h := h.2 c4
      refine z_aload_n 0 dX4_read_91 rfl rfl ?_
      refine z_callV (As := []) (rest := []) zmX4_readGap znX4_readGap zsX4_readGap (show z_Cl[4]? = some (RX4, TX4, 6) from rfl) zlRX4_64 ⟨Nat.le_of_ble_eq_true rfl, Nat.le_of_ble_eq_true rfl⟩ dX4_read_92 hh0.1 rfl rfl z_a0 (Nat.le_of_ble_eq_true rfl) (Nat.le_of_ble_eq_true rfl) ⟨rfl, rfl⟩ (z_CIm h ?_)
      intro y6 w5 h
      show z_Sem mX4_read (sh.length, 0) 95 [(0, z_r 139), (1, z_i x1)] [z_i y6] (sh, w5) Q
      refine z_if_ne (tgt := 100) dX4_read_95 (by decide) (fun c7 => ?_) (fun c7 => ?_)
      · replace h := h.2 c7
        obtain ⟨q8, h⟩ := h
        refine z_iinc (L' := [(1, z_i (x1 + 1)), (0, z_r 139)]) 1 dX4_read_100 rfl (by decide) rfl q8 ?_
        refine z_goto (tgt := 76) dX4_read_103 (by decide) ?_
        refine z_sub (L' := [(0, z_r 139), (1, z_i (x1 + 1))]) [1, 0] rfl ?_
        exact h
      · replace h := h.1 c7
        refine z_iconst dX4_read_98 (by decide) ?_
        exact z_ret (v := some (z_i 0)) dX4_read_99 ⟨rfl, Or.inr (Or.inl ⟨rfl, (by decide)⟩)⟩ rfl h
set_option maxRecDepth 100000 in
theorem t_X4_read_108 {sh : List z_C} {w : Nat → Int → Int} {Q : Option z_V → z_S → Prop} {x1 : Int} (hh0 : z_isRea sh 139) (h : ((10 ≤ x1 → Q (some (z_i (if (w 139 3) = 0 then 1 else 0))) (sh, w)) ∧ (¬ 10 ≤ x1 → z_CI mX4_isHere [z_r 139, z_r (1001 + 7)] sh w (fun y7 w6 => ((y7 = 0 → Q (some (z_i (if (w6 139 3) = 0 then 1 else 0))) (sh, w6)) ∧ (¬ y7 = 0 → z_CI mX4_readPin [z_r 139] sh w6 (fun y14 w13 => ((y14 = 0 → Q (some (z_i 0)) (sh, w13)) ∧ (¬ y14 = 0 → (z_R (x1 + 1)) ∧ z_Sem mX4_read (sh.length, 0) 108 [(0, z_r 139), (1, z_i (x1 + 1))] [] (sh, w13) Q))))))))) : z_Sem mX4_read (sh.length, 0) 108 [(0, z_r 139), (1, z_i x1)] [] (sh, w) Q := by
  refine z_iload_n 1 dX4_read_108 rfl rfl ?_
  refine z_bipush dX4_read_109 (by decide) (by decide) ?_
  refine z_icmp_ge (tgt := 138) dX4_read_111 (by decide) (fun c1 => ?_) (fun c1 => ?_)
  · replace h := h.1 c1
    refine z_aload_n 0 dX4_read_138 rfl rfl ?_
    refine z_getI (ki := 3) zfRX4_72 dX4_read_139 hh0.1 rfl rfl ?_
    suffices hJ2 : z_Sem mX4_read (sh.length, 0) 150 [] [z_i (if (w 139 3) = 0 then 1 else 0)] (sh, w) Q by
      refine z_if_ne (tgt := 149) dX4_read_142 (by decide) (fun c3 => ?_) (fun c3 => ?_)
      · skip
        refine z_iconst dX4_read_149 (by decide) ?_
        refine z_sub (L' := []) [] rfl ?_
        simp only [if_neg c3] at hJ2
        exact hJ2
      · skip
        refine z_iconst dX4_read_145 (by decide) ?_
        refine z_goto (tgt := 150) dX4_read_146 (by decide) ?_
        refine z_sub (L' := []) [] rfl ?_
        simp only [if_pos c3] at hJ2
        exact hJ2
    exact z_ret (v := some (z_i (if (w 139 3) = 0 then 1 else 0))) dX4_read_150 ⟨rfl, Or.inr (Or.inl ⟨rfl, (z_it01 (by decide) (by decide))⟩)⟩ rfl h
  · replace h := h.2 c1
    refine z_aload_n 0 dX4_read_114 rfl rfl ?_
    refine z_ldcS (i := 7) rfl dX4_read_115 ?_
    refine z_callV (As := [z_r (1001 + 7)]) (rest := []) zmX4_isHere znX4_isHere zsX4_isHere (show z_Cl[4]? = some (RX4, TX4, 6) from rfl) zlRX4_51 ⟨Nat.le_of_ble_eq_true rfl, Nat.le_of_ble_eq_true rfl⟩ dX4_read_117 hh0.1 rfl rfl (z_ar z_a0) (Nat.le_of_ble_eq_true rfl) (Nat.le_of_ble_eq_true rfl) ⟨rfl, rfl⟩ (z_CIm h ?_)
    intro y7 w6 h
    show z_Sem mX4_read (sh.length, 0) 120 [(0, z_r 139), (1, z_i x1)] [z_i y7] (sh, w6) Q
    refine z_if_eq (tgt := 138) dX4_read_120 (by decide) (fun c8 => ?_) (fun c8 => ?_)
    · replace h := h.1 c8
      refine z_aload_n 0 dX4_read_138 rfl rfl ?_
      refine z_getI (ki := 3) zfRX4_72 dX4_read_139 hh0.1 rfl rfl ?_
      suffices hJ9 : z_Sem mX4_read (sh.length, 0) 150 [] [z_i (if (w6 139 3) = 0 then 1 else 0)] (sh, w6) Q by
        refine z_if_ne (tgt := 149) dX4_read_142 (by decide) (fun c10 => ?_) (fun c10 => ?_)
        · skip
          refine z_iconst dX4_read_149 (by decide) ?_
          refine z_sub (L' := []) [] rfl ?_
          simp only [if_neg c10] at hJ9
          exact hJ9
        · skip
          refine z_iconst dX4_read_145 (by decide) ?_
          refine z_goto (tgt := 150) dX4_read_146 (by decide) ?_
          refine z_sub (L' := []) [] rfl ?_
          simp only [if_pos c10] at hJ9
          exact hJ9
      exact z_ret (v := some (z_i (if (w6 139 3) = 0 then 1 else 0))) dX4_read_150 ⟨rfl, Or.inr (Or.inl ⟨rfl, (z_it01 (by decide) (by decide))⟩)⟩ rfl h
    · replace h := h.2 c8
      refine z_aload_n 0 dX4_read_123 rfl rfl ?_
      refine z_callV (As := []) (rest := []) zmX4_readPin znX4_readPin zsX4_readPin (show z_Cl[4]? = some (RX4, TX4, 6) from rfl) zlRX4_69 ⟨Nat.le_of_ble_eq_true rfl, Nat.le_of_ble_eq_true rfl⟩ dX4_read_124 hh0.1 rfl rfl z_a0 (Nat.le_of_ble_eq_true rfl) (Nat.le_of_ble_eq_true rfl) ⟨rfl, rfl⟩ (z_CIm h ?_)
      intro y14 w13 h
      show z_Sem mX4_read (sh.length, 0) 127 [(0, z_r 139), (1, z_i x1)] [z_i y14] (sh, w13) Q
      refine z_if_ne (tgt := 132) dX4_read_127 (by decide) (fun c15 => ?_) (fun c15 => ?_)
      · replace h := h.2 c15
        obtain ⟨q16, h⟩ := h
        refine z_iinc (L' := [(1, z_i (x1 + 1)), (0, z_r 139)]) 1 dX4_read_132 rfl (by decide) rfl q16 ?_
        refine z_goto (tgt := 108) dX4_read_135 (by decide) ?_
        refine z_sub (L' := [(0, z_r 139), (1, z_i (x1 + 1))]) [1, 0] rfl ?_
        exact h
      · replace h := h.1 c15
        refine z_iconst dX4_read_130 (by decide) ?_
        exact z_ret (v := some (z_i 0)) dX4_read_131 ⟨rfl, Or.inr (Or.inl ⟨rfl, (by decide)⟩)⟩ rfl h
def f_X4_position (w : Nat → Int → Int)  : Int := w 139 4
set_option maxRecDepth 100000 in
theorem t_X4_position {sh : List z_C} {w : Nat → Int → Int} {Q : Option z_V → z_S → Prop}  (hh0 : z_isRea sh 139) (h : Q (some (z_i (f_X4_position w))) (sh, w)) : z_Sem mX4_position (sh.length, 0) 0 [(0, z_r 139)] [] (sh, w) Q := by
  unfold f_X4_position at h
  refine z_aload_n 0 dX4_position_0 rfl rfl ?_
  refine z_getI (ki := 4) zfRX4_35 dX4_position_1 hh0.1 rfl rfl ?_
  exact z_ret (v := some (z_i (w 139 4))) dX4_position_4 ⟨rfl, Or.inl rfl⟩ rfl h
set_option maxRecDepth 100000 in
theorem t_X5_clear {sh : List z_C} {w : Nat → Int → Int} {Q : Option z_V → z_S → Prop}  (hh0 : z_isSlo sh 114) (h : z_Sem mX5_clear (sh.length, 0) 2 [(0, z_r 114), (1, z_i 0)] [] (sh, w) Q) : z_Sem mX5_clear (sh.length, 0) 0 [(0, z_r 114)] [] (sh, w) Q := by
  refine z_iconst dX5_clear_0 (by decide) ?_
  refine z_istore_n (L' := [(1, z_i 0), (0, z_r 114)]) dX5_clear_1 rfl (by decide) rfl ?_
  refine z_sub (L' := [(0, z_r 114), (1, z_i 0)]) [1, 0] rfl ?_
  exact h
set_option maxRecDepth 100000 in
theorem t_X5_clear_2 {sh : List z_C} {w : Nat → Int → Int} {Q : Option z_V → z_S → Prop} {x1 : Int} (hh0 : z_isSlo sh 114) (h : ((2 ≤ x1 → Q none (sh, w)) ∧ (¬ 2 ≤ x1 → ((0 : Int) ≤ x1 ∧ x1 < 2) ∧ ∀ w2 : Nat → Int → Int, w2 = z_W w 116 x1 0 → (z_R (x1 + 1)) ∧ z_Sem mX5_clear (sh.length, 0) 2 [(0, z_r 114), (1, z_i (x1 + 1))] [] (sh, w2) Q))) : z_Sem mX5_clear (sh.length, 0) 2 [(0, z_r 114), (1, z_i x1)] [] (sh, w) Q := by
  refine z_iload_n 1 dX5_clear_2 rfl rfl ?_
  refine z_iconst dX5_clear_3 (by decide) ?_
  refine z_icmp_ge (tgt := 20) dX5_clear_4 (by decide) (fun c1 => ?_) (fun c1 => ?_)
  · replace h := h.1 c1
    exact z_ret (v := none) dX5_clear_20 ⟨rfl, rfl⟩ rfl h
  · replace h := h.2 c1
    refine z_aload_n 0 dX5_clear_7 rfl rfl ?_
    refine z_getR (r := 116) zfRX5_17 dX5_clear_8 hh0.1 rfl ?_
    refine z_iload_n 1 dX5_clear_11 rfl rfl ?_
    refine z_iconst dX5_clear_12 (by decide) ?_
    obtain ⟨q3, h⟩ := h
    refine z_zast dX5_clear_13 hh0.2.1 q3 (by decide) ?_
    refine z_genw (fun w2 hw2 => ?_)
    replace h := h w2 hw2
    obtain ⟨q4, h⟩ := h
    refine z_iinc (L' := [(1, z_i (x1 + 1)), (0, z_r 114)]) 1 dX5_clear_14 rfl (by decide) rfl q4 ?_
    refine z_goto (tgt := 2) dX5_clear_17 (by decide) ?_
    refine z_sub (L' := [(0, z_r 114), (1, z_i (x1 + 1))]) [1, 0] rfl ?_
    exact h
set_option maxRecDepth 100000 in
theorem t_X6_putFourBytes {sh : List z_C} {w : Nat → Int → Int} {Q : Option z_V → z_S → Prop} {x1 : Int} (hh0 : z_isTap sh 140) (h : z_Sem mX6_putFourBytes (sh.length, 0) 3 [(0, z_r 140), (1, z_i x1), (2, z_i 24)] [] (sh, w) Q) : z_Sem mX6_putFourBytes (sh.length, 0) 0 [(0, z_r 140), (1, z_i x1)] [] (sh, w) Q := by
  refine z_bipush dX6_putFourBytes_0 (by decide) (by decide) ?_
  refine z_istore_n (L' := [(2, z_i 24), (0, z_r 140), (1, z_i x1)]) dX6_putFourBytes_2 rfl (by decide) rfl ?_
  refine z_sub (L' := [(0, z_r 140), (1, z_i x1), (2, z_i 24)]) [1, 2, 0] rfl ?_
  exact h
set_option maxRecDepth 100000 in
theorem t_X6_putFourBytes_3 {sh : List z_C} {w : Nat → Int → Int} {Q : Option z_V → z_S → Prop} {x1 : Int} {x2 : Int} (hh0 : z_isTap sh 140) (h : ((x2 < 0 → Q none (sh, w)) ∧ (¬ x2 < 0 → ((900 ≤ (w 140 1) → (z_R (x2 + (-8))) ∧ z_Sem mX6_putFourBytes (sh.length, 0) 3 [(0, z_r 140), (1, z_i x1), (2, z_i (x2 + (-8)))] [] (sh, w) Q) ∧ (¬ 900 ≤ (w 140 1) → ((0 : Int) ≤ (w 140 1) ∧ (w 140 1) < 900) ∧ ∀ w4 : Nat → Int → Int, w4 = z_W w 141 (w 140 1) (z_and (z_ushr x1 x2) 255) → (z_R ((w4 140 1) + 1)) ∧ ∀ w7 : Nat → Int → Int, w7 = z_W w4 140 1 ((w4 140 1) + 1) → (z_R (x2 + (-8))) ∧ z_Sem mX6_putFourBytes (sh.length, 0) 3 [(0, z_r 140), (1, z_i x1), (2, z_i (x2 + (-8)))] [] (sh, w7) Q))))) : z_Sem mX6_putFourBytes (sh.length, 0) 3 [(0, z_r 140), (1, z_i x1), (2, z_i x2)] [] (sh, w) Q := by
  refine z_iload_n 2 dX6_putFourBytes_3 rfl rfl ?_
  refine z_if_lt (tgt := 49) dX6_putFourBytes_4 (by decide) (fun c1 => ?_) (fun c1 => ?_)
  · replace h := h.1 c1
    exact z_ret (v := none) dX6_putFourBytes_49 ⟨rfl, rfl⟩ rfl h
  · replace h := h.2 c1
    refine z_aload_n 0 dX6_putFourBytes_7 rfl rfl ?_
    refine z_getI (ki := 1) zfRX6_15 dX6_putFourBytes_8 hh0.1 rfl rfl ?_
    refine z_sipush dX6_putFourBytes_11 (by decide) (by decide) ?_
    refine z_icmp_ge (tgt := 43) dX6_putFourBytes_14 (by decide) (fun c2 => ?_) (fun c2 => ?_)
    · replace h := h.1 c2
      obtain ⟨q3, h⟩ := h
      refine z_iinc (L' := [(2, z_i (x2 + (-8))), (0, z_r 140), (1, z_i x1)]) 2 dX6_putFourBytes_43 rfl (by decide) rfl q3 ?_
      refine z_goto (tgt := 3) dX6_putFourBytes_46 (by decide) ?_
      refine z_sub (L' := [(0, z_r 140), (1, z_i x1), (2, z_i (x2 + (-8)))]) [1, 2, 0] rfl ?_
      exact h
    · replace h := h.2 c2
      refine z_aload_n 0 dX6_putFourBytes_17 rfl rfl ?_
      refine z_getR (r := 141) zfRX6_9 dX6_putFourBytes_18 hh0.1 rfl ?_
      refine z_aload_n 0 dX6_putFourBytes_21 rfl rfl ?_
      refine z_getI (ki := 1) zfRX6_15 dX6_putFourBytes_22 hh0.1 rfl rfl ?_
      refine z_iload_n 1 dX6_putFourBytes_25 rfl rfl ?_
      refine z_iload_n 2 dX6_putFourBytes_26 rfl rfl ?_
      refine z_iushr dX6_putFourBytes_27 ?_
      refine z_sipush dX6_putFourBytes_28 (by decide) (by decide) ?_
      refine z_iand dX6_putFourBytes_31 ?_
      obtain ⟨q5, h⟩ := h
      refine z_iast dX6_putFourBytes_32 hh0.2 q5 ?_
      refine z_genw (fun w4 hw4 => ?_)
      replace h := h w4 hw4
      refine z_aload_n 0 dX6_putFourBytes_33 rfl rfl ?_
      refine z_dup dX6_putFourBytes_34 rfl ?_
      refine z_getI (ki := 1) zfRX6_15 dX6_putFourBytes_35 hh0.1 rfl rfl ?_
      refine z_iconst dX6_putFourBytes_38 (by decide) ?_
      obtain ⟨q6, h⟩ := h
      refine z_iadd dX6_putFourBytes_39 q6 ?_
      refine z_putI (ki := 1) zfRX6_15 dX6_putFourBytes_40 hh0.1 rfl rfl ?_
      refine z_genw (fun w7 hw7 => ?_)
      replace h := h w7 hw7
      obtain ⟨q8, h⟩ := h
      refine z_iinc (L' := [(2, z_i (x2 + (-8))), (0, z_r 140), (1, z_i x1)]) 2 dX6_putFourBytes_43 rfl (by decide) rfl q8 ?_
      refine z_goto (tgt := 3) dX6_putFourBytes_46 (by decide) ?_
      refine z_sub (L' := [(0, z_r 140), (1, z_i x1), (2, z_i (x2 + (-8)))]) [1, 2, 0] rfl ?_
      exact h
def f_X7_byteAt (w : Nat → Int → Int) (x1 : Int) : Int := if x1 < 0 then -2 else if (w 159 1) ≤ x1 then -2 else w 160 x1
def s_X7_byteAt (w : Nat → Int → Int) (x1 : Int) : Prop := (¬ x1 < 0 → (¬ (w 159 1) ≤ x1 → ((0 : Int) ≤ x1 ∧ x1 < 1024) ∧ True) ∧ True) ∧ True
set_option maxRecDepth 100000 in
theorem t_X7_byteAt {sh : List z_C} {w : Nat → Int → Int} {Q : Option z_V → z_S → Prop} {x1 : Int} (hh0 : z_isTex sh 159) (hs : s_X7_byteAt w x1) (h : Q (some (z_i (f_X7_byteAt w x1))) (sh, w)) : z_Sem mX7_byteAt (sh.length, 0) 0 [(0, z_r 159), (1, z_i x1)] [] (sh, w) Q := by
  unfold f_X7_byteAt at h
  unfold s_X7_byteAt at hs
  refine z_iload_n 1 dX7_byteAt_0 rfl rfl ?_
  obtain ⟨m3, hs⟩ := hs
  suffices hJ1 : z_Sem mX7_byteAt (sh.length, 0) 23 [] [z_i (if x1 < 0 then -2 else if (w 159 1) ≤ x1 then -2 else w 160 x1)] (sh, w) Q by
    refine z_if_lt (tgt := 21) dX7_byteAt_1 (by decide) (fun c2 => ?_) (fun c2 => ?_)
    · skip
      refine z_bipush dX7_byteAt_21 (by decide) (by decide) ?_
      refine z_sub (L' := []) [] rfl ?_
      simp only [if_pos c2] at hJ1
      exact hJ1
    · skip
      have ho5 := m3 c2
      refine z_iload_n 1 dX7_byteAt_4 rfl rfl ?_
      refine z_aload_n 0 dX7_byteAt_5 rfl rfl ?_
      refine z_getI (ki := 1) zfRX7_15 dX7_byteAt_6 hh0.1 rfl rfl ?_
      obtain ⟨m8, ho5⟩ := ho5
      suffices hJ6 : z_Sem mX7_byteAt (sh.length, 0) 23 [] [z_i (if (w 159 1) ≤ x1 then -2 else w 160 x1)] (sh, w) Q by
        refine z_icmp_ge (tgt := 21) dX7_byteAt_9 (by decide) (fun c7 => ?_) (fun c7 => ?_)
        · skip
          refine z_bipush dX7_byteAt_21 (by decide) (by decide) ?_
          refine z_sub (L' := []) [] rfl ?_
          simp only [if_pos c7] at hJ6
          exact hJ6
        · skip
          have ho10 := m8 c7
          refine z_aload_n 0 dX7_byteAt_12 rfl rfl ?_
          refine z_getR (r := 160) zfRX7_9 dX7_byteAt_13 hh0.1 rfl ?_
          refine z_iload_n 1 dX7_byteAt_16 rfl rfl ?_
          obtain ⟨q11, ho10⟩ := ho10
          refine z_iald dX7_byteAt_17 hh0.2 q11 ?_
          refine z_goto (tgt := 23) dX7_byteAt_18 (by decide) ?_
          refine z_sub (L' := []) [] rfl ?_
          simp only [if_neg c7] at hJ6
          exact hJ6
      simp only [if_neg c2] at hJ1
      exact hJ1
  exact z_ret (v := some (z_i (if x1 < 0 then -2 else if (w 159 1) ≤ x1 then -2 else w 160 x1))) dX7_byteAt_23 ⟨rfl, Or.inl rfl⟩ rfl h
set_option maxRecDepth 100000 in
theorem t_X7_put {sh : List z_C} {w : Nat → Int → Int} {Q : Option z_V → z_S → Prop} {x1 : Int} (hh0 : z_isTex sh 159) (h : ((1024 ≤ (w 159 1) → Q none (sh, w)) ∧ (¬ 1024 ≤ (w 159 1) → ((0 : Int) ≤ (w 159 1) ∧ (w 159 1) < 1024) ∧ ∀ w2 : Nat → Int → Int, w2 = z_W w 160 (w 159 1) x1 → (z_R ((w2 159 1) + 1)) ∧ ∀ w5 : Nat → Int → Int, w5 = z_W w2 159 1 ((w2 159 1) + 1) → Q none (sh, w5)))) : z_Sem mX7_put (sh.length, 0) 0 [(0, z_r 159), (1, z_i x1)] [] (sh, w) Q := by
  refine z_aload_n 0 dX7_put_0 rfl rfl ?_
  refine z_getI (ki := 1) zfRX7_15 dX7_put_1 hh0.1 rfl rfl ?_
  refine z_sipush dX7_put_4 (by decide) (by decide) ?_
  refine z_icmp_ge (tgt := 30) dX7_put_7 (by decide) (fun c1 => ?_) (fun c1 => ?_)
  · replace h := h.1 c1
    exact z_ret (v := none) dX7_put_30 ⟨rfl, rfl⟩ rfl h
  · replace h := h.2 c1
    refine z_aload_n 0 dX7_put_10 rfl rfl ?_
    refine z_getR (r := 160) zfRX7_9 dX7_put_11 hh0.1 rfl ?_
    refine z_aload_n 0 dX7_put_14 rfl rfl ?_
    refine z_getI (ki := 1) zfRX7_15 dX7_put_15 hh0.1 rfl rfl ?_
    refine z_iload_n 1 dX7_put_18 rfl rfl ?_
    obtain ⟨q3, h⟩ := h
    refine z_iast dX7_put_19 hh0.2 q3 ?_
    refine z_genw (fun w2 hw2 => ?_)
    replace h := h w2 hw2
    refine z_aload_n 0 dX7_put_20 rfl rfl ?_
    refine z_dup dX7_put_21 rfl ?_
    refine z_getI (ki := 1) zfRX7_15 dX7_put_22 hh0.1 rfl rfl ?_
    refine z_iconst dX7_put_25 (by decide) ?_
    obtain ⟨q4, h⟩ := h
    refine z_iadd dX7_put_26 q4 ?_
    refine z_putI (ki := 1) zfRX7_15 dX7_put_27 hh0.1 rfl rfl ?_
    refine z_genw (fun w5 hw5 => ?_)
    replace h := h w5 hw5
    exact z_ret (v := none) dX7_put_30 ⟨rfl, rfl⟩ rfl h
set_option maxRecDepth 100000 in
theorem t_X7_putName {sh : List z_C} {w : Nat → Int → Int} {Q : Option z_V → z_S → Prop} {o1 : Nat} {x2 : Int} (hh0 : z_isTex sh 159) (hh1 : z_isPla sh o1) (h : z_Sem mX7_putName (sh.length, 0) 2 [(0, z_r 159), (1, z_r o1), (2, z_i x2), (3, z_i 0)] [] (sh, w) Q) : z_Sem mX7_putName (sh.length, 0) 0 [(0, z_r 159), (1, z_r o1), (2, z_i x2)] [] (sh, w) Q := by
  refine z_iconst dX7_putName_0 (by decide) ?_
  refine z_istore_n (L' := [(3, z_i 0), (0, z_r 159), (1, z_r o1), (2, z_i x2)]) dX7_putName_1 rfl (by decide) rfl ?_
  refine z_sub (L' := [(0, z_r 159), (1, z_r o1), (2, z_i x2), (3, z_i 0)]) [1, 2, 3, 0] rfl ?_
  exact h
set_option maxRecDepth 100000 in
theorem t_X7_putName_2 {sh : List z_C} {w : Nat → Int → Int} {Q : Option z_V → z_S → Prop} {o1 : Nat} {x2 : Int} {x3 : Int} (hh0 : z_isTex sh 159) (hh1 : z_isPla sh o1) (h : ((0 : Int) ≤ x2 ∧ x2 < 10) ∧ (((w (o1 + 2) x2) ≤ x3 → Q none (sh, w)) ∧ (¬ (w (o1 + 2) x2) ≤ x3 → (s_X3_letterOf w o1 x2 x3) ∧ z_CV mX7_put [z_r 159, z_i (f_X3_letterOf w o1 x2 x3)] sh w (fun w4 => (z_R (x3 + 1)) ∧ z_Sem mX7_putName (sh.length, 0) 2 [(0, z_r 159), (1, z_r o1), (2, z_i x2), (3, z_i (x3 + 1))] [] (sh, w4) Q)))) : z_Sem mX7_putName (sh.length, 0) 2 [(0, z_r 159), (1, z_r o1), (2, z_i x2), (3, z_i x3)] [] (sh, w) Q := by
  refine z_iload_n 3 dX7_putName_2 rfl rfl ?_
  refine z_aload_n 1 dX7_putName_3 rfl rfl ?_
  refine z_getR (r := (o1 + 2)) zfRX7_94 dX7_putName_4 hh1.1 rfl ?_
  refine z_iload_n 2 dX7_putName_7 rfl rfl ?_
  obtain ⟨q1, h⟩ := h
  refine z_iald dX7_putName_8 hh1.2.2.1 q1 ?_
  refine z_icmp_ge (tgt := 28) dX7_putName_9 (by decide) (fun c2 => ?_) (fun c2 => ?_)
  · replace h := h.1 c2
    exact z_ret (v := none) dX7_putName_28 ⟨rfl, rfl⟩ rfl h
  · replace h := h.2 c2
    refine z_aload_n 0 dX7_putName_12 rfl rfl ?_
    refine z_aload_n 1 dX7_putName_13 rfl rfl ?_
    refine z_iload_n 2 dX7_putName_14 rfl rfl ?_
    refine z_iload_n 3 dX7_putName_15 rfl rfl ?_
    obtain ⟨q3, h⟩ := h
    refine z_callV (As := [z_i x2, z_i x3]) (rest := [z_r 159]) zmX3_letterOf znX3_letterOf zsX3_letterOf (show z_Cl[3]? = some (RX3, TX3, 12) from rfl) zlRX7_97 ⟨Nat.le_of_ble_eq_true rfl, Nat.le_of_ble_eq_true rfl⟩ dX7_putName_16 hh1.1 rfl rfl (z_ai (z_ai z_a0)) (Nat.le_of_ble_eq_true rfl) (Nat.le_of_ble_eq_true rfl) ⟨rfl, rfl⟩ ?_
    refine t_X3_letterOf hh1 q3 ?_
    show z_Sem mX7_putName (sh.length, 0) 19 [(0, z_r 159), (1, z_r o1), (2, z_i x2), (3, z_i x3)] [z_i (f_X3_letterOf w o1 x2 x3), z_r 159] (sh, w) Q
    refine z_callV (As := [z_i (f_X3_letterOf w o1 x2 x3)]) (rest := []) zmX7_put znX7_put zsX7_put (show z_Cl[7]? = some (RX7, TX7, 2) from rfl) zlRX7_28 ⟨Nat.le_of_ble_eq_true rfl, Nat.le_of_ble_eq_true rfl⟩ dX7_putName_19 hh0.1 rfl rfl (z_ai z_a0) (Nat.le_of_ble_eq_true rfl) (Nat.le_of_ble_eq_true rfl) ⟨rfl, rfl⟩ (z_CVm h ?_)
    intro w4 h
    show z_Sem mX7_putName (sh.length, 0) 22 [(0, z_r 159), (1, z_r o1), (2, z_i x2), (3, z_i x3)] [] (sh, w4) Q
    obtain ⟨q5, h⟩ := h
    refine z_iinc (L' := [(3, z_i (x3 + 1)), (0, z_r 159), (1, z_r o1), (2, z_i x2)]) 3 dX7_putName_22 rfl (by decide) rfl q5 ?_
    refine z_goto (tgt := 2) dX7_putName_25 (by decide) ?_
    refine z_sub (L' := [(0, z_r 159), (1, z_r o1), (2, z_i x2), (3, z_i (x3 + 1))]) [1, 2, 3, 0] rfl ?_
    exact h
set_option maxRecDepth 100000 in
theorem t_X7_putNumber {sh : List z_C} {w : Nat → Int → Int} {Q : Option z_V → z_S → Prop} {x1 : Int} (hh0 : z_isTex sh 159) (h : ((x1 < 100 → ((x1 < 10 → (z_R (48 + (x1.tmod 10))) ∧ z_CV mX7_put [z_r 159, z_i (48 + (x1.tmod 10))] sh w (fun w4 => Q none (sh, w4))) ∧ (¬ x1 < 10 → (z_R (48 + ((x1.tdiv 10).tmod 10))) ∧ z_CV mX7_put [z_r 159, z_i (48 + ((x1.tdiv 10).tmod 10))] sh w (fun w6 => (z_R (48 + (x1.tmod 10))) ∧ z_CV mX7_put [z_r 159, z_i (48 + (x1.tmod 10))] sh w6 (fun w8 => Q none (sh, w8)))))) ∧ (¬ x1 < 100 → (z_R (48 + ((x1.tdiv 100).tmod 10))) ∧ z_CV mX7_put [z_r 159, z_i (48 + ((x1.tdiv 100).tmod 10))] sh w (fun w10 => ((x1 < 10 → (z_R (48 + (x1.tmod 10))) ∧ z_CV mX7_put [z_r 159, z_i (48 + (x1.tmod 10))] sh w10 (fun w13 => Q none (sh, w13))) ∧ (¬ x1 < 10 → (z_R (48 + ((x1.tdiv 10).tmod 10))) ∧ z_CV mX7_put [z_r 159, z_i (48 + ((x1.tdiv 10).tmod 10))] sh w10 (fun w15 => (z_R (48 + (x1.tmod 10))) ∧ z_CV mX7_put [z_r 159, z_i (48 + (x1.tmod 10))] sh w15 (fun w17 => Q none (sh, w17))))))))) : z_Sem mX7_putNumber (sh.length, 0) 0 [(0, z_r 159), (1, z_i x1)] [] (sh, w) Q := by
  refine z_iload_n 1 dX7_putNumber_0 rfl rfl ?_
  refine z_bipush dX7_putNumber_1 (by decide) (by decide) ?_
  refine z_icmp_lt (tgt := 20) dX7_putNumber_3 (by decide) (fun c1 => ?_) (fun c1 => ?_)
  · replace h := h.1 c1
    refine z_iload_n 1 dX7_putNumber_20 rfl rfl ?_
    refine z_bipush dX7_putNumber_21 (by decide) (by decide) ?_
    refine z_icmp_lt (tgt := 40) dX7_putNumber_23 (by decide) (fun c2 => ?_) (fun c2 => ?_)
    · replace h := h.1 c2
      refine z_aload_n 0 dX7_putNumber_40 rfl rfl ?_
      refine z_bipush dX7_putNumber_41 (by decide) (by decide) ?_
      refine z_iload_n 1 dX7_putNumber_43 rfl rfl ?_
      refine z_bipush dX7_putNumber_44 (by decide) (by decide) ?_
      refine z_irem dX7_putNumber_46 (by decide) ?_
      obtain ⟨q3, h⟩ := h
      refine z_iadd dX7_putNumber_47 q3 ?_
      refine z_callV (As := [z_i (48 + (x1.tmod 10))]) (rest := []) zmX7_put znX7_put zsX7_put (show z_Cl[7]? = some (RX7, TX7, 2) from rfl) zlRX7_28 ⟨Nat.le_of_ble_eq_true rfl, Nat.le_of_ble_eq_true rfl⟩ dX7_putNumber_48 hh0.1 rfl rfl (z_ai z_a0) (Nat.le_of_ble_eq_true rfl) (Nat.le_of_ble_eq_true rfl) ⟨rfl, rfl⟩ (z_CVm h ?_)
      intro w4 h
      show z_Sem mX7_putNumber (sh.length, 0) 51 [(0, z_r 159), (1, z_i x1)] [] (sh, w4) Q
      exact z_ret (v := none) dX7_putNumber_51 ⟨rfl, rfl⟩ rfl h
    · replace h := h.2 c2
      refine z_aload_n 0 dX7_putNumber_26 rfl rfl ?_
      refine z_bipush dX7_putNumber_27 (by decide) (by decide) ?_
      refine z_iload_n 1 dX7_putNumber_29 rfl rfl ?_
      refine z_bipush dX7_putNumber_30 (by decide) (by decide) ?_
      refine z_idiv dX7_putNumber_32 (by decide) ?_
      refine z_bipush dX7_putNumber_33 (by decide) (by decide) ?_
      refine z_irem dX7_putNumber_35 (by decide) ?_
      obtain ⟨q5, h⟩ := h
      refine z_iadd dX7_putNumber_36 q5 ?_
      refine z_callV (As := [z_i (48 + ((x1.tdiv 10).tmod 10))]) (rest := []) zmX7_put znX7_put zsX7_put (show z_Cl[7]? = some (RX7, TX7, 2) from rfl) zlRX7_28 ⟨Nat.le_of_ble_eq_true rfl, Nat.le_of_ble_eq_true rfl⟩ dX7_putNumber_37 hh0.1 rfl rfl (z_ai z_a0) (Nat.le_of_ble_eq_true rfl) (Nat.le_of_ble_eq_true rfl) ⟨rfl, rfl⟩ (z_CVm h ?_)
      intro w6 h
      show z_Sem mX7_putNumber (sh.length, 0) 40 [(0, z_r 159), (1, z_i x1)] [] (sh, w6) Q
      refine z_aload_n 0 dX7_putNumber_40 rfl rfl ?_
      refine z_bipush dX7_putNumber_41 (by decide) (by decide) ?_
      refine z_iload_n 1 dX7_putNumber_43 rfl rfl ?_
      refine z_bipush dX7_putNumber_44 (by decide) (by decide) ?_
      refine z_irem dX7_putNumber_46 (by decide) ?_
      obtain ⟨q7, h⟩ := h
      refine z_iadd dX7_putNumber_47 q7 ?_
      refine z_callV (As := [z_i (48 + (x1.tmod 10))]) (rest := []) zmX7_put znX7_put zsX7_put (show z_Cl[7]? = some (RX7, TX7, 2) from rfl) zlRX7_28 ⟨Nat.le_of_ble_eq_true rfl, Nat.le_of_ble_eq_true rfl⟩ dX7_putNumber_48 hh0.1 rfl rfl (z_ai z_a0) (Nat.le_of_ble_eq_true rfl) (Nat.le_of_ble_eq_true rfl) ⟨rfl, rfl⟩ (z_CVm h ?_)
      intro w8 h
      show z_Sem mX7_putNumber (sh.length, 0) 51 [(0, z_r 159), (1, z_i x1)] [] (sh, w8) Q
      exact z_ret (v := none) dX7_putNumber_51 ⟨rfl, rfl⟩ rfl h
  · replace h := h.2 c1
    refine z_aload_n 0 dX7_putNumber_6 rfl rfl ?_
    refine z_bipush dX7_putNumber_7 (by decide) (by decide) ?_
    refine z_iload_n 1 dX7_putNumber_9 rfl rfl ?_
    refine z_bipush dX7_putNumber_10 (by decide) (by decide) ?_
    refine z_idiv dX7_putNumber_12 (by decide) ?_
    refine z_bipush dX7_putNumber_13 (by decide) (by decide) ?_
    refine z_irem dX7_putNumber_15 (by decide) ?_
    obtain ⟨q9, h⟩ := h
    refine z_iadd dX7_putNumber_16 q9 ?_
    refine z_callV (As := [z_i (48 + ((x1.tdiv 100).tmod 10))]) (rest := []) zmX7_put znX7_put zsX7_put (show z_Cl[7]? = some (RX7, TX7, 2) from rfl) zlRX7_28 ⟨Nat.le_of_ble_eq_true rfl, Nat.le_of_ble_eq_true rfl⟩ dX7_putNumber_17 hh0.1 rfl rfl (z_ai z_a0) (Nat.le_of_ble_eq_true rfl) (Nat.le_of_ble_eq_true rfl) ⟨rfl, rfl⟩ (z_CVm h ?_)
    intro w10 h
    show z_Sem mX7_putNumber (sh.length, 0) 20 [(0, z_r 159), (1, z_i x1)] [] (sh, w10) Q
    refine z_iload_n 1 dX7_putNumber_20 rfl rfl ?_
    refine z_bipush dX7_putNumber_21 (by decide) (by decide) ?_
    refine z_icmp_lt (tgt := 40) dX7_putNumber_23 (by decide) (fun c11 => ?_) (fun c11 => ?_)
    · replace h := h.1 c11
      refine z_aload_n 0 dX7_putNumber_40 rfl rfl ?_
      refine z_bipush dX7_putNumber_41 (by decide) (by decide) ?_
      refine z_iload_n 1 dX7_putNumber_43 rfl rfl ?_
      refine z_bipush dX7_putNumber_44 (by decide) (by decide) ?_
      refine z_irem dX7_putNumber_46 (by decide) ?_
      obtain ⟨q12, h⟩ := h
      refine z_iadd dX7_putNumber_47 q12 ?_
      refine z_callV (As := [z_i (48 + (x1.tmod 10))]) (rest := []) zmX7_put znX7_put zsX7_put (show z_Cl[7]? = some (RX7, TX7, 2) from rfl) zlRX7_28 ⟨Nat.le_of_ble_eq_true rfl, Nat.le_of_ble_eq_true rfl⟩ dX7_putNumber_48 hh0.1 rfl rfl (z_ai z_a0) (Nat.le_of_ble_eq_true rfl) (Nat.le_of_ble_eq_true rfl) ⟨rfl, rfl⟩ (z_CVm h ?_)
      intro w13 h
      show z_Sem mX7_putNumber (sh.length, 0) 51 [(0, z_r 159), (1, z_i x1)] [] (sh, w13) Q
      exact z_ret (v := none) dX7_putNumber_51 ⟨rfl, rfl⟩ rfl h
    · replace h := h.2 c11
      refine z_aload_n 0 dX7_putNumber_26 rfl rfl ?_
      refine z_bipush dX7_putNumber_27 (by decide) (by decide) ?_
      refine z_iload_n 1 dX7_putNumber_29 rfl rfl ?_
      refine z_bipush dX7_putNumber_30 (by decide) (by decide) ?_
      refine z_idiv dX7_putNumber_32 (by decide) ?_
      refine z_bipush dX7_putNumber_33 (by decide) (by decide) ?_
      refine z_irem dX7_putNumber_35 (by decide) ?_
      obtain ⟨q14, h⟩ := h
      refine z_iadd dX7_putNumber_36 q14 ?_
      refine z_callV (As := [z_i (48 + ((x1.tdiv 10).tmod 10))]) (rest := []) zmX7_put znX7_put zsX7_put (show z_Cl[7]? = some (RX7, TX7, 2) from rfl) zlRX7_28 ⟨Nat.le_of_ble_eq_true rfl, Nat.le_of_ble_eq_true rfl⟩ dX7_putNumber_37 hh0.1 rfl rfl (z_ai z_a0) (Nat.le_of_ble_eq_true rfl) (Nat.le_of_ble_eq_true rfl) ⟨rfl, rfl⟩ (z_CVm h ?_)
      intro w15 h
      show z_Sem mX7_putNumber (sh.length, 0) 40 [(0, z_r 159), (1, z_i x1)] [] (sh, w15) Q
      refine z_aload_n 0 dX7_putNumber_40 rfl rfl ?_
      refine z_bipush dX7_putNumber_41 (by decide) (by decide) ?_
      refine z_iload_n 1 dX7_putNumber_43 rfl rfl ?_
      refine z_bipush dX7_putNumber_44 (by decide) (by decide) ?_
      refine z_irem dX7_putNumber_46 (by decide) ?_
      obtain ⟨q16, h⟩ := h
      refine z_iadd dX7_putNumber_47 q16 ?_
      refine z_callV (As := [z_i (48 + (x1.tmod 10))]) (rest := []) zmX7_put znX7_put zsX7_put (show z_Cl[7]? = some (RX7, TX7, 2) from rfl) zlRX7_28 ⟨Nat.le_of_ble_eq_true rfl, Nat.le_of_ble_eq_true rfl⟩ dX7_putNumber_48 hh0.1 rfl rfl (z_ai z_a0) (Nat.le_of_ble_eq_true rfl) (Nat.le_of_ble_eq_true rfl) ⟨rfl, rfl⟩ (z_CVm h ?_)
      intro w17 h
      show z_Sem mX7_putNumber (sh.length, 0) 51 [(0, z_r 159), (1, z_i x1)] [] (sh, w17) Q
      exact z_ret (v := none) dX7_putNumber_51 ⟨rfl, rfl⟩ rfl h
set_option maxRecDepth 100000 in
theorem t_X7_writeList {sh : List z_C} {w : Nat → Int → Int} {Q : Option z_V → z_S → Prop} {o1 : Nat} {o2 : Nat} (hh0 : z_isTex sh 159) (hh1 : z_isPla sh o1) (hh2 : z_isNet sh o2) (h : ∀ w1 : Nat → Int → Int, w1 = z_W w 159 1 0 → z_Sem mX7_writeList (sh.length, 0) 7 [(0, z_r 159), (1, z_r o1), (2, z_r o2), (3, z_i 0)] [] (sh, w1) Q) : z_Sem mX7_writeList (sh.length, 0) 0 [(0, z_r 159), (1, z_r o1), (2, z_r o2)] [] (sh, w) Q := by
  refine z_aload_n 0 dX7_writeList_0 rfl rfl ?_
  refine z_iconst dX7_writeList_1 (by decide) ?_
  refine z_putI (ki := 1) zfRX7_15 dX7_writeList_2 hh0.1 rfl rfl ?_
  refine z_genw (fun w1 hw1 => ?_)
  replace h := h w1 hw1
  refine z_iconst dX7_writeList_5 (by decide) ?_
  refine z_istore_n (L' := [(3, z_i 0), (0, z_r 159), (1, z_r o1), (2, z_r o2)]) dX7_writeList_6 rfl (by decide) rfl ?_
  refine z_sub (L' := [(0, z_r 159), (1, z_r o1), (2, z_r o2), (3, z_i 0)]) [1, 2, 3, 0] rfl ?_
  exact h
set_option maxRecDepth 100000 in
theorem t_X7_writeList_7 {sh : List z_C} {w : Nat → Int → Int} {Q : Option z_V → z_S → Prop} {o1 : Nat} {o2 : Nat} {x3 : Int} (hh0 : z_isTex sh 159) (hh1 : z_isPla sh o1) (hh2 : z_isNet sh o2) (h : (((w o1 10) ≤ x3 → Q none (sh, w)) ∧ (¬ (w o1 10) ≤ x3 → z_CV mX7_putName [z_r 159, z_r o1, z_i x3] sh w (fun w2 => z_CV mX7_put [z_r 159, z_i 32] sh w2 (fun w3 => (s_X2_earliest w3 o2 x3) ∧ z_CV mX7_putNumber [z_r 159, z_i (f_X2_earliest w3 o2 x3)] sh w3 (fun w5 => (s_X2_latest w5 o2 x3) ∧ (s_X2_earliest w5 o2 x3) ∧ (((f_X2_latest w5 o2 x3) = (f_X2_earliest w5 o2 x3) → (s_X3_isPinned w5 o1 x3) ∧ (((f_X3_isPinned w5 o1 x3) = 0 → z_CV mX7_put [z_r 159, z_i 10] sh w5 (fun w11 => (z_R (x3 + 1)) ∧ z_Sem mX7_writeList (sh.length, 0) 7 [(0, z_r 159), (1, z_r o1), (2, z_r o2), (3, z_i (x3 + 1))] [] (sh, w11) Q)) ∧ (¬ (f_X3_isPinned w5 o1 x3) = 0 → z_CV mX7_put [z_r 159, z_i 33] sh w5 (fun w13 => z_CV mX7_put [z_r 159, z_i 10] sh w13 (fun w14 => (z_R (x3 + 1)) ∧ z_Sem mX7_writeList (sh.length, 0) 7 [(0, z_r 159), (1, z_r o1), (2, z_r o2), (3, z_i (x3 + 1))] [] (sh, w14) Q))))) ∧ (¬ (f_X2_latest w5 o2 x3) = (f_X2_earliest w5 o2 x3) → z_CV mX7_put [z_r 159, z_i 45] sh w5 (fun w16 => (s_X2_latest w16 o2 x3) ∧ z_CV mX7_putNumber [z_r 159, z_i (f_X2_latest w16 o2 x3)] sh w16 (fun w18 => (s_X3_isPinned w18 o1 x3) ∧ (((f_X3_isPinned w18 o1 x3) = 0 → z_CV mX7_put [z_r 159, z_i 10] sh w18 (fun w21 => (z_R (x3 + 1)) ∧ z_Sem mX7_writeList (sh.length, 0) 7 [(0, z_r 159), (1, z_r o1), (2, z_r o2), (3, z_i (x3 + 1))] [] (sh, w21) Q)) ∧ (¬ (f_X3_isPinned w18 o1 x3) = 0 → z_CV mX7_put [z_r 159, z_i 33] sh w18 (fun w23 => z_CV mX7_put [z_r 159, z_i 10] sh w23 (fun w24 => (z_R (x3 + 1)) ∧ z_Sem mX7_writeList (sh.length, 0) 7 [(0, z_r 159), (1, z_r o1), (2, z_r o2), (3, z_i (x3 + 1))] [] (sh, w24) Q)))))))))))))) : z_Sem mX7_writeList (sh.length, 0) 7 [(0, z_r 159), (1, z_r o1), (2, z_r o2), (3, z_i x3)] [] (sh, w) Q := by
  refine z_iload_n 3 dX7_writeList_7 rfl rfl ?_
  refine z_aload_n 1 dX7_writeList_8 rfl rfl ?_
  refine z_getI (ki := 10) zfRX7_19 dX7_writeList_9 hh1.1 rfl rfl ?_
  refine z_icmp_ge (tgt := 90) dX7_writeList_12 (by decide) (fun c1 => ?_) (fun c1 => ?_)
  · replace h := h.1 c1
    exact z_ret (v := none) dX7_writeList_90 ⟨rfl, rfl⟩ rfl h
  · replace h := h.2 c1
    refine z_aload_n 0 dX7_writeList_15 rfl rfl ?_
    refine z_aload_n 1 dX7_writeList_16 rfl rfl ?_
    refine z_iload_n 3 dX7_writeList_17 rfl rfl ?_
    refine z_callV (As := [z_r o1, z_i x3]) (rest := []) zmX7_putName znX7_putName zsX7_putName (show z_Cl[7]? = some (RX7, TX7, 2) from rfl) zlRX7_24 ⟨Nat.le_of_ble_eq_true rfl, Nat.le_of_ble_eq_true rfl⟩ dX7_writeList_18 hh0.1 rfl rfl (z_ar (z_ai z_a0)) (Nat.le_of_ble_eq_true rfl) (Nat.le_of_ble_eq_true rfl) ⟨rfl, rfl⟩ (z_CVm h ?_)
    intro w2 h
    show z_Sem mX7_writeList (sh.length, 0) 21 [(0, z_r 159), (1, z_r o1), (2, z_r o2), (3, z_i x3)] [] (sh, w2) Q
    refine z_aload_n 0 dX7_writeList_21 rfl rfl ?_
    refine z_bipush dX7_writeList_22 (by decide) (by decide) ?_
    refine z_callV (As := [z_i 32]) (rest := []) zmX7_put znX7_put zsX7_put (show z_Cl[7]? = some (RX7, TX7, 2) from rfl) zlRX7_28 ⟨Nat.le_of_ble_eq_true rfl, Nat.le_of_ble_eq_true rfl⟩ dX7_writeList_24 hh0.1 rfl rfl (z_ai z_a0) (Nat.le_of_ble_eq_true rfl) (Nat.le_of_ble_eq_true rfl) ⟨rfl, rfl⟩ (z_CVm h ?_)
    intro w3 h
    show z_Sem mX7_writeList (sh.length, 0) 27 [(0, z_r 159), (1, z_r o1), (2, z_r o2), (3, z_i x3)] [] (sh, w3) Q
    refine z_aload_n 0 dX7_writeList_27 rfl rfl ?_
    refine z_aload_n 2 dX7_writeList_28 rfl rfl ?_
    refine z_iload_n 3 dX7_writeList_29 rfl rfl ?_
    obtain ⟨q4, h⟩ := h
    refine z_callV (As := [z_i x3]) (rest := [z_r 159]) zmX2_earliest znX2_earliest zsX2_earliest (show z_Cl[2]? = some (RX2, TX2, 7) from rfl) zlRX7_32 ⟨Nat.le_of_ble_eq_true rfl, Nat.le_of_ble_eq_true rfl⟩ dX7_writeList_30 hh2.1 rfl rfl (z_ai z_a0) (Nat.le_of_ble_eq_true rfl) (Nat.le_of_ble_eq_true rfl) ⟨rfl, rfl⟩ ?_
    refine t_X2_earliest hh2 q4 ?_
    show z_Sem mX7_writeList (sh.length, 0) 33 [(0, z_r 159), (1, z_r o1), (2, z_r o2), (3, z_i x3)] [z_i (f_X2_earliest w3 o2 x3), z_r 159] (sh, w3) Q
    refine z_callV (As := [z_i (f_X2_earliest w3 o2 x3)]) (rest := []) zmX7_putNumber znX7_putNumber zsX7_putNumber (show z_Cl[7]? = some (RX7, TX7, 2) from rfl) zlRX7_38 ⟨Nat.le_of_ble_eq_true rfl, Nat.le_of_ble_eq_true rfl⟩ dX7_writeList_33 hh0.1 rfl rfl (z_ai z_a0) (Nat.le_of_ble_eq_true rfl) (Nat.le_of_ble_eq_true rfl) ⟨rfl, rfl⟩ (z_CVm h ?_)
    intro w5 h
    show z_Sem mX7_writeList (sh.length, 0) 36 [(0, z_r 159), (1, z_r o1), (2, z_r o2), (3, z_i x3)] [] (sh, w5) Q
    refine z_aload_n 2 dX7_writeList_36 rfl rfl ?_
    refine z_iload_n 3 dX7_writeList_37 rfl rfl ?_
    obtain ⟨q6, h⟩ := h
    refine z_callV (As := [z_i x3]) (rest := []) zmX2_latest znX2_latest zsX2_latest (show z_Cl[2]? = some (RX2, TX2, 7) from rfl) zlRX7_41 ⟨Nat.le_of_ble_eq_true rfl, Nat.le_of_ble_eq_true rfl⟩ dX7_writeList_38 hh2.1 rfl rfl (z_ai z_a0) (Nat.le_of_ble_eq_true rfl) (Nat.le_of_ble_eq_true rfl) ⟨rfl, rfl⟩ ?_
    refine t_X2_latest hh2 q6 ?_
    show z_Sem mX7_writeList (sh.length, 0) 41 [(0, z_r 159), (1, z_r o1), (2, z_r o2), (3, z_i x3)] [z_i (f_X2_latest w5 o2 x3)] (sh, w5) Q
    refine z_aload_n 2 dX7_writeList_41 rfl rfl ?_
    refine z_iload_n 3 dX7_writeList_42 rfl rfl ?_
    obtain ⟨q7, h⟩ := h
    refine z_callV (As := [z_i x3]) (rest := [z_i (f_X2_latest w5 o2 x3)]) zmX2_earliest znX2_earliest zsX2_earliest (show z_Cl[2]? = some (RX2, TX2, 7) from rfl) zlRX7_32 ⟨Nat.le_of_ble_eq_true rfl, Nat.le_of_ble_eq_true rfl⟩ dX7_writeList_43 hh2.1 rfl rfl (z_ai z_a0) (Nat.le_of_ble_eq_true rfl) (Nat.le_of_ble_eq_true rfl) ⟨rfl, rfl⟩ ?_
    refine t_X2_earliest hh2 q7 ?_
    show z_Sem mX7_writeList (sh.length, 0) 46 [(0, z_r 159), (1, z_r o1), (2, z_r o2), (3, z_i x3)] [z_i (f_X2_earliest w5 o2 x3), z_i (f_X2_latest w5 o2 x3)] (sh, w5) Q
    refine z_icmp_eq (tgt := 64) dX7_writeList_46 (by decide) (fun c8 => ?_) (fun c8 => ?_)
    · replace h := h.1 c8
      refine z_aload_n 1 dX7_writeList_64 rfl rfl ?_
      refine z_iload_n 3 dX7_writeList_65 rfl rfl ?_
      obtain ⟨q9, h⟩ := h
      refine z_callV (As := [z_i x3]) (rest := []) zmX3_isPinned znX3_isPinned zsX3_isPinned (show z_Cl[3]? = some (RX3, TX3, 12) from rfl) zlRX7_44 ⟨Nat.le_of_ble_eq_true rfl, Nat.le_of_ble_eq_true rfl⟩ dX7_writeList_66 hh1.1 rfl rfl (z_ai z_a0) (Nat.le_of_ble_eq_true rfl) (Nat.le_of_ble_eq_true rfl) ⟨rfl, rfl⟩ ?_
      refine t_X3_isPinned hh1 q9 ?_
      show z_Sem mX7_writeList (sh.length, 0) 69 [(0, z_r 159), (1, z_r o1), (2, z_r o2), (3, z_i x3)] [z_i (f_X3_isPinned w5 o1 x3)] (sh, w5) Q
      refine z_if_eq (tgt := 78) dX7_writeList_69 (by decide) (fun c10 => ?_) (fun c10 => ?_)
      · replace h := h.1 c10
        refine z_aload_n 0 dX7_writeList_78 rfl rfl ?_
        refine z_bipush dX7_writeList_79 (by decide) (by decide) ?_
        refine z_callV (As := [z_i 10]) (rest := []) zmX7_put znX7_put zsX7_put (show z_Cl[7]? = some (RX7, TX7, 2) from rfl) zlRX7_28 ⟨Nat.le_of_ble_eq_true rfl, Nat.le_of_ble_eq_true rfl⟩ dX7_writeList_81 hh0.1 rfl rfl (z_ai z_a0) (Nat.le_of_ble_eq_true rfl) (Nat.le_of_ble_eq_true rfl) ⟨rfl, rfl⟩ (z_CVm h ?_)
        intro w11 h
        show z_Sem mX7_writeList (sh.length, 0) 84 [(0, z_r 159), (1, z_r o1), (2, z_r o2), (3, z_i x3)] [] (sh, w11) Q
        obtain ⟨q12, h⟩ := h
        refine z_iinc (L' := [(3, z_i (x3 + 1)), (0, z_r 159), (1, z_r o1), (2, z_r o2)]) 3 dX7_writeList_84 rfl (by decide) rfl q12 ?_
        refine z_goto (tgt := 7) dX7_writeList_87 (by decide) ?_
        refine z_sub (L' := [(0, z_r 159), (1, z_r o1), (2, z_r o2), (3, z_i (x3 + 1))]) [1, 2, 3, 0] rfl ?_
        exact h
      · replace h := h.2 c10
        refine z_aload_n 0 dX7_writeList_72 rfl rfl ?_
        refine z_bipush dX7_writeList_73 (by decide) (by decide) ?_
        refine z_callV (As := [z_i 33]) (rest := []) zmX7_put znX7_put zsX7_put (show z_Cl[7]? = some (RX7, TX7, 2) from rfl) zlRX7_28 ⟨Nat.le_of_ble_eq_true rfl, Nat.le_of_ble_eq_true rfl⟩ dX7_writeList_75 hh0.1 rfl rfl (z_ai z_a0) (Nat.le_of_ble_eq_true rfl) (Nat.le_of_ble_eq_true rfl) ⟨rfl, rfl⟩ (z_CVm h ?_)
        intro w13 h
        show z_Sem mX7_writeList (sh.length, 0) 78 [(0, z_r 159), (1, z_r o1), (2, z_r o2), (3, z_i x3)] [] (sh, w13) Q
        refine z_aload_n 0 dX7_writeList_78 rfl rfl ?_
        refine z_bipush dX7_writeList_79 (by decide) (by decide) ?_
        refine z_callV (As := [z_i 10]) (rest := []) zmX7_put znX7_put zsX7_put (show z_Cl[7]? = some (RX7, TX7, 2) from rfl) zlRX7_28 ⟨Nat.le_of_ble_eq_true rfl, Nat.le_of_ble_eq_true rfl⟩ dX7_writeList_81 hh0.1 rfl rfl (z_ai z_a0) (Nat.le_of_ble_eq_true rfl) (Nat.le_of_ble_eq_true rfl) ⟨rfl, rfl⟩ (z_CVm h ?_)
        intro w14 h
        show z_Sem mX7_writeList (sh.length, 0) 84 [(0, z_r 159), (1, z_r o1), (2, z_r o2), (3, z_i x3)] [] (sh, w14) Q
        obtain ⟨q15, h⟩ := h
        refine z_iinc (L' := [(3, z_i (x3 + 1)), (0, z_r 159), (1, z_r o1), (2, z_r o2)]) 3 dX7_writeList_84 rfl (by decide) rfl q15 ?_
        refine z_goto (tgt := 7) dX7_writeList_87 (by decide) ?_
        refine z_sub (L' := [(0, z_r 159), (1, z_r o1), (2, z_r o2), (3, z_i (x3 + 1))]) [1, 2, 3, 0] rfl ?_
        exact h
    · replace h := h.2 c8
      refine z_aload_n 0 dX7_writeList_49 rfl rfl ?_
      refine z_bipush dX7_writeList_50 (by decide) (by decide) ?_
      refine z_callV (As := [z_i 45]) (rest := []) zmX7_put znX7_put zsX7_put (show z_Cl[7]? = some (RX7, TX7, 2) from rfl) zlRX7_28 ⟨Nat.le_of_ble_eq_true rfl, Nat.le_of_ble_eq_true rfl⟩ dX7_writeList_52 hh0.1 rfl rfl (z_ai z_a0) (Nat.le_of_ble_eq_true rfl) (Nat.le_of_ble_eq_true rfl) ⟨rfl, rfl⟩ (z_CVm h ?_)
      intro w16 h
      show z_Sem mX7_writeList (sh.length, 0) 55 [(0, z_r 159), (1, z_r o1), (2, z_r o2), (3, z_i x3)] [] (sh, w16) Q
      refine z_aload_n 0 dX7_writeList_55 rfl rfl ?_
      refine z_aload_n 2 dX7_writeList_56 rfl rfl ?_
      refine z_iload_n 3 dX7_writeList_57 rfl rfl ?_
      obtain ⟨q17, h⟩ := h
      refine z_callV (As := [z_i x3]) (rest := [z_r 159]) zmX2_latest znX2_latest zsX2_latest (show z_Cl[2]? = some (RX2, TX2, 7) from rfl) zlRX7_41 ⟨Nat.le_of_ble_eq_true rfl, Nat.le_of_ble_eq_true rfl⟩ dX7_writeList_58 hh2.1 rfl rfl (z_ai z_a0) (Nat.le_of_ble_eq_true rfl) (Nat.le_of_ble_eq_true rfl) ⟨rfl, rfl⟩ ?_
      refine t_X2_latest hh2 q17 ?_
      show z_Sem mX7_writeList (sh.length, 0) 61 [(0, z_r 159), (1, z_r o1), (2, z_r o2), (3, z_i x3)] [z_i (f_X2_latest w16 o2 x3), z_r 159] (sh, w16) Q
      refine z_callV (As := [z_i (f_X2_latest w16 o2 x3)]) (rest := []) zmX7_putNumber znX7_putNumber zsX7_putNumber (show z_Cl[7]? = some (RX7, TX7, 2) from rfl) zlRX7_38 ⟨Nat.le_of_ble_eq_true rfl, Nat.le_of_ble_eq_true rfl⟩ dX7_writeList_61 hh0.1 rfl rfl (z_ai z_a0) (Nat.le_of_ble_eq_true rfl) (Nat.le_of_ble_eq_true rfl) ⟨rfl, rfl⟩ (z_CVm h ?_)
      intro w18 h
      show z_Sem mX7_writeList (sh.length, 0) 64 [(0, z_r 159), (1, z_r o1), (2, z_r o2), (3, z_i x3)] [] (sh, w18) Q
      refine z_aload_n 1 dX7_writeList_64 rfl rfl ?_
      refine z_iload_n 3 dX7_writeList_65 rfl rfl ?_
      obtain ⟨q19, h⟩ := h
      refine z_callV (As := [z_i x3]) (rest := []) zmX3_isPinned znX3_isPinned zsX3_isPinned (show z_Cl[3]? = some (RX3, TX3, 12) from rfl) zlRX7_44 ⟨Nat.le_of_ble_eq_true rfl, Nat.le_of_ble_eq_true rfl⟩ dX7_writeList_66 hh1.1 rfl rfl (z_ai z_a0) (Nat.le_of_ble_eq_true rfl) (Nat.le_of_ble_eq_true rfl) ⟨rfl, rfl⟩ ?_
      refine t_X3_isPinned hh1 q19 ?_
      show z_Sem mX7_writeList (sh.length, 0) 69 [(0, z_r 159), (1, z_r o1), (2, z_r o2), (3, z_i x3)] [z_i (f_X3_isPinned w18 o1 x3)] (sh, w18) Q
      refine z_if_eq (tgt := 78) dX7_writeList_69 (by decide) (fun c20 => ?_) (fun c20 => ?_)
      · replace h := h.1 c20
        refine z_aload_n 0 dX7_writeList_78 rfl rfl ?_
        refine z_bipush dX7_writeList_79 (by decide) (by decide) ?_
        refine z_callV (As := [z_i 10]) (rest := []) zmX7_put znX7_put zsX7_put (show z_Cl[7]? = some (RX7, TX7, 2) from rfl) zlRX7_28 ⟨Nat.le_of_ble_eq_true rfl, Nat.le_of_ble_eq_true rfl⟩ dX7_writeList_81 hh0.1 rfl rfl (z_ai z_a0) (Nat.le_of_ble_eq_true rfl) (Nat.le_of_ble_eq_true rfl) ⟨rfl, rfl⟩ (z_CVm h ?_)
        intro w21 h
        show z_Sem mX7_writeList (sh.length, 0) 84 [(0, z_r 159), (1, z_r o1), (2, z_r o2), (3, z_i x3)] [] (sh, w21) Q
        obtain ⟨q22, h⟩ := h
        refine z_iinc (L' := [(3, z_i (x3 + 1)), (0, z_r 159), (1, z_r o1), (2, z_r o2)]) 3 dX7_writeList_84 rfl (by decide) rfl q22 ?_
        refine z_goto (tgt := 7) dX7_writeList_87 (by decide) ?_
        refine z_sub (L' := [(0, z_r 159), (1, z_r o1), (2, z_r o2), (3, z_i (x3 + 1))]) [1, 2, 3, 0] rfl ?_
        exact h
      · replace h := h.2 c20
        refine z_aload_n 0 dX7_writeList_72 rfl rfl ?_
        refine z_bipush dX7_writeList_73 (by decide) (by decide) ?_
        refine z_callV (As := [z_i 33]) (rest := []) zmX7_put znX7_put zsX7_put (show z_Cl[7]? = some (RX7, TX7, 2) from rfl) zlRX7_28 ⟨Nat.le_of_ble_eq_true rfl, Nat.le_of_ble_eq_true rfl⟩ dX7_writeList_75 hh0.1 rfl rfl (z_ai z_a0) (Nat.le_of_ble_eq_true rfl) (Nat.le_of_ble_eq_true rfl) ⟨rfl, rfl⟩ (z_CVm h ?_)
        intro w23 h
        show z_Sem mX7_writeList (sh.length, 0) 78 [(0, z_r 159), (1, z_r o1), (2, z_r o2), (3, z_i x3)] [] (sh, w23) Q
        refine z_aload_n 0 dX7_writeList_78 rfl rfl ?_
        refine z_bipush dX7_writeList_79 (by decide) (by decide) ?_
        refine z_callV (As := [z_i 10]) (rest := []) zmX7_put znX7_put zsX7_put (show z_Cl[7]? = some (RX7, TX7, 2) from rfl) zlRX7_28 ⟨Nat.le_of_ble_eq_true rfl, Nat.le_of_ble_eq_true rfl⟩ dX7_writeList_81 hh0.1 rfl rfl (z_ai z_a0) (Nat.le_of_ble_eq_true rfl) (Nat.le_of_ble_eq_true rfl) ⟨rfl, rfl⟩ (z_CVm h ?_)
        intro w24 h
        show z_Sem mX7_writeList (sh.length, 0) 84 [(0, z_r 159), (1, z_r o1), (2, z_r o2), (3, z_i x3)] [] (sh, w24) Q
        obtain ⟨q25, h⟩ := h
        refine z_iinc (L' := [(3, z_i (x3 + 1)), (0, z_r 159), (1, z_r o1), (2, z_r o2)]) 3 dX7_writeList_84 rfl (by decide) rfl q25 ?_
        refine z_goto (tgt := 7) dX7_writeList_87 (by decide) ?_
        refine z_sub (L' := [(0, z_r 159), (1, z_r o1), (2, z_r o2), (3, z_i (x3 + 1))]) [1, 2, 3, 0] rfl ?_
        exact h
set_option maxRecDepth 100000 in
theorem t_X7_putWord {sh : List z_C} {w : Nat → Int → Int} {Q : Option z_V → z_S → Prop} {s1 : Nat} (hh0 : z_isTex sh 159) (hs1 : s1 < 35) (h : z_Sem mX7_putWord (sh.length, 0) 2 [(0, z_r 159), (1, z_r (1001 + s1)), (2, z_i 0)] [] (sh, w) Q) : z_Sem mX7_putWord (sh.length, 0) 0 [(0, z_r 159), (1, z_r (1001 + s1))] [] (sh, w) Q := by
  refine z_iconst dX7_putWord_0 (by decide) ?_
  refine z_istore_n (L' := [(2, z_i 0), (0, z_r 159), (1, z_r (1001 + s1))]) dX7_putWord_1 rfl (by decide) rfl ?_
  refine z_sub (L' := [(0, z_r 159), (1, z_r (1001 + s1)), (2, z_i 0)]) [1, 2, 0] rfl ?_
  exact h
set_option maxRecDepth 100000 in
theorem t_X7_putWord_2 {sh : List z_C} {w : Nat → Int → Int} {Q : Option z_V → z_S → Prop} {s1 : Nat} {x2 : Int} (hh0 : z_isTex sh 159) (hs1 : s1 < 35) (h : (((f_J0_length_8abf5 w s1) ≤ x2 → Q none (sh, w)) ∧ (¬ (f_J0_length_8abf5 w s1) ≤ x2 → (s_J0_charAt_5068e w s1 x2) ∧ z_CV mX7_put [z_r 159, z_i (f_J0_charAt_5068e w s1 x2)] sh w (fun w3 => (z_R (x2 + 1)) ∧ z_Sem mX7_putWord (sh.length, 0) 2 [(0, z_r 159), (1, z_r (1001 + s1)), (2, z_i (x2 + 1))] [] (sh, w3) Q)))) : z_Sem mX7_putWord (sh.length, 0) 2 [(0, z_r 159), (1, z_r (1001 + s1)), (2, z_i x2)] [] (sh, w) Q := by
  refine z_iload_n 2 dX7_putWord_2 rfl rfl ?_
  refine z_aload_n 1 dX7_putWord_3 rfl rfl ?_
  refine z_callVS (i := s1) (As := []) (rest := [z_i x2]) hs1 zmJ0_length_8abf5 znJ0_length_8abf5 zsJ0_length_8abf5 zlRX7_101 ⟨Nat.le_of_ble_eq_true rfl, Nat.le_of_ble_eq_true rfl⟩ dX7_putWord_4 rfl rfl z_a0 (Nat.le_of_ble_eq_true rfl) (Nat.le_of_ble_eq_true rfl) ⟨rfl, rfl⟩ ?_
  refine t_J0_length_8abf5 hs1 ?_
  show z_Sem mX7_putWord (sh.length, 0) 7 [(0, z_r 159), (1, z_r (1001 + s1)), (2, z_i x2)] [z_i (f_J0_length_8abf5 w s1), z_i x2] (sh, w) Q
  refine z_icmp_ge (tgt := 25) dX7_putWord_7 (by decide) (fun c1 => ?_) (fun c1 => ?_)
  · replace h := h.1 c1
    exact z_ret (v := none) dX7_putWord_25 ⟨rfl, rfl⟩ rfl h
  · replace h := h.2 c1
    refine z_aload_n 0 dX7_putWord_10 rfl rfl ?_
    refine z_aload_n 1 dX7_putWord_11 rfl rfl ?_
    refine z_iload_n 2 dX7_putWord_12 rfl rfl ?_
    obtain ⟨q2, h⟩ := h
    refine z_callVS (i := s1) (As := [z_i x2]) (rest := [z_r 159]) hs1 zmJ0_charAt_5068e znJ0_charAt_5068e zsJ0_charAt_5068e zlRX7_106 ⟨Nat.le_of_ble_eq_true rfl, Nat.le_of_ble_eq_true rfl⟩ dX7_putWord_13 rfl rfl (z_ai z_a0) (Nat.le_of_ble_eq_true rfl) (Nat.le_of_ble_eq_true rfl) ⟨rfl, rfl⟩ ?_
    refine t_J0_charAt_5068e hs1 q2 ?_
    show z_Sem mX7_putWord (sh.length, 0) 16 [(0, z_r 159), (1, z_r (1001 + s1)), (2, z_i x2)] [z_i (f_J0_charAt_5068e w s1 x2), z_r 159] (sh, w) Q
    refine z_callV (As := [z_i (f_J0_charAt_5068e w s1 x2)]) (rest := []) zmX7_put znX7_put zsX7_put (show z_Cl[7]? = some (RX7, TX7, 2) from rfl) zlRX7_28 ⟨Nat.le_of_ble_eq_true rfl, Nat.le_of_ble_eq_true rfl⟩ dX7_putWord_16 hh0.1 rfl rfl (z_ai z_a0) (Nat.le_of_ble_eq_true rfl) (Nat.le_of_ble_eq_true rfl) ⟨rfl, rfl⟩ (z_CVm h ?_)
    intro w3 h
    show z_Sem mX7_putWord (sh.length, 0) 19 [(0, z_r 159), (1, z_r (1001 + s1)), (2, z_i x2)] [] (sh, w3) Q
    obtain ⟨q4, h⟩ := h
    refine z_iinc (L' := [(2, z_i (x2 + 1)), (0, z_r 159), (1, z_r (1001 + s1))]) 2 dX7_putWord_19 rfl (by decide) rfl q4 ?_
    refine z_goto (tgt := 2) dX7_putWord_22 (by decide) ?_
    refine z_sub (L' := [(0, z_r 159), (1, z_r (1001 + s1)), (2, z_i (x2 + 1))]) [1, 2, 0] rfl ?_
    exact h
set_option maxRecDepth 100000 in
theorem t_X7_putGap {sh : List z_C} {w : Nat → Int → Int} {Q : Option z_V → z_S → Prop} {o1 : Nat} {x2 : Int} (hh0 : z_isTex sh 159) (hh1 : z_isPla sh o1) (h : z_CV mX7_putWord [z_r 159, z_r (1001 + 19)] sh w (fun w1 => ((0 : Int) ≤ x2 ∧ x2 < 24) ∧ z_CV mX7_putName [z_r 159, z_r o1, z_i (w1 (o1 + 4) x2)] sh w1 (fun w3 => z_CV mX7_put [z_r 159, z_i 32] sh w3 (fun w4 => ((0 : Int) ≤ x2 ∧ x2 < 24) ∧ z_CV mX7_putName [z_r 159, z_r o1, z_i (w4 (o1 + 5) x2)] sh w4 (fun w6 => ((0 : Int) ≤ x2 ∧ x2 < 24) ∧ (((w6 (o1 + 6) x2) = 0 → z_CV mX7_putWord [z_r 159, z_r (1001 + 20)] sh w6 (fun w17 => ((0 : Int) ≤ x2 ∧ x2 < 24) ∧ z_CV mX7_putNumber [z_r 159, z_i (w17 (o1 + 7) x2)] sh w17 (fun w19 => ((0 : Int) ≤ x2 ∧ x2 < 24) ∧ (((w19 (o1 + 8) x2) = 0 → z_CV mX7_putWord [z_r 159, z_r (1001 + 22)] sh w19 (fun w23 => z_CV mX7_put [z_r 159, z_i 59] sh w23 (fun w24 => Q none (sh, w24)))) ∧ (¬ (w19 (o1 + 8) x2) = 0 → z_CV mX7_put [z_r 159, z_i 59] sh w19 (fun w22 => Q none (sh, w22))))))) ∧ (¬ (w6 (o1 + 6) x2) = 0 → z_CV mX7_putWord [z_r 159, z_r (1001 + 21)] sh w6 (fun w9 => ((0 : Int) ≤ x2 ∧ x2 < 24) ∧ z_CV mX7_putNumber [z_r 159, z_i (w9 (o1 + 7) x2)] sh w9 (fun w11 => ((0 : Int) ≤ x2 ∧ x2 < 24) ∧ (((w11 (o1 + 8) x2) = 0 → z_CV mX7_putWord [z_r 159, z_r (1001 + 22)] sh w11 (fun w15 => z_CV mX7_put [z_r 159, z_i 59] sh w15 (fun w16 => Q none (sh, w16)))) ∧ (¬ (w11 (o1 + 8) x2) = 0 → z_CV mX7_put [z_r 159, z_i 59] sh w11 (fun w14 => Q none (sh, w14))))))))))))) : z_Sem mX7_putGap (sh.length, 0) 0 [(0, z_r 159), (1, z_r o1), (2, z_i x2)] [] (sh, w) Q := by
  refine z_aload_n 0 dX7_putGap_0 rfl rfl ?_
  refine z_ldcS (i := 19) rfl dX7_putGap_1 ?_
  refine z_callV (As := [z_r (1001 + 19)]) (rest := []) zmX7_putWord znX7_putWord zsX7_putWord (show z_Cl[7]? = some (RX7, TX7, 2) from rfl) zlRX7_50 ⟨Nat.le_of_ble_eq_true rfl, Nat.le_of_ble_eq_true rfl⟩ dX7_putGap_3 hh0.1 rfl rfl (z_ar z_a0) (Nat.le_of_ble_eq_true rfl) (Nat.le_of_ble_eq_true rfl) ⟨rfl, rfl⟩ (z_CVm h ?_)
  intro w1 h
  show z_Sem mX7_putGap (sh.length, 0) 6 [(0, z_r 159), (1, z_r o1), (2, z_i x2)] [] (sh, w1) Q
  refine z_aload_n 0 dX7_putGap_6 rfl rfl ?_
  refine z_aload_n 1 dX7_putGap_7 rfl rfl ?_
  refine z_aload_n 1 dX7_putGap_8 rfl rfl ?_
  refine z_getR (r := (o1 + 4)) zfRX7_72 dX7_putGap_9 hh1.1 rfl ?_
  refine z_iload_n 2 dX7_putGap_12 rfl rfl ?_
  obtain ⟨q2, h⟩ := h
  refine z_iald dX7_putGap_13 hh1.2.2.2.2.1 q2 ?_
  refine z_callV (As := [z_r o1, z_i (w1 (o1 + 4) x2)]) (rest := []) zmX7_putName znX7_putName zsX7_putName (show z_Cl[7]? = some (RX7, TX7, 2) from rfl) zlRX7_24 ⟨Nat.le_of_ble_eq_true rfl, Nat.le_of_ble_eq_true rfl⟩ dX7_putGap_14 hh0.1 rfl rfl (z_ar (z_ai z_a0)) (Nat.le_of_ble_eq_true rfl) (Nat.le_of_ble_eq_true rfl) ⟨rfl, rfl⟩ (z_CVm h ?_)
  intro w3 h
  show z_Sem mX7_putGap (sh.length, 0) 17 [(0, z_r 159), (1, z_r o1), (2, z_i x2)] [] (sh, w3) Q
  refine z_aload_n 0 dX7_putGap_17 rfl rfl ?_
  refine z_bipush dX7_putGap_18 (by decide) (by decide) ?_
  refine z_callV (As := [z_i 32]) (rest := []) zmX7_put znX7_put zsX7_put (show z_Cl[7]? = some (RX7, TX7, 2) from rfl) zlRX7_28 ⟨Nat.le_of_ble_eq_true rfl, Nat.le_of_ble_eq_true rfl⟩ dX7_putGap_20 hh0.1 rfl rfl (z_ai z_a0) (Nat.le_of_ble_eq_true rfl) (Nat.le_of_ble_eq_true rfl) ⟨rfl, rfl⟩ (z_CVm h ?_)
  intro w4 h
  show z_Sem mX7_putGap (sh.length, 0) 23 [(0, z_r 159), (1, z_r o1), (2, z_i x2)] [] (sh, w4) Q
  refine z_aload_n 0 dX7_putGap_23 rfl rfl ?_
  refine z_aload_n 1 dX7_putGap_24 rfl rfl ?_
  refine z_aload_n 1 dX7_putGap_25 rfl rfl ?_
  refine z_getR (r := (o1 + 5)) zfRX7_75 dX7_putGap_26 hh1.1 rfl ?_
  refine z_iload_n 2 dX7_putGap_29 rfl rfl ?_
  obtain ⟨q5, h⟩ := h
  refine z_iald dX7_putGap_30 hh1.2.2.2.2.2.1 q5 ?_
  refine z_callV (As := [z_r o1, z_i (w4 (o1 + 5) x2)]) (rest := []) zmX7_putName znX7_putName zsX7_putName (show z_Cl[7]? = some (RX7, TX7, 2) from rfl) zlRX7_24 ⟨Nat.le_of_ble_eq_true rfl, Nat.le_of_ble_eq_true rfl⟩ dX7_putGap_31 hh0.1 rfl rfl (z_ar (z_ai z_a0)) (Nat.le_of_ble_eq_true rfl) (Nat.le_of_ble_eq_true rfl) ⟨rfl, rfl⟩ (z_CVm h ?_)
  intro w6 h
  show z_Sem mX7_putGap (sh.length, 0) 34 [(0, z_r 159), (1, z_r o1), (2, z_i x2)] [] (sh, w6) Q
  refine z_aload_n 0 dX7_putGap_34 rfl rfl ?_
  refine z_aload_n 1 dX7_putGap_35 rfl rfl ?_
  refine z_getR (r := (o1 + 6)) zfRX7_78 dX7_putGap_36 hh1.1 rfl ?_
  refine z_iload_n 2 dX7_putGap_39 rfl rfl ?_
  obtain ⟨q7, h⟩ := h
  refine z_iald dX7_putGap_40 hh1.2.2.2.2.2.2.1 q7 ?_
  refine z_if_ne (tgt := 49) dX7_putGap_41 (by decide) (fun c8 => ?_) (fun c8 => ?_)
  · replace h := h.2 c8
    refine z_ldcS (i := 21) rfl dX7_putGap_49 ?_
    refine z_callV (As := [z_r (1001 + 21)]) (rest := []) zmX7_putWord znX7_putWord zsX7_putWord (show z_Cl[7]? = some (RX7, TX7, 2) from rfl) zlRX7_50 ⟨Nat.le_of_ble_eq_true rfl, Nat.le_of_ble_eq_true rfl⟩ dX7_putGap_51 hh0.1 rfl rfl (z_ar z_a0) (Nat.le_of_ble_eq_true rfl) (Nat.le_of_ble_eq_true rfl) ⟨rfl, rfl⟩ (z_CVm h ?_)
    intro w9 h
    show z_Sem mX7_putGap (sh.length, 0) 54 [(0, z_r 159), (1, z_r o1), (2, z_i x2)] [] (sh, w9) Q
    refine z_aload_n 0 dX7_putGap_54 rfl rfl ?_
    refine z_aload_n 1 dX7_putGap_55 rfl rfl ?_
    refine z_getR (r := (o1 + 7)) zfRX7_85 dX7_putGap_56 hh1.1 rfl ?_
    refine z_iload_n 2 dX7_putGap_59 rfl rfl ?_
    obtain ⟨q10, h⟩ := h
    refine z_iald dX7_putGap_60 hh1.2.2.2.2.2.2.2.1 q10 ?_
    refine z_callV (As := [z_i (w9 (o1 + 7) x2)]) (rest := []) zmX7_putNumber znX7_putNumber zsX7_putNumber (show z_Cl[7]? = some (RX7, TX7, 2) from rfl) zlRX7_38 ⟨Nat.le_of_ble_eq_true rfl, Nat.le_of_ble_eq_true rfl⟩ dX7_putGap_61 hh0.1 rfl rfl (z_ai z_a0) (Nat.le_of_ble_eq_true rfl) (Nat.le_of_ble_eq_true rfl) ⟨rfl, rfl⟩ (z_CVm h ?_)
    intro w11 h
    show z_Sem mX7_putGap (sh.length, 0) 64 [(0, z_r 159), (1, z_r o1), (2, z_i x2)] [] (sh, w11) Q
    refine z_aload_n 1 dX7_putGap_64 rfl rfl ?_
    refine z_getR (r := (o1 + 8)) zfRX7_88 dX7_putGap_65 hh1.1 rfl ?_
    refine z_iload_n 2 dX7_putGap_68 rfl rfl ?_
    obtain ⟨q12, h⟩ := h
    refine z_zald dX7_putGap_69 hh1.2.2.2.2.2.2.2.2.1 q12 ?_
    refine z_if_ne (tgt := 79) dX7_putGap_70 (by decide) (fun c13 => ?_) (fun c13 => ?_)
    · replace h := h.2 c13
      refine z_aload_n 0 dX7_putGap_79 rfl rfl ?_
      refine z_bipush dX7_putGap_80 (by decide) (by decide) ?_
      refine z_callV (As := [z_i 59]) (rest := []) zmX7_put znX7_put zsX7_put (show z_Cl[7]? = some (RX7, TX7, 2) from rfl) zlRX7_28 ⟨Nat.le_of_ble_eq_true rfl, Nat.le_of_ble_eq_true rfl⟩ dX7_putGap_82 hh0.1 rfl rfl (z_ai z_a0) (Nat.le_of_ble_eq_true rfl) (Nat.le_of_ble_eq_true rfl) ⟨rfl, rfl⟩ (z_CVm h ?_)
      intro w14 h
      show z_Sem mX7_putGap (sh.length, 0) 85 [(0, z_r 159), (1, z_r o1), (2, z_i x2)] [] (sh, w14) Q
      exact z_ret (v := none) dX7_putGap_85 ⟨rfl, rfl⟩ rfl h
    · replace h := h.1 c13
      refine z_aload_n 0 dX7_putGap_73 rfl rfl ?_
      refine z_ldcS (i := 22) rfl dX7_putGap_74 ?_
      refine z_callV (As := [z_r (1001 + 22)]) (rest := []) zmX7_putWord znX7_putWord zsX7_putWord (show z_Cl[7]? = some (RX7, TX7, 2) from rfl) zlRX7_50 ⟨Nat.le_of_ble_eq_true rfl, Nat.le_of_ble_eq_true rfl⟩ dX7_putGap_76 hh0.1 rfl rfl (z_ar z_a0) (Nat.le_of_ble_eq_true rfl) (Nat.le_of_ble_eq_true rfl) ⟨rfl, rfl⟩ (z_CVm h ?_)
      intro w15 h
      show z_Sem mX7_putGap (sh.length, 0) 79 [(0, z_r 159), (1, z_r o1), (2, z_i x2)] [] (sh, w15) Q
      refine z_aload_n 0 dX7_putGap_79 rfl rfl ?_
      refine z_bipush dX7_putGap_80 (by decide) (by decide) ?_
      refine z_callV (As := [z_i 59]) (rest := []) zmX7_put znX7_put zsX7_put (show z_Cl[7]? = some (RX7, TX7, 2) from rfl) zlRX7_28 ⟨Nat.le_of_ble_eq_true rfl, Nat.le_of_ble_eq_true rfl⟩ dX7_putGap_82 hh0.1 rfl rfl (z_ai z_a0) (Nat.le_of_ble_eq_true rfl) (Nat.le_of_ble_eq_true rfl) ⟨rfl, rfl⟩ (z_CVm h ?_)
      intro w16 h
      show z_Sem mX7_putGap (sh.length, 0) 85 [(0, z_r 159), (1, z_r o1), (2, z_i x2)] [] (sh, w16) Q
      exact z_ret (v := none) dX7_putGap_85 ⟨rfl, rfl⟩ rfl h
  · replace h := h.1 c8
    refine z_ldcS (i := 20) rfl dX7_putGap_44 ?_
    refine z_goto (tgt := 51) dX7_putGap_46 (by decide) ?_
    refine z_callV (As := [z_r (1001 + 20)]) (rest := []) zmX7_putWord znX7_putWord zsX7_putWord (show z_Cl[7]? = some (RX7, TX7, 2) from rfl) zlRX7_50 ⟨Nat.le_of_ble_eq_true rfl, Nat.le_of_ble_eq_true rfl⟩ dX7_putGap_51 hh0.1 rfl rfl (z_ar z_a0) (Nat.le_of_ble_eq_true rfl) (Nat.le_of_ble_eq_true rfl) ⟨rfl, rfl⟩ (z_CVm h ?_)
    intro w17 h
    show z_Sem mX7_putGap (sh.length, 0) 54 [(0, z_r 159), (1, z_r o1), (2, z_i x2)] [] (sh, w17) Q
    refine z_aload_n 0 dX7_putGap_54 rfl rfl ?_
    refine z_aload_n 1 dX7_putGap_55 rfl rfl ?_
    refine z_getR (r := (o1 + 7)) zfRX7_85 dX7_putGap_56 hh1.1 rfl ?_
    refine z_iload_n 2 dX7_putGap_59 rfl rfl ?_
    obtain ⟨q18, h⟩ := h
    refine z_iald dX7_putGap_60 hh1.2.2.2.2.2.2.2.1 q18 ?_
    refine z_callV (As := [z_i (w17 (o1 + 7) x2)]) (rest := []) zmX7_putNumber znX7_putNumber zsX7_putNumber (show z_Cl[7]? = some (RX7, TX7, 2) from rfl) zlRX7_38 ⟨Nat.le_of_ble_eq_true rfl, Nat.le_of_ble_eq_true rfl⟩ dX7_putGap_61 hh0.1 rfl rfl (z_ai z_a0) (Nat.le_of_ble_eq_true rfl) (Nat.le_of_ble_eq_true rfl) ⟨rfl, rfl⟩ (z_CVm h ?_)
    intro w19 h
    show z_Sem mX7_putGap (sh.length, 0) 64 [(0, z_r 159), (1, z_r o1), (2, z_i x2)] [] (sh, w19) Q
    refine z_aload_n 1 dX7_putGap_64 rfl rfl ?_
    refine z_getR (r := (o1 + 8)) zfRX7_88 dX7_putGap_65 hh1.1 rfl ?_
    refine z_iload_n 2 dX7_putGap_68 rfl rfl ?_
    obtain ⟨q20, h⟩ := h
    refine z_zald dX7_putGap_69 hh1.2.2.2.2.2.2.2.2.1 q20 ?_
    refine z_if_ne (tgt := 79) dX7_putGap_70 (by decide) (fun c21 => ?_) (fun c21 => ?_)
    · replace h := h.2 c21
      refine z_aload_n 0 dX7_putGap_79 rfl rfl ?_
      refine z_bipush dX7_putGap_80 (by decide) (by decide) ?_
      refine z_callV (As := [z_i 59]) (rest := []) zmX7_put znX7_put zsX7_put (show z_Cl[7]? = some (RX7, TX7, 2) from rfl) zlRX7_28 ⟨Nat.le_of_ble_eq_true rfl, Nat.le_of_ble_eq_true rfl⟩ dX7_putGap_82 hh0.1 rfl rfl (z_ai z_a0) (Nat.le_of_ble_eq_true rfl) (Nat.le_of_ble_eq_true rfl) ⟨rfl, rfl⟩ (z_CVm h ?_)
      intro w22 h
      show z_Sem mX7_putGap (sh.length, 0) 85 [(0, z_r 159), (1, z_r o1), (2, z_i x2)] [] (sh, w22) Q
      exact z_ret (v := none) dX7_putGap_85 ⟨rfl, rfl⟩ rfl h
    · replace h := h.1 c21
      refine z_aload_n 0 dX7_putGap_73 rfl rfl ?_
      refine z_ldcS (i := 22) rfl dX7_putGap_74 ?_
      refine z_callV (As := [z_r (1001 + 22)]) (rest := []) zmX7_putWord znX7_putWord zsX7_putWord (show z_Cl[7]? = some (RX7, TX7, 2) from rfl) zlRX7_50 ⟨Nat.le_of_ble_eq_true rfl, Nat.le_of_ble_eq_true rfl⟩ dX7_putGap_76 hh0.1 rfl rfl (z_ar z_a0) (Nat.le_of_ble_eq_true rfl) (Nat.le_of_ble_eq_true rfl) ⟨rfl, rfl⟩ (z_CVm h ?_)
      intro w23 h
      show z_Sem mX7_putGap (sh.length, 0) 79 [(0, z_r 159), (1, z_r o1), (2, z_i x2)] [] (sh, w23) Q
      refine z_aload_n 0 dX7_putGap_79 rfl rfl ?_
      refine z_bipush dX7_putGap_80 (by decide) (by decide) ?_
      refine z_callV (As := [z_i 59]) (rest := []) zmX7_put znX7_put zsX7_put (show z_Cl[7]? = some (RX7, TX7, 2) from rfl) zlRX7_28 ⟨Nat.le_of_ble_eq_true rfl, Nat.le_of_ble_eq_true rfl⟩ dX7_putGap_82 hh0.1 rfl rfl (z_ai z_a0) (Nat.le_of_ble_eq_true rfl) (Nat.le_of_ble_eq_true rfl) ⟨rfl, rfl⟩ (z_CVm h ?_)
      intro w24 h
      show z_Sem mX7_putGap (sh.length, 0) 85 [(0, z_r 159), (1, z_r o1), (2, z_i x2)] [] (sh, w24) Q
      exact z_ret (v := none) dX7_putGap_85 ⟨rfl, rfl⟩ rfl h
set_option maxRecDepth 100000 in
theorem t_X7_writeSetup {sh : List z_C} {w : Nat → Int → Int} {Q : Option z_V → z_S → Prop} {o1 : Nat} (hh0 : z_isTex sh 159) (hh1 : z_isPla sh o1) (h : ∀ w1 : Nat → Int → Int, w1 = z_W w 159 1 0 → z_CV mX7_putWord [z_r 159, z_r (1001 + 16)] sh w1 (fun w2 => z_CV mX7_putNumber [z_r 159, z_i (w2 o1 9)] sh w2 (fun w3 => z_CV mX7_put [z_r 159, z_i 59] sh w3 (fun w4 => z_Sem mX7_writeSetup (sh.length, 0) 27 [(0, z_r 159), (1, z_r o1), (2, z_i 1)] [] (sh, w4) Q)))) : z_Sem mX7_writeSetup (sh.length, 0) 0 [(0, z_r 159), (1, z_r o1)] [] (sh, w) Q := by
  refine z_aload_n 0 dX7_writeSetup_0 rfl rfl ?_
  refine z_iconst dX7_writeSetup_1 (by decide) ?_
  refine z_putI (ki := 1) zfRX7_15 dX7_writeSetup_2 hh0.1 rfl rfl ?_
  refine z_genw (fun w1 hw1 => ?_)
  replace h := h w1 hw1
  refine z_aload_n 0 dX7_writeSetup_5 rfl rfl ?_
  refine z_ldcS (i := 16) rfl dX7_writeSetup_6 ?_
  refine z_callV (As := [z_r (1001 + 16)]) (rest := []) zmX7_putWord znX7_putWord zsX7_putWord (show z_Cl[7]? = some (RX7, TX7, 2) from rfl) zlRX7_50 ⟨Nat.le_of_ble_eq_true rfl, Nat.le_of_ble_eq_true rfl⟩ dX7_writeSetup_8 hh0.1 rfl rfl (z_ar z_a0) (Nat.le_of_ble_eq_true rfl) (Nat.le_of_ble_eq_true rfl) ⟨rfl, rfl⟩ (z_CVm h ?_)
  intro w2 h
  show z_Sem mX7_writeSetup (sh.length, 0) 11 [(0, z_r 159), (1, z_r o1)] [] (sh, w2) Q
  refine z_aload_n 0 dX7_writeSetup_11 rfl rfl ?_
  refine z_aload_n 1 dX7_writeSetup_12 rfl rfl ?_
  refine z_getI (ki := 9) zfRX7_54 dX7_writeSetup_13 hh1.1 rfl rfl ?_
  refine z_callV (As := [z_i (w2 o1 9)]) (rest := []) zmX7_putNumber znX7_putNumber zsX7_putNumber (show z_Cl[7]? = some (RX7, TX7, 2) from rfl) zlRX7_38 ⟨Nat.le_of_ble_eq_true rfl, Nat.le_of_ble_eq_true rfl⟩ dX7_writeSetup_16 hh0.1 rfl rfl (z_ai z_a0) (Nat.le_of_ble_eq_true rfl) (Nat.le_of_ble_eq_true rfl) ⟨rfl, rfl⟩ (z_CVm h ?_)
  intro w3 h
  show z_Sem mX7_writeSetup (sh.length, 0) 19 [(0, z_r 159), (1, z_r o1)] [] (sh, w3) Q
  refine z_aload_n 0 dX7_writeSetup_19 rfl rfl ?_
  refine z_bipush dX7_writeSetup_20 (by decide) (by decide) ?_
  refine z_callV (As := [z_i 59]) (rest := []) zmX7_put znX7_put zsX7_put (show z_Cl[7]? = some (RX7, TX7, 2) from rfl) zlRX7_28 ⟨Nat.le_of_ble_eq_true rfl, Nat.le_of_ble_eq_true rfl⟩ dX7_writeSetup_22 hh0.1 rfl rfl (z_ai z_a0) (Nat.le_of_ble_eq_true rfl) (Nat.le_of_ble_eq_true rfl) ⟨rfl, rfl⟩ (z_CVm h ?_)
  intro w4 h
  show z_Sem mX7_writeSetup (sh.length, 0) 25 [(0, z_r 159), (1, z_r o1)] [] (sh, w4) Q
  refine z_iconst dX7_writeSetup_25 (by decide) ?_
  refine z_istore_n (L' := [(2, z_i 1), (0, z_r 159), (1, z_r o1)]) dX7_writeSetup_26 rfl (by decide) rfl ?_
  refine z_sub (L' := [(0, z_r 159), (1, z_r o1), (2, z_i 1)]) [1, 2, 0] rfl ?_
  exact h
set_option maxRecDepth 100000 in
theorem t_X7_writeSetup_27 {sh : List z_C} {w : Nat → Int → Int} {Q : Option z_V → z_S → Prop} {o1 : Nat} {x2 : Int} (hh0 : z_isTex sh 159) (hh1 : z_isPla sh o1) (h : (((w o1 10) ≤ x2 → z_Sem mX7_writeSetup (sh.length, 0) 61 [(0, z_r 159), (1, z_r o1), (2, z_i 0)] [] (sh, w) Q) ∧ (¬ (w o1 10) ≤ x2 → z_CV mX7_putWord [z_r 159, z_r (1001 + 17)] sh w (fun w2 => z_CV mX7_putName [z_r 159, z_r o1, z_i x2] sh w2 (fun w3 => z_CV mX7_put [z_r 159, z_i 59] sh w3 (fun w4 => (z_R (x2 + 1)) ∧ z_Sem mX7_writeSetup (sh.length, 0) 27 [(0, z_r 159), (1, z_r o1), (2, z_i (x2 + 1))] [] (sh, w4) Q)))))) : z_Sem mX7_writeSetup (sh.length, 0) 27 [(0, z_r 159), (1, z_r o1), (2, z_i x2)] [] (sh, w) Q := by
  refine z_iload_n 2 dX7_writeSetup_27 rfl rfl ?_
  refine z_aload_n 1 dX7_writeSetup_28 rfl rfl ?_
  refine z_getI (ki := 10) zfRX7_19 dX7_writeSetup_29 hh1.1 rfl rfl ?_
  refine z_icmp_ge (tgt := 59) dX7_writeSetup_32 (by decide) (fun c1 => ?_) (fun c1 => ?_)
  · replace h := h.1 c1
    refine z_iconst dX7_writeSetup_59 (by decide) ?_
    refine z_istore_n (L' := [(2, z_i 0), (0, z_r 159), (1, z_r o1)]) dX7_writeSetup_60 rfl (by decide) rfl ?_
    refine z_sub (L' := [(0, z_r 159), (1, z_r o1), (2, z_i 0)]) [1, 2, 0] rfl ?_
    exact h
  · replace h := h.2 c1
    refine z_aload_n 0 dX7_writeSetup_35 rfl rfl ?_
    refine z_ldcS (i := 17) rfl dX7_writeSetup_36 ?_
    refine z_callV (As := [z_r (1001 + 17)]) (rest := []) zmX7_putWord znX7_putWord zsX7_putWord (show z_Cl[7]? = some (RX7, TX7, 2) from rfl) zlRX7_50 ⟨Nat.le_of_ble_eq_true rfl, Nat.le_of_ble_eq_true rfl⟩ dX7_writeSetup_38 hh0.1 rfl rfl (z_ar z_a0) (Nat.le_of_ble_eq_true rfl) (Nat.le_of_ble_eq_true rfl) ⟨rfl, rfl⟩ (z_CVm h ?_)
    intro w2 h
    show z_Sem mX7_writeSetup (sh.length, 0) 41 [(0, z_r 159), (1, z_r o1), (2, z_i x2)] [] (sh, w2) Q
    refine z_aload_n 0 dX7_writeSetup_41 rfl rfl ?_
    refine z_aload_n 1 dX7_writeSetup_42 rfl rfl ?_
    refine z_iload_n 2 dX7_writeSetup_43 rfl rfl ?_
    refine z_callV (As := [z_r o1, z_i x2]) (rest := []) zmX7_putName znX7_putName zsX7_putName (show z_Cl[7]? = some (RX7, TX7, 2) from rfl) zlRX7_24 ⟨Nat.le_of_ble_eq_true rfl, Nat.le_of_ble_eq_true rfl⟩ dX7_writeSetup_44 hh0.1 rfl rfl (z_ar (z_ai z_a0)) (Nat.le_of_ble_eq_true rfl) (Nat.le_of_ble_eq_true rfl) ⟨rfl, rfl⟩ (z_CVm h ?_)
    intro w3 h
    show z_Sem mX7_writeSetup (sh.length, 0) 47 [(0, z_r 159), (1, z_r o1), (2, z_i x2)] [] (sh, w3) Q
    refine z_aload_n 0 dX7_writeSetup_47 rfl rfl ?_
    refine z_bipush dX7_writeSetup_48 (by decide) (by decide) ?_
    refine z_callV (As := [z_i 59]) (rest := []) zmX7_put znX7_put zsX7_put (show z_Cl[7]? = some (RX7, TX7, 2) from rfl) zlRX7_28 ⟨Nat.le_of_ble_eq_true rfl, Nat.le_of_ble_eq_true rfl⟩ dX7_writeSetup_50 hh0.1 rfl rfl (z_ai z_a0) (Nat.le_of_ble_eq_true rfl) (Nat.le_of_ble_eq_true rfl) ⟨rfl, rfl⟩ (z_CVm h ?_)
    intro w4 h
    show z_Sem mX7_writeSetup (sh.length, 0) 53 [(0, z_r 159), (1, z_r o1), (2, z_i x2)] [] (sh, w4) Q
    obtain ⟨q5, h⟩ := h
    refine z_iinc (L' := [(2, z_i (x2 + 1)), (0, z_r 159), (1, z_r o1)]) 2 dX7_writeSetup_53 rfl (by decide) rfl q5 ?_
    refine z_goto (tgt := 27) dX7_writeSetup_56 (by decide) ?_
    refine z_sub (L' := [(0, z_r 159), (1, z_r o1), (2, z_i (x2 + 1))]) [1, 2, 0] rfl ?_
    exact h
set_option maxRecDepth 100000 in
theorem t_X7_writeSetup_61 {sh : List z_C} {w : Nat → Int → Int} {Q : Option z_V → z_S → Prop} {o1 : Nat} {x2 : Int} (hh0 : z_isTex sh 159) (hh1 : z_isPla sh o1) (h : (((w o1 11) ≤ x2 → z_Sem mX7_writeSetup (sh.length, 0) 83 [(0, z_r 159), (1, z_r o1), (2, z_i 1)] [] (sh, w) Q) ∧ (¬ (w o1 11) ≤ x2 → z_CV mX7_putGap [z_r 159, z_r o1, z_i x2] sh w (fun w2 => (z_R (x2 + 1)) ∧ z_Sem mX7_writeSetup (sh.length, 0) 61 [(0, z_r 159), (1, z_r o1), (2, z_i (x2 + 1))] [] (sh, w2) Q)))) : z_Sem mX7_writeSetup (sh.length, 0) 61 [(0, z_r 159), (1, z_r o1), (2, z_i x2)] [] (sh, w) Q := by
  refine z_iload_n 2 dX7_writeSetup_61 rfl rfl ?_
  refine z_aload_n 1 dX7_writeSetup_62 rfl rfl ?_
  refine z_getI (ki := 11) zfRX7_59 dX7_writeSetup_63 hh1.1 rfl rfl ?_
  refine z_icmp_ge (tgt := 81) dX7_writeSetup_66 (by decide) (fun c1 => ?_) (fun c1 => ?_)
  · replace h := h.1 c1
    refine z_iconst dX7_writeSetup_81 (by decide) ?_
    refine z_istore_n (L' := [(2, z_i 1), (0, z_r 159), (1, z_r o1)]) dX7_writeSetup_82 rfl (by decide) rfl ?_
    refine z_sub (L' := [(0, z_r 159), (1, z_r o1), (2, z_i 1)]) [1, 2, 0] rfl ?_
    exact h
  · replace h := h.2 c1
    refine z_aload_n 0 dX7_writeSetup_69 rfl rfl ?_
    refine z_aload_n 1 dX7_writeSetup_70 rfl rfl ?_
    refine z_iload_n 2 dX7_writeSetup_71 rfl rfl ?_
    refine z_callV (As := [z_r o1, z_i x2]) (rest := []) zmX7_putGap znX7_putGap zsX7_putGap (show z_Cl[7]? = some (RX7, TX7, 2) from rfl) zlRX7_62 ⟨Nat.le_of_ble_eq_true rfl, Nat.le_of_ble_eq_true rfl⟩ dX7_writeSetup_72 hh0.1 rfl rfl (z_ar (z_ai z_a0)) (Nat.le_of_ble_eq_true rfl) (Nat.le_of_ble_eq_true rfl) ⟨rfl, rfl⟩ (z_CVm h ?_)
    intro w2 h
    show z_Sem mX7_writeSetup (sh.length, 0) 75 [(0, z_r 159), (1, z_r o1), (2, z_i x2)] [] (sh, w2) Q
    obtain ⟨q3, h⟩ := h
    refine z_iinc (L' := [(2, z_i (x2 + 1)), (0, z_r 159), (1, z_r o1)]) 2 dX7_writeSetup_75 rfl (by decide) rfl q3 ?_
    refine z_goto (tgt := 61) dX7_writeSetup_78 (by decide) ?_
    refine z_sub (L' := [(0, z_r 159), (1, z_r o1), (2, z_i (x2 + 1))]) [1, 2, 0] rfl ?_
    exact h
set_option maxRecDepth 100000 in
theorem t_X7_writeSetup_83 {sh : List z_C} {w : Nat → Int → Int} {Q : Option z_V → z_S → Prop} {o1 : Nat} {x2 : Int} (hh0 : z_isTex sh 159) (hh1 : z_isPla sh o1) (h : (((w o1 10) ≤ x2 → Q none (sh, w)) ∧ (¬ (w o1 10) ≤ x2 → (s_X3_isPinned w o1 x2) ∧ (((f_X3_isPinned w o1 x2) = 0 → (z_R (x2 + 1)) ∧ z_Sem mX7_writeSetup (sh.length, 0) 83 [(0, z_r 159), (1, z_r o1), (2, z_i (x2 + 1))] [] (sh, w) Q) ∧ (¬ (f_X3_isPinned w o1 x2) = 0 → z_CV mX7_putWord [z_r 159, z_r (1001 + 18)] sh w (fun w5 => z_CV mX7_putName [z_r 159, z_r o1, z_i x2] sh w5 (fun w6 => z_CV mX7_put [z_r 159, z_i 32] sh w6 (fun w7 => ((0 : Int) ≤ x2 ∧ x2 < 10) ∧ z_CV mX7_putNumber [z_r 159, z_i (w7 (o1 + 3) x2)] sh w7 (fun w9 => z_CV mX7_put [z_r 159, z_i 59] sh w9 (fun w10 => (z_R (x2 + 1)) ∧ z_Sem mX7_writeSetup (sh.length, 0) 83 [(0, z_r 159), (1, z_r o1), (2, z_i (x2 + 1))] [] (sh, w10) Q)))))))))) : z_Sem mX7_writeSetup (sh.length, 0) 83 [(0, z_r 159), (1, z_r o1), (2, z_i x2)] [] (sh, w) Q := by
  refine z_iload_n 2 dX7_writeSetup_83 rfl rfl ?_
  refine z_aload_n 1 dX7_writeSetup_84 rfl rfl ?_
  refine z_getI (ki := 10) zfRX7_19 dX7_writeSetup_85 hh1.1 rfl rfl ?_
  refine z_icmp_ge (tgt := 139) dX7_writeSetup_88 (by decide) (fun c1 => ?_) (fun c1 => ?_)
  · replace h := h.1 c1
    exact z_ret (v := none) dX7_writeSetup_139 ⟨rfl, rfl⟩ rfl h
  · replace h := h.2 c1
    refine z_aload_n 1 dX7_writeSetup_91 rfl rfl ?_
    refine z_iload_n 2 dX7_writeSetup_92 rfl rfl ?_
    obtain ⟨q2, h⟩ := h
    refine z_callV (As := [z_i x2]) (rest := []) zmX3_isPinned znX3_isPinned zsX3_isPinned (show z_Cl[3]? = some (RX3, TX3, 12) from rfl) zlRX7_44 ⟨Nat.le_of_ble_eq_true rfl, Nat.le_of_ble_eq_true rfl⟩ dX7_writeSetup_93 hh1.1 rfl rfl (z_ai z_a0) (Nat.le_of_ble_eq_true rfl) (Nat.le_of_ble_eq_true rfl) ⟨rfl, rfl⟩ ?_
    refine t_X3_isPinned hh1 q2 ?_
    show z_Sem mX7_writeSetup (sh.length, 0) 96 [(0, z_r 159), (1, z_r o1), (2, z_i x2)] [z_i (f_X3_isPinned w o1 x2)] (sh, w) Q
    refine z_if_eq (tgt := 133) dX7_writeSetup_96 (by decide) (fun c3 => ?_) (fun c3 => ?_)
    · replace h := h.1 c3
      obtain ⟨q4, h⟩ := h
      refine z_iinc (L' := [(2, z_i (x2 + 1)), (0, z_r 159), (1, z_r o1)]) 2 dX7_writeSetup_133 rfl (by decide) rfl q4 ?_
      refine z_goto (tgt := 83) dX7_writeSetup_136 (by decide) ?_
      refine z_sub (L' := [(0, z_r 159), (1, z_r o1), (2, z_i (x2 + 1))]) [1, 2, 0] rfl ?_
      exact h
    · replace h := h.2 c3
      refine z_aload_n 0 dX7_writeSetup_99 rfl rfl ?_
      refine z_ldcS (i := 18) rfl dX7_writeSetup_100 ?_
      refine z_callV (As := [z_r (1001 + 18)]) (rest := []) zmX7_putWord znX7_putWord zsX7_putWord (show z_Cl[7]? = some (RX7, TX7, 2) from rfl) zlRX7_50 ⟨Nat.le_of_ble_eq_true rfl, Nat.le_of_ble_eq_true rfl⟩ dX7_writeSetup_102 hh0.1 rfl rfl (z_ar z_a0) (Nat.le_of_ble_eq_true rfl) (Nat.le_of_ble_eq_true rfl) ⟨rfl, rfl⟩ (z_CVm h ?_)
      intro w5 h
      show z_Sem mX7_writeSetup (sh.length, 0) 105 [(0, z_r 159), (1, z_r o1), (2, z_i x2)] [] (sh, w5) Q
      refine z_aload_n 0 dX7_writeSetup_105 rfl rfl ?_
      refine z_aload_n 1 dX7_writeSetup_106 rfl rfl ?_
      refine z_iload_n 2 dX7_writeSetup_107 rfl rfl ?_
      refine z_callV (As := [z_r o1, z_i x2]) (rest := []) zmX7_putName znX7_putName zsX7_putName (show z_Cl[7]? = some (RX7, TX7, 2) from rfl) zlRX7_24 ⟨Nat.le_of_ble_eq_true rfl, Nat.le_of_ble_eq_true rfl⟩ dX7_writeSetup_108 hh0.1 rfl rfl (z_ar (z_ai z_a0)) (Nat.le_of_ble_eq_true rfl) (Nat.le_of_ble_eq_true rfl) ⟨rfl, rfl⟩ (z_CVm h ?_)
      intro w6 h
      show z_Sem mX7_writeSetup (sh.length, 0) 111 [(0, z_r 159), (1, z_r o1), (2, z_i x2)] [] (sh, w6) Q
      refine z_aload_n 0 dX7_writeSetup_111 rfl rfl ?_
      refine z_bipush dX7_writeSetup_112 (by decide) (by decide) ?_
      refine z_callV (As := [z_i 32]) (rest := []) zmX7_put znX7_put zsX7_put (show z_Cl[7]? = some (RX7, TX7, 2) from rfl) zlRX7_28 ⟨Nat.le_of_ble_eq_true rfl, Nat.le_of_ble_eq_true rfl⟩ dX7_writeSetup_114 hh0.1 rfl rfl (z_ai z_a0) (Nat.le_of_ble_eq_true rfl) (Nat.le_of_ble_eq_true rfl) ⟨rfl, rfl⟩ (z_CVm h ?_)
      intro w7 h
      show z_Sem mX7_writeSetup (sh.length, 0) 117 [(0, z_r 159), (1, z_r o1), (2, z_i x2)] [] (sh, w7) Q
      refine z_aload_n 0 dX7_writeSetup_117 rfl rfl ?_
      refine z_aload_n 1 dX7_writeSetup_118 rfl rfl ?_
      refine z_getR (r := (o1 + 3)) zfRX7_67 dX7_writeSetup_119 hh1.1 rfl ?_
      refine z_iload_n 2 dX7_writeSetup_122 rfl rfl ?_
      obtain ⟨q8, h⟩ := h
      refine z_iald dX7_writeSetup_123 hh1.2.2.2.1 q8 ?_
      refine z_callV (As := [z_i (w7 (o1 + 3) x2)]) (rest := []) zmX7_putNumber znX7_putNumber zsX7_putNumber (show z_Cl[7]? = some (RX7, TX7, 2) from rfl) zlRX7_38 ⟨Nat.le_of_ble_eq_true rfl, Nat.le_of_ble_eq_true rfl⟩ dX7_writeSetup_124 hh0.1 rfl rfl (z_ai z_a0) (Nat.le_of_ble_eq_true rfl) (Nat.le_of_ble_eq_true rfl) ⟨rfl, rfl⟩ (z_CVm h ?_)
      intro w9 h
      show z_Sem mX7_writeSetup (sh.length, 0) 127 [(0, z_r 159), (1, z_r o1), (2, z_i x2)] [] (sh, w9) Q
      refine z_aload_n 0 dX7_writeSetup_127 rfl rfl ?_
      refine z_bipush dX7_writeSetup_128 (by decide) (by decide) ?_
      refine z_callV (As := [z_i 59]) (rest := []) zmX7_put znX7_put zsX7_put (show z_Cl[7]? = some (RX7, TX7, 2) from rfl) zlRX7_28 ⟨Nat.le_of_ble_eq_true rfl, Nat.le_of_ble_eq_true rfl⟩ dX7_writeSetup_130 hh0.1 rfl rfl (z_ai z_a0) (Nat.le_of_ble_eq_true rfl) (Nat.le_of_ble_eq_true rfl) ⟨rfl, rfl⟩ (z_CVm h ?_)
      intro w10 h
      show z_Sem mX7_writeSetup (sh.length, 0) 133 [(0, z_r 159), (1, z_r o1), (2, z_i x2)] [] (sh, w10) Q
      obtain ⟨q11, h⟩ := h
      refine z_iinc (L' := [(2, z_i (x2 + 1)), (0, z_r 159), (1, z_r o1)]) 2 dX7_writeSetup_133 rfl (by decide) rfl q11 ?_
      refine z_goto (tgt := 83) dX7_writeSetup_136 (by decide) ?_
      refine z_sub (L' := [(0, z_r 159), (1, z_r o1), (2, z_i (x2 + 1))]) [1, 2, 0] rfl ?_
      exact h
set_option maxRecDepth 100000 in
theorem t_X8_append {sh : List z_C} {w : Nat → Int → Int} {Q : Option z_V → z_S → Prop} {x1 : Int} {x2 : Int} {x3 : Int} {x4 : Int} {x5 : Int} (hh0 : z_isTG sh 0) (h : (z_R ((w 140 1) + 20)) ∧ ((((w 140 1) + 20) ≤ 900 → z_CV mX6_putFourBytes [z_r 140, z_i x1] sh w (fun w3 => z_CV mX6_putFourBytes [z_r 140, z_i x2] sh w3 (fun w4 => z_CV mX6_putFourBytes [z_r 140, z_i x3] sh w4 (fun w5 => z_CV mX6_putFourBytes [z_r 140, z_i x4] sh w5 (fun w6 => z_CV mX6_putFourBytes [z_r 140, z_i x5] sh w6 (fun w7 => Q (some (z_i (w7 140 1))) (sh, w7))))))) ∧ (¬ ((w 140 1) + 20) ≤ 900 → Q (some (z_i (-1))) (sh, w)))) : z_Sem mX8_append (sh.length, 0) 0 [(0, z_r 0), (1, z_i x1), (2, z_i x2), (3, z_i x3), (4, z_i x4), (5, z_i x5)] [] (sh, w) Q := by
  refine z_aload_n 0 dX8_append_0 rfl rfl ?_
  refine z_getR (r := 140) zfRX8_51 dX8_append_1 hh0.1 rfl ?_
  refine z_getI (ki := 1) zfRX8_70 dX8_append_4 hh0.2.2.2.2.2.2.2.1.1 rfl rfl ?_
  refine z_bipush dX8_append_7 (by decide) (by decide) ?_
  obtain ⟨q1, h⟩ := h
  refine z_iadd dX8_append_9 q1 ?_
  refine z_sipush dX8_append_10 (by decide) (by decide) ?_
  refine z_icmp_le (tgt := 18) dX8_append_13 (by decide) (fun c2 => ?_) (fun c2 => ?_)
  · replace h := h.1 c2
    refine z_aload_n 0 dX8_append_18 rfl rfl ?_
    refine z_getR (r := 140) zfRX8_51 dX8_append_19 hh0.1 rfl ?_
    refine z_iload_n 1 dX8_append_22 rfl rfl ?_
    refine z_callV (As := [z_i x1]) (rest := []) zmX6_putFourBytes znX6_putFourBytes zsX6_putFourBytes (show z_Cl[6]? = some (RX6, TX6, 2) from rfl) zlRX8_75 ⟨Nat.le_of_ble_eq_true rfl, Nat.le_of_ble_eq_true rfl⟩ dX8_append_23 hh0.2.2.2.2.2.2.2.1.1 rfl rfl (z_ai z_a0) (Nat.le_of_ble_eq_true rfl) (Nat.le_of_ble_eq_true rfl) ⟨rfl, rfl⟩ (z_CVm h ?_)
    intro w3 h
    show z_Sem mX8_append (sh.length, 0) 26 [(0, z_r 0), (1, z_i x1), (2, z_i x2), (3, z_i x3), (4, z_i x4), (5, z_i x5)] [] (sh, w3) Q
    refine z_aload_n 0 dX8_append_26 rfl rfl ?_
    refine z_getR (r := 140) zfRX8_51 dX8_append_27 hh0.1 rfl ?_
    refine z_iload_n 2 dX8_append_30 rfl rfl ?_
    refine z_callV (As := [z_i x2]) (rest := []) zmX6_putFourBytes znX6_putFourBytes zsX6_putFourBytes (show z_Cl[6]? = some (RX6, TX6, 2) from rfl) zlRX8_75 ⟨Nat.le_of_ble_eq_true rfl, Nat.le_of_ble_eq_true rfl⟩ dX8_append_31 hh0.2.2.2.2.2.2.2.1.1 rfl rfl (z_ai z_a0) (Nat.le_of_ble_eq_true rfl) (Nat.le_of_ble_eq_true rfl) ⟨rfl, rfl⟩ (z_CVm h ?_)
    intro w4 h
    show z_Sem mX8_append (sh.length, 0) 34 [(0, z_r 0), (1, z_i x1), (2, z_i x2), (3, z_i x3), (4, z_i x4), (5, z_i x5)] [] (sh, w4) Q
    refine z_aload_n 0 dX8_append_34 rfl rfl ?_
    refine z_getR (r := 140) zfRX8_51 dX8_append_35 hh0.1 rfl ?_
    refine z_iload_n 3 dX8_append_38 rfl rfl ?_
    refine z_callV (As := [z_i x3]) (rest := []) zmX6_putFourBytes znX6_putFourBytes zsX6_putFourBytes (show z_Cl[6]? = some (RX6, TX6, 2) from rfl) zlRX8_75 ⟨Nat.le_of_ble_eq_true rfl, Nat.le_of_ble_eq_true rfl⟩ dX8_append_39 hh0.2.2.2.2.2.2.2.1.1 rfl rfl (z_ai z_a0) (Nat.le_of_ble_eq_true rfl) (Nat.le_of_ble_eq_true rfl) ⟨rfl, rfl⟩ (z_CVm h ?_)
    intro w5 h
    show z_Sem mX8_append (sh.length, 0) 42 [(0, z_r 0), (1, z_i x1), (2, z_i x2), (3, z_i x3), (4, z_i x4), (5, z_i x5)] [] (sh, w5) Q
    refine z_aload_n 0 dX8_append_42 rfl rfl ?_
    refine z_getR (r := 140) zfRX8_51 dX8_append_43 hh0.1 rfl ?_
    refine z_iload 4 dX8_append_46 rfl ?_
    refine z_callV (As := [z_i x4]) (rest := []) zmX6_putFourBytes znX6_putFourBytes zsX6_putFourBytes (show z_Cl[6]? = some (RX6, TX6, 2) from rfl) zlRX8_75 ⟨Nat.le_of_ble_eq_true rfl, Nat.le_of_ble_eq_true rfl⟩ dX8_append_48 hh0.2.2.2.2.2.2.2.1.1 rfl rfl (z_ai z_a0) (Nat.le_of_ble_eq_true rfl) (Nat.le_of_ble_eq_true rfl) ⟨rfl, rfl⟩ (z_CVm h ?_)
    intro w6 h
    show z_Sem mX8_append (sh.length, 0) 51 [(0, z_r 0), (1, z_i x1), (2, z_i x2), (3, z_i x3), (4, z_i x4), (5, z_i x5)] [] (sh, w6) Q
    refine z_aload_n 0 dX8_append_51 rfl rfl ?_
    refine z_getR (r := 140) zfRX8_51 dX8_append_52 hh0.1 rfl ?_
    refine z_iload 5 dX8_append_55 rfl ?_
    refine z_callV (As := [z_i x5]) (rest := []) zmX6_putFourBytes znX6_putFourBytes zsX6_putFourBytes (show z_Cl[6]? = some (RX6, TX6, 2) from rfl) zlRX8_75 ⟨Nat.le_of_ble_eq_true rfl, Nat.le_of_ble_eq_true rfl⟩ dX8_append_57 hh0.2.2.2.2.2.2.2.1.1 rfl rfl (z_ai z_a0) (Nat.le_of_ble_eq_true rfl) (Nat.le_of_ble_eq_true rfl) ⟨rfl, rfl⟩ (z_CVm h ?_)
    intro w7 h
    show z_Sem mX8_append (sh.length, 0) 60 [(0, z_r 0), (1, z_i x1), (2, z_i x2), (3, z_i x3), (4, z_i x4), (5, z_i x5)] [] (sh, w7) Q
    refine z_aload_n 0 dX8_append_60 rfl rfl ?_
    refine z_getR (r := 140) zfRX8_51 dX8_append_61 hh0.1 rfl ?_
    refine z_getI (ki := 1) zfRX8_70 dX8_append_64 hh0.2.2.2.2.2.2.2.1.1 rfl rfl ?_
    exact z_ret (v := some (z_i (w7 140 1))) dX8_append_67 ⟨rfl, Or.inl rfl⟩ rfl h
  · replace h := h.2 c2
    refine z_iconst dX8_append_16 (by decide) ?_
    exact z_ret (v := some (z_i (-1))) dX8_append_17 ⟨rfl, Or.inl rfl⟩ rfl h
set_option maxRecDepth 100000 in
theorem t_X8_truncate {sh : List z_C} {w : Nat → Int → Int} {Q : Option z_V → z_S → Prop} {x1 : Int} (hh0 : z_isTG sh 0) (h : ((x1 < 0 → Q (some (z_i (-1))) (sh, w)) ∧ (¬ x1 < 0 → ((x1 ≤ (w 140 1) → (z_R ((w 140 1) - x1)) ∧ ∀ w4 : Nat → Int → Int, w4 = z_W w 140 1 ((w 140 1) - x1) → Q (some (z_i (w4 140 1))) (sh, w4)) ∧ (¬ x1 ≤ (w 140 1) → Q (some (z_i (-1))) (sh, w)))))) : z_Sem mX8_truncate (sh.length, 0) 0 [(0, z_r 0), (1, z_i x1)] [] (sh, w) Q := by
  refine z_iload_n 1 dX8_truncate_0 rfl rfl ?_
  refine z_if_lt (tgt := 15) dX8_truncate_1 (by decide) (fun c1 => ?_) (fun c1 => ?_)
  · replace h := h.1 c1
    refine z_iconst dX8_truncate_15 (by decide) ?_
    exact z_ret (v := some (z_i (-1))) dX8_truncate_16 ⟨rfl, Or.inl rfl⟩ rfl h
  · replace h := h.2 c1
    refine z_iload_n 1 dX8_truncate_4 rfl rfl ?_
    refine z_aload_n 0 dX8_truncate_5 rfl rfl ?_
    refine z_getR (r := 140) zfRX8_51 dX8_truncate_6 hh0.1 rfl ?_
    refine z_getI (ki := 1) zfRX8_70 dX8_truncate_9 hh0.2.2.2.2.2.2.2.1.1 rfl rfl ?_
    refine z_icmp_le (tgt := 17) dX8_truncate_12 (by decide) (fun c2 => ?_) (fun c2 => ?_)
    · replace h := h.1 c2
      refine z_aload_n 0 dX8_truncate_17 rfl rfl ?_
      refine z_getR (r := 140) zfRX8_51 dX8_truncate_18 hh0.1 rfl ?_
      refine z_dup dX8_truncate_21 rfl ?_
      refine z_getI (ki := 1) zfRX8_70 dX8_truncate_22 hh0.2.2.2.2.2.2.2.1.1 rfl rfl ?_
      refine z_iload_n 1 dX8_truncate_25 rfl rfl ?_
      obtain ⟨q3, h⟩ := h
      refine z_isub dX8_truncate_26 q3 ?_
      refine z_putI (ki := 1) zfRX8_70 dX8_truncate_27 hh0.2.2.2.2.2.2.2.1.1 rfl rfl ?_
      refine z_genw (fun w4 hw4 => ?_)
      replace h := h w4 hw4
      refine z_aload_n 0 dX8_truncate_30 rfl rfl ?_
      refine z_getR (r := 140) zfRX8_51 dX8_truncate_31 hh0.1 rfl ?_
      refine z_getI (ki := 1) zfRX8_70 dX8_truncate_34 hh0.2.2.2.2.2.2.2.1.1 rfl rfl ?_
      exact z_ret (v := some (z_i (w4 140 1))) dX8_truncate_37 ⟨rfl, Or.inl rfl⟩ rfl h
    · replace h := h.2 c2
      refine z_iconst dX8_truncate_15 (by decide) ?_
      exact z_ret (v := some (z_i (-1))) dX8_truncate_16 ⟨rfl, Or.inl rfl⟩ rfl h
set_option maxRecDepth 100000 in
theorem t_X8_load {sh : List z_C} {w : Nat → Int → Int} {Q : Option z_V → z_S → Prop}  (hh0 : z_isTG sh 0) (h : z_CI mX4_read [z_r 139] sh w (fun y2 w1 => ∀ w7 : Nat → Int → Int, w7 = z_W w1 0 8 (if y2 = 0 then f_X4_position w1 else -2) → ∀ w8 : Nat → Int → Int, w8 = z_W w7 140 1 0 → ((y2 = 0 → Q (some (z_i (-1))) (sh, w8)) ∧ (¬ y2 = 0 → z_CV mX3_copyFrom [z_r 1, z_r 142] sh w8 (fun w10 => z_CV mX5_clear [z_r 114] sh w10 (fun w11 => z_CV mX0_clear [z_r 24] sh w11 (fun w12 => z_CV mX2_build [z_r 12, z_r 1, z_i (-1)] sh w12 (fun w13 => Q (some (z_i (w13 1 11))) (sh, w13))))))))) : z_Sem mX8_load (sh.length, 0) 0 [(0, z_r 0)] [] (sh, w) Q := by
  refine z_aload_n 0 dX8_load_0 rfl rfl ?_
  refine z_getR (r := 139) zfRX8_43 dX8_load_1 hh0.1 rfl ?_
  refine z_callV (As := []) (rest := []) zmX4_read znX4_read zsX4_read (show z_Cl[4]? = some (RX4, TX4, 6) from rfl) zlRX8_79 ⟨Nat.le_of_ble_eq_true rfl, Nat.le_of_ble_eq_true rfl⟩ dX8_load_4 hh0.2.2.2.2.2.2.1.1 rfl rfl z_a0 (Nat.le_of_ble_eq_true rfl) (Nat.le_of_ble_eq_true rfl) ⟨rfl, rfl⟩ (z_CIm h ?_)
  intro y2 w1 h
  show z_Sem mX8_load (sh.length, 0) 7 [(0, z_r 0)] [z_i y2] (sh, w1) Q
  refine z_istore_n (L' := [(1, z_i y2), (0, z_r 0)]) dX8_load_7 rfl (by decide) rfl ?_
  refine z_aload_n 1 dX8_load_8 rfl rfl ?_
  refine z_iload_n 0 dX8_load_9 rfl rfl ?_
  suffices hJ3 : z_Sem mX8_load (sh.length, 0) 25 [(0, z_r 0), (1, z_i y2)] [z_i (if y2 = 0 then f_X4_position w1 else -2), z_r 0] (sh, w1) Q by
    refine z_if_eq (tgt := 18) dX8_load_10 (by decide) (fun c4 => ?_) (fun c4 => ?_)
    · skip
      refine z_aload_n 1 dX8_load_18 rfl rfl ?_
      refine z_getR (r := 139) zfRX8_43 dX8_load_19 hh0.1 rfl ?_
      refine z_callV (As := []) (rest := [z_r 0]) zmX4_position znX4_position zsX4_position (show z_Cl[4]? = some (RX4, TX4, 6) from rfl) zlRX8_83 ⟨Nat.le_of_ble_eq_true rfl, Nat.le_of_ble_eq_true rfl⟩ dX8_load_22 hh0.2.2.2.2.2.2.1.1 rfl rfl z_a0 (Nat.le_of_ble_eq_true rfl) (Nat.le_of_ble_eq_true rfl) ⟨rfl, rfl⟩ ?_
      refine t_X4_position hh0.2.2.2.2.2.2.1 ?_
      show z_Sem mX8_load (sh.length, 0) 25 [(1, z_i y2), (0, z_r 0)] [z_i (f_X4_position w1), z_r 0] (sh, w1) Q
      refine z_sub (L' := [(0, z_r 0), (1, z_i y2)]) [1, 0] rfl ?_
      simp only [if_pos c4] at hJ3
      exact hJ3
    · skip
      refine z_bipush dX8_load_13 (by decide) (by decide) ?_
      refine z_goto (tgt := 25) dX8_load_15 (by decide) ?_
      refine z_sub (L' := [(0, z_r 0), (1, z_i y2)]) [1, 0] rfl ?_
      simp only [if_neg c4] at hJ3
      exact hJ3
  refine z_putI (ki := 8) zfRX8_59 dX8_load_25 hh0.1 rfl rfl ?_
  refine z_genw (fun w7 hw7 => ?_)
  replace h := h w7 hw7
  refine z_aload_n 0 dX8_load_28 rfl rfl ?_
  refine z_getR (r := 140) zfRX8_51 dX8_load_29 hh0.1 rfl ?_
  refine z_iconst dX8_load_32 (by decide) ?_
  refine z_putI (ki := 1) zfRX8_70 dX8_load_33 hh0.2.2.2.2.2.2.2.1.1 rfl rfl ?_
  refine z_genw (fun w8 hw8 => ?_)
  replace h := h w8 hw8
  refine z_iload_n 1 dX8_load_36 rfl rfl ?_
  refine z_if_ne (tgt := 42) dX8_load_37 (by decide) (fun c9 => ?_) (fun c9 => ?_)
  · replace h := h.2 c9
    refine z_aload_n 0 dX8_load_42 rfl rfl ?_
    refine z_getR (r := 1) zfRX8_12 dX8_load_43 hh0.1 rfl ?_
    refine z_aload_n 0 dX8_load_46 rfl rfl ?_
    refine z_getR (r := 139) zfRX8_43 dX8_load_47 hh0.1 rfl ?_
    refine z_getR (r := 142) zfRX8_87 dX8_load_50 hh0.2.2.2.2.2.2.1.1 rfl ?_
    refine z_callV (As := [z_r 142]) (rest := []) zmX3_copyFrom znX3_copyFrom zsX3_copyFrom (show z_Cl[3]? = some (RX3, TX3, 12) from rfl) zlRX8_90 ⟨Nat.le_of_ble_eq_true rfl, Nat.le_of_ble_eq_true rfl⟩ dX8_load_53 hh0.2.1.1 rfl rfl (z_ar z_a0) (Nat.le_of_ble_eq_true rfl) (Nat.le_of_ble_eq_true rfl) ⟨rfl, rfl⟩ (z_CVm h ?_)
    intro w10 h
    show z_Sem mX8_load (sh.length, 0) 56 [(0, z_r 0), (1, z_i y2)] [] (sh, w10) Q
    refine z_aload_n 0 dX8_load_56 rfl rfl ?_
    refine z_getR (r := 114) zfRX8_36 dX8_load_57 hh0.1 rfl ?_
    refine z_callV (As := []) (rest := []) zmX5_clear znX5_clear zsX5_clear (show z_Cl[5]? = some (RX5, TX5, 2) from rfl) zlRX8_94 ⟨Nat.le_of_ble_eq_true rfl, Nat.le_of_ble_eq_true rfl⟩ dX8_load_60 hh0.2.2.2.2.2.1.1 rfl rfl z_a0 (Nat.le_of_ble_eq_true rfl) (Nat.le_of_ble_eq_true rfl) ⟨rfl, rfl⟩ (z_CVm h ?_)
    intro w11 h
    show z_Sem mX8_load (sh.length, 0) 63 [(0, z_r 0), (1, z_i y2)] [] (sh, w11) Q
    refine z_aload_n 0 dX8_load_63 rfl rfl ?_
    refine z_getR (r := 24) zfRX8_29 dX8_load_64 hh0.1 rfl ?_
    refine z_callV (As := []) (rest := []) zmX0_clear znX0_clear zsX0_clear (show z_Cl[0]? = some (RX0, TX0, 3) from rfl) zlRX8_95 ⟨Nat.le_of_ble_eq_true rfl, Nat.le_of_ble_eq_true rfl⟩ dX8_load_67 hh0.2.2.2.2.1.1 rfl rfl z_a0 (Nat.le_of_ble_eq_true rfl) (Nat.le_of_ble_eq_true rfl) ⟨rfl, rfl⟩ (z_CVm h ?_)
    intro w12 h
    show z_Sem mX8_load (sh.length, 0) 70 [(0, z_r 0), (1, z_i y2)] [] (sh, w12) Q
    refine z_aload_n 0 dX8_load_70 rfl rfl ?_
    refine z_getR (r := 12) zfRX8_19 dX8_load_71 hh0.1 rfl ?_
    refine z_aload_n 0 dX8_load_74 rfl rfl ?_
    refine z_getR (r := 1) zfRX8_12 dX8_load_75 hh0.1 rfl ?_
    refine z_iconst dX8_load_78 (by decide) ?_
    refine z_callV (As := [z_r 1, z_i (-1)]) (rest := []) zmX2_build znX2_build zsX2_build (show z_Cl[2]? = some (RX2, TX2, 7) from rfl) zlRX8_66 ⟨Nat.le_of_ble_eq_true rfl, Nat.le_of_ble_eq_true rfl⟩ dX8_load_79 hh0.2.2.1.1 rfl rfl (z_ar (z_ai z_a0)) (Nat.le_of_ble_eq_true rfl) (Nat.le_of_ble_eq_true rfl) ⟨rfl, rfl⟩ (z_CVm h ?_)
    intro w13 h
    show z_Sem mX8_load (sh.length, 0) 82 [(0, z_r 0), (1, z_i y2)] [] (sh, w13) Q
    refine z_aload_n 0 dX8_load_82 rfl rfl ?_
    refine z_getR (r := 1) zfRX8_12 dX8_load_83 hh0.1 rfl ?_
    refine z_getI (ki := 11) zfRX8_96 dX8_load_86 hh0.2.1.1 rfl rfl ?_
    exact z_ret (v := some (z_i (w13 1 11))) dX8_load_89 ⟨rfl, Or.inl rfl⟩ rfl h
  · replace h := h.1 c9
    refine z_iconst dX8_load_40 (by decide) ?_
    exact z_ret (v := some (z_i (-1))) dX8_load_41 ⟨rfl, Or.inl rfl⟩ rfl h
def f_X8_errorPosition (w : Nat → Int → Int)  : Int := w 0 8
set_option maxRecDepth 100000 in
theorem t_X8_errorPosition {sh : List z_C} {w : Nat → Int → Int} {Q : Option z_V → z_S → Prop}  (hh0 : z_isTG sh 0) (h : Q (some (z_i (f_X8_errorPosition w))) (sh, w)) : z_Sem mX8_errorPosition (sh.length, 0) 0 [(0, z_r 0)] [] (sh, w) Q := by
  unfold f_X8_errorPosition at h
  refine z_aload_n 0 dX8_errorPosition_0 rfl rfl ?_
  refine z_getI (ki := 8) zfRX8_59 dX8_errorPosition_1 hh0.1 rfl rfl ?_
  exact z_ret (v := some (z_i (w 0 8))) dX8_errorPosition_4 ⟨rfl, Or.inl rfl⟩ rfl h
set_option maxRecDepth 100000 in
theorem t_X8_isNewNameOnTape {sh : List z_C} {w : Nat → Int → Int} {Q : Option z_V → z_S → Prop}  (hh0 : z_isTG sh 0) (h : z_CI mX6_isName [z_r 140, z_i 0, z_i (w 140 1)] sh w (fun y2 w1 => ((y2 = 0 → Q (some (z_i 0)) (sh, w1)) ∧ (¬ y2 = 0 → z_CI mX3_findEvent [z_r 1, z_r 140, z_i 0, z_i (w1 140 1)] sh w1 (fun y5 w4 => Q (some (z_i (if y5 = (-1) then 1 else 0))) (sh, w4)))))) : z_Sem mX8_isNewNameOnTape (sh.length, 0) 0 [(0, z_r 0)] [] (sh, w) Q := by
  refine z_aload_n 0 dX8_isNewNameOnTape_0 rfl rfl ?_
  refine z_getR (r := 140) zfRX8_51 dX8_isNewNameOnTape_1 hh0.1 rfl ?_
  refine z_iconst dX8_isNewNameOnTape_4 (by decide) ?_
  refine z_aload_n 0 dX8_isNewNameOnTape_5 rfl rfl ?_
  refine z_getR (r := 140) zfRX8_51 dX8_isNewNameOnTape_6 hh0.1 rfl ?_
  refine z_getI (ki := 1) zfRX8_70 dX8_isNewNameOnTape_9 hh0.2.2.2.2.2.2.2.1.1 rfl rfl ?_
  refine z_callV (As := [z_i 0, z_i (w 140 1)]) (rest := []) zmX6_isName znX6_isName zsX6_isName (show z_Cl[6]? = some (RX6, TX6, 2) from rfl) zlRX8_370 ⟨Nat.le_of_ble_eq_true rfl, Nat.le_of_ble_eq_true rfl⟩ dX8_isNewNameOnTape_12 hh0.2.2.2.2.2.2.2.1.1 rfl rfl (z_ai (z_ai z_a0)) (Nat.le_of_ble_eq_true rfl) (Nat.le_of_ble_eq_true rfl) ⟨rfl, rfl⟩ (z_CIm h ?_)
  intro y2 w1 h
  show z_Sem mX8_isNewNameOnTape (sh.length, 0) 15 [(0, z_r 0)] [z_i y2] (sh, w1) Q
  refine z_if_eq (tgt := 45) dX8_isNewNameOnTape_15 (by decide) (fun c3 => ?_) (fun c3 => ?_)
  · replace h := h.1 c3
    refine z_iconst dX8_isNewNameOnTape_45 (by decide) ?_
    exact z_ret (v := some (z_i 0)) dX8_isNewNameOnTape_46 ⟨rfl, Or.inr (Or.inl ⟨rfl, (by decide)⟩)⟩ rfl h
  · replace h := h.2 c3
    refine z_aload_n 0 dX8_isNewNameOnTape_18 rfl rfl ?_
    refine z_getR (r := 1) zfRX8_12 dX8_isNewNameOnTape_19 hh0.1 rfl ?_
    refine z_aload_n 0 dX8_isNewNameOnTape_22 rfl rfl ?_
    refine z_getR (r := 140) zfRX8_51 dX8_isNewNameOnTape_23 hh0.1 rfl ?_
    refine z_iconst dX8_isNewNameOnTape_26 (by decide) ?_
    refine z_aload_n 0 dX8_isNewNameOnTape_27 rfl rfl ?_
    refine z_getR (r := 140) zfRX8_51 dX8_isNewNameOnTape_28 hh0.1 rfl ?_
    refine z_getI (ki := 1) zfRX8_70 dX8_isNewNameOnTape_31 hh0.2.2.2.2.2.2.2.1.1 rfl rfl ?_
    refine z_callV (As := [z_r 140, z_i 0, z_i (w1 140 1)]) (rest := []) zmX3_findEvent znX3_findEvent zsX3_findEvent (show z_Cl[3]? = some (RX3, TX3, 12) from rfl) zlRX8_373 ⟨Nat.le_of_ble_eq_true rfl, Nat.le_of_ble_eq_true rfl⟩ dX8_isNewNameOnTape_34 hh0.2.1.1 rfl rfl (z_ar (z_ai (z_ai z_a0))) (Nat.le_of_ble_eq_true rfl) (Nat.le_of_ble_eq_true rfl) ⟨rfl, rfl⟩ (z_CIm h ?_)
    intro y5 w4 h
    show z_Sem mX8_isNewNameOnTape (sh.length, 0) 37 [(0, z_r 0)] [z_i y5] (sh, w4) Q
    refine z_iconst dX8_isNewNameOnTape_37 (by decide) ?_
    suffices hJ6 : z_Sem mX8_isNewNameOnTape (sh.length, 0) 46 [] [z_i (if y5 = (-1) then 1 else 0)] (sh, w4) Q by
      refine z_icmp_ne (tgt := 45) dX8_isNewNameOnTape_38 (by decide) (fun c7 => ?_) (fun c7 => ?_)
      · skip
        refine z_iconst dX8_isNewNameOnTape_45 (by decide) ?_
        refine z_sub (L' := []) [] rfl ?_
        simp only [if_neg c7] at hJ6
        exact hJ6
      · skip
        refine z_iconst dX8_isNewNameOnTape_41 (by decide) ?_
        refine z_goto (tgt := 46) dX8_isNewNameOnTape_42 (by decide) ?_
        refine z_sub (L' := []) [] rfl ?_
        simp only [if_pos c7] at hJ6
        exact hJ6
    exact z_ret (v := some (z_i (if y5 = (-1) then 1 else 0))) dX8_isNewNameOnTape_46 ⟨rfl, Or.inr (Or.inl ⟨rfl, (z_it01 (by decide) (by decide))⟩)⟩ rfl h
set_option maxRecDepth 100000 in
theorem t_X8_finish {sh : List z_C} {w : Nat → Int → Int} {Q : Option z_V → z_S → Prop} {x1 : Int} {x2 : Int} {x3 : Int} (hh0 : z_isTG sh 0) (h : z_CV mX1_note [z_r 10, z_i x1, z_i x2, z_i x3] sh w (fun w1 => z_CV mX2_build [z_r 12, z_r 1, z_i (-1)] sh w1 (fun w2 => Q none (sh, w2)))) : z_Sem mX8_finish (sh.length, 0) 0 [(0, z_r 0), (1, z_i x1), (2, z_i x2), (3, z_i x3)] [] (sh, w) Q := by
  refine z_aload_n 0 dX8_finish_0 rfl rfl ?_
  refine z_getR (r := 1) zfRX8_12 dX8_finish_1 hh0.1 rfl ?_
  refine z_getR (r := 10) zfRX8_124 dX8_finish_4 hh0.2.1.1 rfl ?_
  refine z_iload_n 1 dX8_finish_7 rfl rfl ?_
  refine z_iload_n 2 dX8_finish_8 rfl rfl ?_
  refine z_iload_n 3 dX8_finish_9 rfl rfl ?_
  refine z_callV (As := [z_i x1, z_i x2, z_i x3]) (rest := []) zmX1_note znX1_note zsX1_note (show z_Cl[1]? = some (RX1, TX1, 3) from rfl) zlRX8_128 ⟨Nat.le_of_ble_eq_true rfl, Nat.le_of_ble_eq_true rfl⟩ dX8_finish_10 hh0.2.1.2.2.2.2.2.2.2.2.2.1 rfl rfl (z_ai (z_ai (z_ai z_a0))) (Nat.le_of_ble_eq_true rfl) (Nat.le_of_ble_eq_true rfl) ⟨rfl, rfl⟩ (z_CVm h ?_)
  intro w1 h
  show z_Sem mX8_finish (sh.length, 0) 13 [(0, z_r 0), (1, z_i x1), (2, z_i x2), (3, z_i x3)] [] (sh, w1) Q
  refine z_aload_n 0 dX8_finish_13 rfl rfl ?_
  refine z_getR (r := 12) zfRX8_19 dX8_finish_14 hh0.1 rfl ?_
  refine z_aload_n 0 dX8_finish_17 rfl rfl ?_
  refine z_getR (r := 1) zfRX8_12 dX8_finish_18 hh0.1 rfl ?_
  refine z_iconst dX8_finish_21 (by decide) ?_
  refine z_callV (As := [z_r 1, z_i (-1)]) (rest := []) zmX2_build znX2_build zsX2_build (show z_Cl[2]? = some (RX2, TX2, 7) from rfl) zlRX8_66 ⟨Nat.le_of_ble_eq_true rfl, Nat.le_of_ble_eq_true rfl⟩ dX8_finish_22 hh0.2.2.1.1 rfl rfl (z_ar (z_ai z_a0)) (Nat.le_of_ble_eq_true rfl) (Nat.le_of_ble_eq_true rfl) ⟨rfl, rfl⟩ (z_CVm h ?_)
  intro w2 h
  show z_Sem mX8_finish (sh.length, 0) 25 [(0, z_r 0), (1, z_i x1), (2, z_i x2), (3, z_i x3)] [] (sh, w2) Q
  exact z_ret (v := none) dX8_finish_25 ⟨rfl, rfl⟩ rfl h
set_option maxRecDepth 100000 in
theorem t_X8_open {sh : List z_C} {w : Nat → Int → Int} {Q : Option z_V → z_S → Prop}  (hh0 : z_isTG sh 0) (h : z_CI mX8_isNewNameOnTape [z_r 0] sh w (fun y2 w1 => ((y2 = 0 → Q (some (z_i (-1))) (sh, w1)) ∧ (¬ y2 = 0 → (((w1 1 10) = 10 → Q (some (z_i (-4))) (sh, w1)) ∧ (¬ (w1 1 10) = 10 → z_CV mX0_remember [z_r 24, z_r 1] sh w1 (fun w5 => z_CI mX3_addEvent [z_r 1, z_r 140, z_i 0, z_i (w5 140 1)] sh w5 (fun y7 w6 => ∀ w8 : Nat → Int → Int, w8 = z_W w6 140 1 0 → z_CV mX8_finish [z_r 0, z_i 0, z_i y7, z_i (w8 1 10)] sh w8 (fun w9 => Q (some (z_i y7)) (sh, w9)))))))))) : z_Sem mX8_open (sh.length, 0) 0 [(0, z_r 0)] [] (sh, w) Q := by
  refine z_aload_n 0 dX8_open_0 rfl rfl ?_
  refine z_callV (As := []) (rest := []) zmX8_isNewNameOnTape znX8_isNewNameOnTape zsX8_isNewNameOnTape (show z_Cl[8]? = some (RX8, TX8, 9) from rfl) zlRX8_99 ⟨Nat.le_of_ble_eq_true rfl, Nat.le_of_ble_eq_true rfl⟩ dX8_open_1 hh0.1 rfl rfl z_a0 (Nat.le_of_ble_eq_true rfl) (Nat.le_of_ble_eq_true rfl) ⟨rfl, rfl⟩ (z_CIm h ?_)
  intro y2 w1 h
  show z_Sem mX8_open (sh.length, 0) 4 [(0, z_r 0)] [z_i y2] (sh, w1) Q
  refine z_if_ne (tgt := 9) dX8_open_4 (by decide) (fun c3 => ?_) (fun c3 => ?_)
  · replace h := h.2 c3
    refine z_aload_n 0 dX8_open_9 rfl rfl ?_
    refine z_getR (r := 1) zfRX8_12 dX8_open_10 hh0.1 rfl ?_
    refine z_getI (ki := 10) zfRX8_102 dX8_open_13 hh0.2.1.1 rfl rfl ?_
    refine z_bipush dX8_open_16 (by decide) (by decide) ?_
    refine z_icmp_ne (tgt := 24) dX8_open_18 (by decide) (fun c4 => ?_) (fun c4 => ?_)
    · replace h := h.2 c4
      refine z_aload_n 0 dX8_open_24 rfl rfl ?_
      refine z_getR (r := 24) zfRX8_29 dX8_open_25 hh0.1 rfl ?_
      refine z_aload_n 0 dX8_open_28 rfl rfl ?_
      refine z_getR (r := 1) zfRX8_12 dX8_open_29 hh0.1 rfl ?_
      refine z_callV (As := [z_r 1]) (rest := []) zmX0_remember znX0_remember zsX0_remember (show z_Cl[0]? = some (RX0, TX0, 3) from rfl) zlRX8_105 ⟨Nat.le_of_ble_eq_true rfl, Nat.le_of_ble_eq_true rfl⟩ dX8_open_32 hh0.2.2.2.2.1.1 rfl rfl (z_ar z_a0) (Nat.le_of_ble_eq_true rfl) (Nat.le_of_ble_eq_true rfl) ⟨rfl, rfl⟩ (z_CVm h ?_)
      intro w5 h
      show z_Sem mX8_open (sh.length, 0) 35 [(0, z_r 0)] [] (sh, w5) Q
      refine z_aload_n 0 dX8_open_35 rfl rfl ?_
      refine z_getR (r := 1) zfRX8_12 dX8_open_36 hh0.1 rfl ?_
      refine z_aload_n 0 dX8_open_39 rfl rfl ?_
      refine z_getR (r := 140) zfRX8_51 dX8_open_40 hh0.1 rfl ?_
      refine z_iconst dX8_open_43 (by decide) ?_
      refine z_aload_n 0 dX8_open_44 rfl rfl ?_
      refine z_getR (r := 140) zfRX8_51 dX8_open_45 hh0.1 rfl ?_
      refine z_getI (ki := 1) zfRX8_70 dX8_open_48 hh0.2.2.2.2.2.2.2.1.1 rfl rfl ?_
      refine z_callV (As := [z_r 140, z_i 0, z_i (w5 140 1)]) (rest := []) zmX3_addEvent znX3_addEvent zsX3_addEvent (show z_Cl[3]? = some (RX3, TX3, 12) from rfl) zlRX8_108 ⟨Nat.le_of_ble_eq_true rfl, Nat.le_of_ble_eq_true rfl⟩ dX8_open_51 hh0.2.1.1 rfl rfl (z_ar (z_ai (z_ai z_a0))) (Nat.le_of_ble_eq_true rfl) (Nat.le_of_ble_eq_true rfl) ⟨rfl, rfl⟩ (z_CIm h ?_)
      intro y7 w6 h
      show z_Sem mX8_open (sh.length, 0) 54 [(0, z_r 0)] [z_i y7] (sh, w6) Q
      refine z_istore_n (L' := [(1, z_i y7), (0, z_r 0)]) dX8_open_54 rfl (by decide) rfl ?_
      refine z_aload_n 1 dX8_open_55 rfl rfl ?_
      refine z_getR (r := 140) zfRX8_51 dX8_open_56 hh0.1 rfl ?_
      refine z_iconst dX8_open_59 (by decide) ?_
      refine z_putI (ki := 1) zfRX8_70 dX8_open_60 hh0.2.2.2.2.2.2.2.1.1 rfl rfl ?_
      refine z_genw (fun w8 hw8 => ?_)
      replace h := h w8 hw8
      refine z_aload_n 1 dX8_open_63 rfl rfl ?_
      refine z_iconst dX8_open_64 (by decide) ?_
      refine z_iload_n 0 dX8_open_65 rfl rfl ?_
      refine z_aload_n 1 dX8_open_66 rfl rfl ?_
      refine z_getR (r := 1) zfRX8_12 dX8_open_67 hh0.1 rfl ?_
      refine z_getI (ki := 10) zfRX8_102 dX8_open_70 hh0.2.1.1 rfl rfl ?_
      refine z_callV (As := [z_i 0, z_i y7, z_i (w8 1 10)]) (rest := []) zmX8_finish znX8_finish zsX8_finish (show z_Cl[8]? = some (RX8, TX8, 9) from rfl) zlRX8_112 ⟨Nat.le_of_ble_eq_true rfl, Nat.le_of_ble_eq_true rfl⟩ dX8_open_73 hh0.1 rfl rfl (z_ai (z_ai (z_ai z_a0))) (Nat.le_of_ble_eq_true rfl) (Nat.le_of_ble_eq_true rfl) ⟨rfl, rfl⟩ (z_CVm h ?_)
      intro w9 h
      show z_Sem mX8_open (sh.length, 0) 76 [(1, z_i y7), (0, z_r 0)] [] (sh, w9) Q
      refine z_iload_n 0 dX8_open_76 rfl rfl ?_
      exact z_ret (v := some (z_i y7)) dX8_open_77 ⟨rfl, Or.inl rfl⟩ rfl h
    · replace h := h.1 c4
      refine z_bipush dX8_open_21 (by decide) (by decide) ?_
      exact z_ret (v := some (z_i (-4))) dX8_open_23 ⟨rfl, Or.inl rfl⟩ rfl h
  · replace h := h.1 c3
    refine z_iconst dX8_open_7 (by decide) ?_
    exact z_ret (v := some (z_i (-1))) dX8_open_8 ⟨rfl, Or.inl rfl⟩ rfl h
def f_X8_isEvent (w : Nat → Int → Int) (x1 : Int) : Int := if x1 < 0 then 0 else if (w 1 10) ≤ x1 then 0 else 1
set_option maxRecDepth 100000 in
theorem t_X8_isEvent {sh : List z_C} {w : Nat → Int → Int} {Q : Option z_V → z_S → Prop} {x1 : Int} (hh0 : z_isTG sh 0) (h : Q (some (z_i (f_X8_isEvent w x1))) (sh, w)) : z_Sem mX8_isEvent (sh.length, 0) 0 [(0, z_r 0), (1, z_i x1)] [] (sh, w) Q := by
  unfold f_X8_isEvent at h
  refine z_iload_n 1 dX8_isEvent_0 rfl rfl ?_
  suffices hJ1 : z_Sem mX8_isEvent (sh.length, 0) 20 [] [z_i (if x1 < 0 then 0 else if (w 1 10) ≤ x1 then 0 else 1)] (sh, w) Q by
    refine z_if_lt (tgt := 19) dX8_isEvent_1 (by decide) (fun c2 => ?_) (fun c2 => ?_)
    · skip
      refine z_iconst dX8_isEvent_19 (by decide) ?_
      refine z_sub (L' := []) [] rfl ?_
      simp only [if_pos c2] at hJ1
      exact hJ1
    · skip
      refine z_iload_n 1 dX8_isEvent_4 rfl rfl ?_
      refine z_aload_n 0 dX8_isEvent_5 rfl rfl ?_
      refine z_getR (r := 1) zfRX8_12 dX8_isEvent_6 hh0.1 rfl ?_
      refine z_getI (ki := 10) zfRX8_102 dX8_isEvent_9 hh0.2.1.1 rfl rfl ?_
      suffices hJ5 : z_Sem mX8_isEvent (sh.length, 0) 20 [] [z_i (if (w 1 10) ≤ x1 then 0 else 1)] (sh, w) Q by
        refine z_icmp_ge (tgt := 19) dX8_isEvent_12 (by decide) (fun c6 => ?_) (fun c6 => ?_)
        · skip
          refine z_iconst dX8_isEvent_19 (by decide) ?_
          refine z_sub (L' := []) [] rfl ?_
          simp only [if_pos c6] at hJ5
          exact hJ5
        · skip
          refine z_iconst dX8_isEvent_15 (by decide) ?_
          refine z_goto (tgt := 20) dX8_isEvent_16 (by decide) ?_
          refine z_sub (L' := []) [] rfl ?_
          simp only [if_neg c6] at hJ5
          exact hJ5
      simp only [if_neg c2] at hJ1
      exact hJ1
  exact z_ret (v := some (z_i (if x1 < 0 then 0 else if (w 1 10) ≤ x1 then 0 else 1))) dX8_isEvent_20 ⟨rfl, Or.inr (Or.inl ⟨rfl, (z_it01 (by decide) (z_it01 (by decide) (by decide)))⟩)⟩ rfl h
def f_X8_areTwoEvents (w : Nat → Int → Int) (x1 : Int) (x2 : Int) : Int := if (f_X8_isEvent w x1) = 0 then 0 else if (f_X8_isEvent w x2) = 0 then 0 else if x1 = x2 then 0 else 1
set_option maxRecDepth 100000 in
theorem t_X8_areTwoEvents {sh : List z_C} {w : Nat → Int → Int} {Q : Option z_V → z_S → Prop} {x1 : Int} {x2 : Int} (hh0 : z_isTG sh 0) (h : Q (some (z_i (f_X8_areTwoEvents w x1 x2))) (sh, w)) : z_Sem mX8_areTwoEvents (sh.length, 0) 0 [(0, z_r 0), (1, z_i x1), (2, z_i x2)] [] (sh, w) Q := by
  unfold f_X8_areTwoEvents at h
  refine z_aload_n 0 dX8_areTwoEvents_0 rfl rfl ?_
  refine z_iload_n 1 dX8_areTwoEvents_1 rfl rfl ?_
  refine z_callV (As := [z_i x1]) (rest := []) zmX8_isEvent znX8_isEvent zsX8_isEvent (show z_Cl[8]? = some (RX8, TX8, 9) from rfl) zlRX8_163 ⟨Nat.le_of_ble_eq_true rfl, Nat.le_of_ble_eq_true rfl⟩ dX8_areTwoEvents_2 hh0.1 rfl rfl (z_ai z_a0) (Nat.le_of_ble_eq_true rfl) (Nat.le_of_ble_eq_true rfl) ⟨rfl, rfl⟩ ?_
  refine t_X8_isEvent hh0 ?_
  show z_Sem mX8_areTwoEvents (sh.length, 0) 5 [(0, z_r 0), (1, z_i x1), (2, z_i x2)] [z_i (f_X8_isEvent w x1)] (sh, w) Q
  suffices hJ1 : z_Sem mX8_areTwoEvents (sh.length, 0) 26 [] [z_i (if (f_X8_isEvent w x1) = 0 then 0 else if (f_X8_isEvent w x2) = 0 then 0 else if x1 = x2 then 0 else 1)] (sh, w) Q by
    refine z_if_eq (tgt := 25) dX8_areTwoEvents_5 (by decide) (fun c2 => ?_) (fun c2 => ?_)
    · skip
      refine z_iconst dX8_areTwoEvents_25 (by decide) ?_
      refine z_sub (L' := []) [] rfl ?_
      simp only [if_pos c2] at hJ1
      exact hJ1
    · skip
      refine z_aload_n 0 dX8_areTwoEvents_8 rfl rfl ?_
      refine z_iload_n 2 dX8_areTwoEvents_9 rfl rfl ?_
      refine z_callV (As := [z_i x2]) (rest := []) zmX8_isEvent znX8_isEvent zsX8_isEvent (show z_Cl[8]? = some (RX8, TX8, 9) from rfl) zlRX8_163 ⟨Nat.le_of_ble_eq_true rfl, Nat.le_of_ble_eq_true rfl⟩ dX8_areTwoEvents_10 hh0.1 rfl rfl (z_ai z_a0) (Nat.le_of_ble_eq_true rfl) (Nat.le_of_ble_eq_true rfl) ⟨rfl, rfl⟩ ?_
      refine t_X8_isEvent hh0 ?_
      show z_Sem mX8_areTwoEvents (sh.length, 0) 13 [(0, z_r 0), (1, z_i x1), (2, z_i x2)] [z_i (f_X8_isEvent w x2)] (sh, w) Q
      suffices hJ5 : z_Sem mX8_areTwoEvents (sh.length, 0) 26 [] [z_i (if (f_X8_isEvent w x2) = 0 then 0 else if x1 = x2 then 0 else 1)] (sh, w) Q by
        refine z_if_eq (tgt := 25) dX8_areTwoEvents_13 (by decide) (fun c6 => ?_) (fun c6 => ?_)
        · skip
          refine z_iconst dX8_areTwoEvents_25 (by decide) ?_
          refine z_sub (L' := []) [] rfl ?_
          simp only [if_pos c6] at hJ5
          exact hJ5
        · skip
          refine z_iload_n 1 dX8_areTwoEvents_16 rfl rfl ?_
          refine z_iload_n 2 dX8_areTwoEvents_17 rfl rfl ?_
          suffices hJ9 : z_Sem mX8_areTwoEvents (sh.length, 0) 26 [] [z_i (if x1 = x2 then 0 else 1)] (sh, w) Q by
            refine z_icmp_eq (tgt := 25) dX8_areTwoEvents_18 (by decide) (fun c10 => ?_) (fun c10 => ?_)
            · skip
              refine z_iconst dX8_areTwoEvents_25 (by decide) ?_
              refine z_sub (L' := []) [] rfl ?_
              simp only [if_pos c10] at hJ9
              exact hJ9
            · skip
              refine z_iconst dX8_areTwoEvents_21 (by decide) ?_
              refine z_goto (tgt := 26) dX8_areTwoEvents_22 (by decide) ?_
              refine z_sub (L' := []) [] rfl ?_
              simp only [if_neg c10] at hJ9
              exact hJ9
          simp only [if_neg c6] at hJ5
          exact hJ5
      simp only [if_neg c2] at hJ1
      exact hJ1
  exact z_ret (v := some (z_i (if (f_X8_isEvent w x1) = 0 then 0 else if (f_X8_isEvent w x2) = 0 then 0 else if x1 = x2 then 0 else 1))) dX8_areTwoEvents_26 ⟨rfl, Or.inr (Or.inl ⟨rfl, (z_it01 (by decide) (z_it01 (by decide) (z_it01 (by decide) (by decide))))⟩)⟩ rfl h
def f_X8_isKind (w : Nat → Int → Int) (x0 : Int) : Int := if x0 = 0 then 1 else if x0 = 1 then 1 else 0
set_option maxRecDepth 100000 in
theorem t_X8_isKind {sh : List z_C} {w : Nat → Int → Int} {Q : Option z_V → z_S → Prop} {x0 : Int}  (h : Q (some (z_i (f_X8_isKind w x0))) (sh, w)) : z_Sem mX8_isKind (sh.length, 0) 0 [(0, z_i x0)] [] (sh, w) Q := by
  unfold f_X8_isKind at h
  refine z_iload_n 0 dX8_isKind_0 rfl rfl ?_
  suffices hJ1 : z_Sem mX8_isKind (sh.length, 0) 14 [] [z_i (if x0 = 0 then 1 else if x0 = 1 then 1 else 0)] (sh, w) Q by
    refine z_if_eq (tgt := 9) dX8_isKind_1 (by decide) (fun c2 => ?_) (fun c2 => ?_)
    · skip
      refine z_iconst dX8_isKind_9 (by decide) ?_
      refine z_goto (tgt := 14) dX8_isKind_10 (by decide) ?_
      refine z_sub (L' := []) [] rfl ?_
      simp only [if_pos c2] at hJ1
      exact hJ1
    · skip
      refine z_iload_n 0 dX8_isKind_4 rfl rfl ?_
      refine z_iconst dX8_isKind_5 (by decide) ?_
      suffices hJ5 : z_Sem mX8_isKind (sh.length, 0) 14 [] [z_i (if x0 = 1 then 1 else 0)] (sh, w) Q by
        refine z_icmp_ne (tgt := 13) dX8_isKind_6 (by decide) (fun c6 => ?_) (fun c6 => ?_)
        · skip
          refine z_iconst dX8_isKind_13 (by decide) ?_
          refine z_sub (L' := []) [] rfl ?_
          simp only [if_neg c6] at hJ5
          exact hJ5
        · skip
          refine z_iconst dX8_isKind_9 (by decide) ?_
          refine z_goto (tgt := 14) dX8_isKind_10 (by decide) ?_
          refine z_sub (L' := []) [] rfl ?_
          simp only [if_pos c6] at hJ5
          exact hJ5
      simp only [if_neg c2] at hJ1
      exact hJ1
  exact z_ret (v := some (z_i (if x0 = 0 then 1 else if x0 = 1 then 1 else 0))) dX8_isKind_14 ⟨rfl, Or.inr (Or.inl ⟨rfl, (z_it01 (by decide) (z_it01 (by decide) (by decide)))⟩)⟩ rfl h
def f_X8_isNumber (w : Nat → Int → Int) (x0 : Int) : Int := if x0 < 0 then 0 else if 999 < x0 then 0 else 1
set_option maxRecDepth 100000 in
theorem t_X8_isNumber {sh : List z_C} {w : Nat → Int → Int} {Q : Option z_V → z_S → Prop} {x0 : Int}  (h : Q (some (z_i (f_X8_isNumber w x0))) (sh, w)) : z_Sem mX8_isNumber (sh.length, 0) 0 [(0, z_i x0)] [] (sh, w) Q := by
  unfold f_X8_isNumber at h
  refine z_iload_n 0 dX8_isNumber_0 rfl rfl ?_
  suffices hJ1 : z_Sem mX8_isNumber (sh.length, 0) 16 [] [z_i (if x0 < 0 then 0 else if 999 < x0 then 0 else 1)] (sh, w) Q by
    refine z_if_lt (tgt := 15) dX8_isNumber_1 (by decide) (fun c2 => ?_) (fun c2 => ?_)
    · skip
      refine z_iconst dX8_isNumber_15 (by decide) ?_
      refine z_sub (L' := []) [] rfl ?_
      simp only [if_pos c2] at hJ1
      exact hJ1
    · skip
      refine z_iload_n 0 dX8_isNumber_4 rfl rfl ?_
      refine z_sipush dX8_isNumber_5 (by decide) (by decide) ?_
      suffices hJ5 : z_Sem mX8_isNumber (sh.length, 0) 16 [] [z_i (if 999 < x0 then 0 else 1)] (sh, w) Q by
        refine z_icmp_gt (tgt := 15) dX8_isNumber_8 (by decide) (fun c6 => ?_) (fun c6 => ?_)
        · skip
          refine z_iconst dX8_isNumber_15 (by decide) ?_
          refine z_sub (L' := []) [] rfl ?_
          simp only [if_pos c6] at hJ5
          exact hJ5
        · skip
          refine z_iconst dX8_isNumber_11 (by decide) ?_
          refine z_goto (tgt := 16) dX8_isNumber_12 (by decide) ?_
          refine z_sub (L' := []) [] rfl ?_
          simp only [if_neg c6] at hJ5
          exact hJ5
      simp only [if_neg c2] at hJ1
      exact hJ1
  exact z_ret (v := some (z_i (if x0 < 0 then 0 else if 999 < x0 then 0 else 1))) dX8_isNumber_16 ⟨rfl, Or.inr (Or.inl ⟨rfl, (z_it01 (by decide) (z_it01 (by decide) (by decide)))⟩)⟩ rfl h
def f_X8_isTellable (w : Nat → Int → Int) (x1 : Int) (x2 : Int) (x3 : Int) (x4 : Int) : Int := if (f_X8_areTwoEvents w x1 x2) = 0 then 0 else if (f_X8_isKind w x3) = 0 then 0 else if (f_X8_isNumber w x4) = 0 then 0 else 1
set_option maxRecDepth 100000 in
theorem t_X8_isTellable {sh : List z_C} {w : Nat → Int → Int} {Q : Option z_V → z_S → Prop} {x1 : Int} {x2 : Int} {x3 : Int} {x4 : Int} (hh0 : z_isTG sh 0) (h : Q (some (z_i (f_X8_isTellable w x1 x2 x3 x4))) (sh, w)) : z_Sem mX8_isTellable (sh.length, 0) 0 [(0, z_r 0), (1, z_i x1), (2, z_i x2), (3, z_i x3), (4, z_i x4)] [] (sh, w) Q := by
  unfold f_X8_isTellable at h
  refine z_aload_n 0 dX8_isTellable_0 rfl rfl ?_
  refine z_iload_n 1 dX8_isTellable_1 rfl rfl ?_
  refine z_iload_n 2 dX8_isTellable_2 rfl rfl ?_
  refine z_callV (As := [z_i x1, z_i x2]) (rest := []) zmX8_areTwoEvents znX8_areTwoEvents zsX8_areTwoEvents (show z_Cl[8]? = some (RX8, TX8, 9) from rfl) zlRX8_286 ⟨Nat.le_of_ble_eq_true rfl, Nat.le_of_ble_eq_true rfl⟩ dX8_isTellable_3 hh0.1 rfl rfl (z_ai (z_ai z_a0)) (Nat.le_of_ble_eq_true rfl) (Nat.le_of_ble_eq_true rfl) ⟨rfl, rfl⟩ ?_
  refine t_X8_areTwoEvents hh0 ?_
  show z_Sem mX8_isTellable (sh.length, 0) 6 [(0, z_r 0), (1, z_i x1), (2, z_i x2), (3, z_i x3), (4, z_i x4)] [z_i (f_X8_areTwoEvents w x1 x2)] (sh, w) Q
  suffices hJ1 : z_Sem mX8_isTellable (sh.length, 0) 29 [] [z_i (if (f_X8_areTwoEvents w x1 x2) = 0 then 0 else if (f_X8_isKind w x3) = 0 then 0 else if (f_X8_isNumber w x4) = 0 then 0 else 1)] (sh, w) Q by
    refine z_if_eq (tgt := 28) dX8_isTellable_6 (by decide) (fun c2 => ?_) (fun c2 => ?_)
    · skip
      refine z_iconst dX8_isTellable_28 (by decide) ?_
      refine z_sub (L' := []) [] rfl ?_
      simp only [if_pos c2] at hJ1
      exact hJ1
    · skip
      refine z_iload_n 3 dX8_isTellable_9 rfl rfl ?_
      refine z_callS (As := [z_i x3]) (rest := []) zmX8_isKind ztX8_isKind zlRX8_325 ⟨Nat.le_of_ble_eq_true rfl, Nat.le_of_ble_eq_true rfl⟩ dX8_isTellable_10 rfl rfl (z_ai z_a0) (Nat.le_of_ble_eq_true rfl) (Nat.le_of_ble_eq_true rfl) ⟨rfl, rfl⟩ ?_
      refine t_X8_isKind  ?_
      show z_Sem mX8_isTellable (sh.length, 0) 13 [(0, z_r 0), (1, z_i x1), (2, z_i x2), (3, z_i x3), (4, z_i x4)] [z_i (f_X8_isKind w x3)] (sh, w) Q
      suffices hJ5 : z_Sem mX8_isTellable (sh.length, 0) 29 [] [z_i (if (f_X8_isKind w x3) = 0 then 0 else if (f_X8_isNumber w x4) = 0 then 0 else 1)] (sh, w) Q by
        refine z_if_eq (tgt := 28) dX8_isTellable_13 (by decide) (fun c6 => ?_) (fun c6 => ?_)
        · skip
          refine z_iconst dX8_isTellable_28 (by decide) ?_
          refine z_sub (L' := []) [] rfl ?_
          simp only [if_pos c6] at hJ5
          exact hJ5
        · skip
          refine z_iload 4 dX8_isTellable_16 rfl ?_
          refine z_callS (As := [z_i x4]) (rest := []) zmX8_isNumber ztX8_isNumber zlRX8_148 ⟨Nat.le_of_ble_eq_true rfl, Nat.le_of_ble_eq_true rfl⟩ dX8_isTellable_18 rfl rfl (z_ai z_a0) (Nat.le_of_ble_eq_true rfl) (Nat.le_of_ble_eq_true rfl) ⟨rfl, rfl⟩ ?_
          refine t_X8_isNumber  ?_
          show z_Sem mX8_isTellable (sh.length, 0) 21 [(0, z_r 0), (1, z_i x1), (2, z_i x2), (3, z_i x3), (4, z_i x4)] [z_i (f_X8_isNumber w x4)] (sh, w) Q
          suffices hJ9 : z_Sem mX8_isTellable (sh.length, 0) 29 [] [z_i (if (f_X8_isNumber w x4) = 0 then 0 else 1)] (sh, w) Q by
            refine z_if_eq (tgt := 28) dX8_isTellable_21 (by decide) (fun c10 => ?_) (fun c10 => ?_)
            · skip
              refine z_iconst dX8_isTellable_28 (by decide) ?_
              refine z_sub (L' := []) [] rfl ?_
              simp only [if_pos c10] at hJ9
              exact hJ9
            · skip
              refine z_iconst dX8_isTellable_24 (by decide) ?_
              refine z_goto (tgt := 29) dX8_isTellable_25 (by decide) ?_
              refine z_sub (L' := []) [] rfl ?_
              simp only [if_neg c10] at hJ9
              exact hJ9
          simp only [if_neg c6] at hJ5
          exact hJ5
      simp only [if_neg c2] at hJ1
      exact hJ1
  exact z_ret (v := some (z_i (if (f_X8_areTwoEvents w x1 x2) = 0 then 0 else if (f_X8_isKind w x3) = 0 then 0 else if (f_X8_isNumber w x4) = 0 then 0 else 1))) dX8_isTellable_29 ⟨rfl, Or.inr (Or.inl ⟨rfl, (z_it01 (by decide) (z_it01 (by decide) (z_it01 (by decide) (by decide))))⟩)⟩ rfl h
set_option maxRecDepth 100000 in
theorem t_X8_tell {sh : List z_C} {w : Nat → Int → Int} {Q : Option z_V → z_S → Prop} {x1 : Int} {x2 : Int} {x3 : Int} {x4 : Int} (hh0 : z_isTG sh 0) (h : (((f_X8_isTellable w x1 x2 x3 x4) = 0 → Q (some (z_i (-1))) (sh, w)) ∧ (¬ (f_X8_isTellable w x1 x2 x3 x4) = 0 → (((w 1 11) = 24 → Q (some (z_i (-4))) (sh, w)) ∧ (¬ (w 1 11) = 24 → z_CV mX0_remember [z_r 24, z_r 1] sh w (fun w3 => (s_X2_leastRing w3 12 x1 x2 x3 x4) ∧ ((0 ≤ (f_X2_leastRing w3 12 x1 x2 x3 x4) → z_CI mX3_addGap [z_r 1, z_i x1, z_i x2, z_i x3, z_i x4, z_i 1] sh w3 (fun y7 w6 => z_CV mX8_finish [z_r 0, z_i 1, z_i y7, z_i x4] sh w6 (fun w8 => Q (some (z_i y7)) (sh, w8)))) ∧ (¬ 0 ≤ (f_X2_leastRing w3 12 x1 x2 x3 x4) → z_CV mX1_note [z_r 10, z_i 8, z_i x3, z_i x4] sh w3 (fun w9 => Q (some (z_i (-5))) (sh, w9)))))))))) : z_Sem mX8_tell (sh.length, 0) 0 [(0, z_r 0), (1, z_i x1), (2, z_i x2), (3, z_i x3), (4, z_i x4)] [] (sh, w) Q := by
  refine z_aload_n 0 dX8_tell_0 rfl rfl ?_
  refine z_iload_n 1 dX8_tell_1 rfl rfl ?_
  refine z_iload_n 2 dX8_tell_2 rfl rfl ?_
  refine z_iload_n 3 dX8_tell_3 rfl rfl ?_
  refine z_iload 4 dX8_tell_4 rfl ?_
  refine z_callV (As := [z_i x1, z_i x2, z_i x3, z_i x4]) (rest := []) zmX8_isTellable znX8_isTellable zsX8_isTellable (show z_Cl[8]? = some (RX8, TX8, 9) from rfl) zlRX8_116 ⟨Nat.le_of_ble_eq_true rfl, Nat.le_of_ble_eq_true rfl⟩ dX8_tell_6 hh0.1 rfl rfl (z_ai (z_ai (z_ai (z_ai z_a0)))) (Nat.le_of_ble_eq_true rfl) (Nat.le_of_ble_eq_true rfl) ⟨rfl, rfl⟩ ?_
  refine t_X8_isTellable hh0 ?_
  show z_Sem mX8_tell (sh.length, 0) 9 [(0, z_r 0), (1, z_i x1), (2, z_i x2), (3, z_i x3), (4, z_i x4)] [z_i (f_X8_isTellable w x1 x2 x3 x4)] (sh, w) Q
  refine z_if_ne (tgt := 14) dX8_tell_9 (by decide) (fun c1 => ?_) (fun c1 => ?_)
  · replace h := h.2 c1
    refine z_aload_n 0 dX8_tell_14 rfl rfl ?_
    refine z_getR (r := 1) zfRX8_12 dX8_tell_15 hh0.1 rfl ?_
    refine z_getI (ki := 11) zfRX8_96 dX8_tell_18 hh0.2.1.1 rfl rfl ?_
    refine z_bipush dX8_tell_21 (by decide) (by decide) ?_
    refine z_icmp_ne (tgt := 29) dX8_tell_23 (by decide) (fun c2 => ?_) (fun c2 => ?_)
    · replace h := h.2 c2
      refine z_aload_n 0 dX8_tell_29 rfl rfl ?_
      refine z_getR (r := 24) zfRX8_29 dX8_tell_30 hh0.1 rfl ?_
      refine z_aload_n 0 dX8_tell_33 rfl rfl ?_
      refine z_getR (r := 1) zfRX8_12 dX8_tell_34 hh0.1 rfl ?_
      refine z_callV (As := [z_r 1]) (rest := []) zmX0_remember znX0_remember zsX0_remember (show z_Cl[0]? = some (RX0, TX0, 3) from rfl) zlRX8_105 ⟨Nat.le_of_ble_eq_true rfl, Nat.le_of_ble_eq_true rfl⟩ dX8_tell_37 hh0.2.2.2.2.1.1 rfl rfl (z_ar z_a0) (Nat.le_of_ble_eq_true rfl) (Nat.le_of_ble_eq_true rfl) ⟨rfl, rfl⟩ (z_CVm h ?_)
      intro w3 h
      show z_Sem mX8_tell (sh.length, 0) 40 [(0, z_r 0), (1, z_i x1), (2, z_i x2), (3, z_i x3), (4, z_i x4)] [] (sh, w3) Q
      refine z_aload_n 0 dX8_tell_40 rfl rfl ?_
      refine z_getR (r := 12) zfRX8_19 dX8_tell_41 hh0.1 rfl ?_
      refine z_iload_n 1 dX8_tell_44 rfl rfl ?_
      refine z_iload_n 2 dX8_tell_45 rfl rfl ?_
      refine z_iload_n 3 dX8_tell_46 rfl rfl ?_
      refine z_iload 4 dX8_tell_47 rfl ?_
      obtain ⟨q4, h⟩ := h
      refine z_callV (As := [z_i x1, z_i x2, z_i x3, z_i x4]) (rest := []) zmX2_leastRing znX2_leastRing zsX2_leastRing (show z_Cl[2]? = some (RX2, TX2, 7) from rfl) zlRX8_120 ⟨Nat.le_of_ble_eq_true rfl, Nat.le_of_ble_eq_true rfl⟩ dX8_tell_49 hh0.2.2.1.1 rfl rfl (z_ai (z_ai (z_ai (z_ai z_a0)))) (Nat.le_of_ble_eq_true rfl) (Nat.le_of_ble_eq_true rfl) ⟨rfl, rfl⟩ ?_
      refine t_X2_leastRing hh0.2.2.1 q4 ?_
      show z_Sem mX8_tell (sh.length, 0) 52 [(0, z_r 0), (1, z_i x1), (2, z_i x2), (3, z_i x3), (4, z_i x4)] [z_i (f_X2_leastRing w3 12 x1 x2 x3 x4)] (sh, w3) Q
      refine z_if_ge (tgt := 73) dX8_tell_52 (by decide) (fun c5 => ?_) (fun c5 => ?_)
      · replace h := h.1 c5
        refine z_aload_n 0 dX8_tell_73 rfl rfl ?_
        refine z_getR (r := 1) zfRX8_12 dX8_tell_74 hh0.1 rfl ?_
        refine z_iload_n 1 dX8_tell_77 rfl rfl ?_
        refine z_iload_n 2 dX8_tell_78 rfl rfl ?_
        refine z_iload_n 3 dX8_tell_79 rfl rfl ?_
        refine z_iload 4 dX8_tell_80 rfl ?_
        refine z_iconst dX8_tell_82 (by decide) ?_
        refine z_callV (As := [z_i x1, z_i x2, z_i x3, z_i x4, z_i 1]) (rest := []) zmX3_addGap znX3_addGap zsX3_addGap (show z_Cl[3]? = some (RX3, TX3, 12) from rfl) zlRX8_133 ⟨Nat.le_of_ble_eq_true rfl, Nat.le_of_ble_eq_true rfl⟩ dX8_tell_83 hh0.2.1.1 rfl rfl (z_ai (z_ai (z_ai (z_ai (z_ai z_a0))))) (Nat.le_of_ble_eq_true rfl) (Nat.le_of_ble_eq_true rfl) ⟨rfl, rfl⟩ (z_CIm h ?_)
        intro y7 w6 h
        show z_Sem mX8_tell (sh.length, 0) 86 [(0, z_r 0), (1, z_i x1), (2, z_i x2), (3, z_i x3), (4, z_i x4)] [z_i y7] (sh, w6) Q
        refine z_istore (L' := [(5, z_i y7), (0, z_r 0), (1, z_i x1), (2, z_i x2), (3, z_i x3), (4, z_i x4)]) dX8_tell_86 (by decide) rfl ?_
        refine z_aload_n 1 dX8_tell_88 rfl rfl ?_
        refine z_iconst dX8_tell_89 (by decide) ?_
        refine z_iload 0 dX8_tell_90 rfl ?_
        refine z_iload 5 dX8_tell_92 rfl ?_
        refine z_callV (As := [z_i 1, z_i y7, z_i x4]) (rest := []) zmX8_finish znX8_finish zsX8_finish (show z_Cl[8]? = some (RX8, TX8, 9) from rfl) zlRX8_112 ⟨Nat.le_of_ble_eq_true rfl, Nat.le_of_ble_eq_true rfl⟩ dX8_tell_94 hh0.1 rfl rfl (z_ai (z_ai (z_ai z_a0))) (Nat.le_of_ble_eq_true rfl) (Nat.le_of_ble_eq_true rfl) ⟨rfl, rfl⟩ (z_CVm h ?_)
        intro w8 h
        show z_Sem mX8_tell (sh.length, 0) 97 [(5, z_i y7), (0, z_r 0), (1, z_i x1), (2, z_i x2), (3, z_i x3), (4, z_i x4)] [] (sh, w8) Q
        refine z_iload 0 dX8_tell_97 rfl ?_
        exact z_ret (v := some (z_i y7)) dX8_tell_99 ⟨rfl, Or.inl rfl⟩ rfl h
      · replace h := h.2 c5
        refine z_aload_n 0 dX8_tell_55 rfl rfl ?_
        refine z_getR (r := 1) zfRX8_12 dX8_tell_56 hh0.1 rfl ?_
        refine z_getR (r := 10) zfRX8_124 dX8_tell_59 hh0.2.1.1 rfl ?_
        refine z_bipush dX8_tell_62 (by decide) (by decide) ?_
        refine z_iload_n 3 dX8_tell_64 rfl rfl ?_
        refine z_iload 4 dX8_tell_65 rfl ?_
        refine z_callV (As := [z_i 8, z_i x3, z_i x4]) (rest := []) zmX1_note znX1_note zsX1_note (show z_Cl[1]? = some (RX1, TX1, 3) from rfl) zlRX8_128 ⟨Nat.le_of_ble_eq_true rfl, Nat.le_of_ble_eq_true rfl⟩ dX8_tell_67 hh0.2.1.2.2.2.2.2.2.2.2.2.1 rfl rfl (z_ai (z_ai (z_ai z_a0))) (Nat.le_of_ble_eq_true rfl) (Nat.le_of_ble_eq_true rfl) ⟨rfl, rfl⟩ (z_CVm h ?_)
        intro w9 h
        show z_Sem mX8_tell (sh.length, 0) 70 [(0, z_r 0), (1, z_i x1), (2, z_i x2), (3, z_i x3), (4, z_i x4)] [] (sh, w9) Q
        refine z_bipush dX8_tell_70 (by decide) (by decide) ?_
        exact z_ret (v := some (z_i (-5))) dX8_tell_72 ⟨rfl, Or.inl rfl⟩ rfl h
    · replace h := h.1 c2
      refine z_bipush dX8_tell_26 (by decide) (by decide) ?_
      exact z_ret (v := some (z_i (-4))) dX8_tell_28 ⟨rfl, Or.inl rfl⟩ rfl h
  · replace h := h.1 c1
    refine z_iconst dX8_tell_12 (by decide) ?_
    exact z_ret (v := some (z_i (-1))) dX8_tell_13 ⟨rfl, Or.inl rfl⟩ rfl h
def f_X8_isGap (w : Nat → Int → Int) (x1 : Int) : Int := if x1 < 0 then 0 else if (w 1 11) ≤ x1 then 0 else 1
set_option maxRecDepth 100000 in
theorem t_X8_isGap {sh : List z_C} {w : Nat → Int → Int} {Q : Option z_V → z_S → Prop} {x1 : Int} (hh0 : z_isTG sh 0) (h : Q (some (z_i (f_X8_isGap w x1))) (sh, w)) : z_Sem mX8_isGap (sh.length, 0) 0 [(0, z_r 0), (1, z_i x1)] [] (sh, w) Q := by
  unfold f_X8_isGap at h
  refine z_iload_n 1 dX8_isGap_0 rfl rfl ?_
  suffices hJ1 : z_Sem mX8_isGap (sh.length, 0) 20 [] [z_i (if x1 < 0 then 0 else if (w 1 11) ≤ x1 then 0 else 1)] (sh, w) Q by
    refine z_if_lt (tgt := 19) dX8_isGap_1 (by decide) (fun c2 => ?_) (fun c2 => ?_)
    · skip
      refine z_iconst dX8_isGap_19 (by decide) ?_
      refine z_sub (L' := []) [] rfl ?_
      simp only [if_pos c2] at hJ1
      exact hJ1
    · skip
      refine z_iload_n 1 dX8_isGap_4 rfl rfl ?_
      refine z_aload_n 0 dX8_isGap_5 rfl rfl ?_
      refine z_getR (r := 1) zfRX8_12 dX8_isGap_6 hh0.1 rfl ?_
      refine z_getI (ki := 11) zfRX8_96 dX8_isGap_9 hh0.2.1.1 rfl rfl ?_
      suffices hJ5 : z_Sem mX8_isGap (sh.length, 0) 20 [] [z_i (if (w 1 11) ≤ x1 then 0 else 1)] (sh, w) Q by
        refine z_icmp_ge (tgt := 19) dX8_isGap_12 (by decide) (fun c6 => ?_) (fun c6 => ?_)
        · skip
          refine z_iconst dX8_isGap_19 (by decide) ?_
          refine z_sub (L' := []) [] rfl ?_
          simp only [if_pos c6] at hJ5
          exact hJ5
        · skip
          refine z_iconst dX8_isGap_15 (by decide) ?_
          refine z_goto (tgt := 20) dX8_isGap_16 (by decide) ?_
          refine z_sub (L' := []) [] rfl ?_
          simp only [if_neg c6] at hJ5
          exact hJ5
      simp only [if_neg c2] at hJ1
      exact hJ1
  exact z_ret (v := some (z_i (if x1 < 0 then 0 else if (w 1 11) ≤ x1 then 0 else 1))) dX8_isGap_20 ⟨rfl, Or.inr (Or.inl ⟨rfl, (z_it01 (by decide) (z_it01 (by decide) (by decide)))⟩)⟩ rfl h
set_option maxRecDepth 100000 in
theorem t_X8_drop {sh : List z_C} {w : Nat → Int → Int} {Q : Option z_V → z_S → Prop} {x1 : Int} (hh0 : z_isTG sh 0) (h : (((f_X8_isGap w x1) = 0 → Q (some (z_i (-1))) (sh, w)) ∧ (¬ (f_X8_isGap w x1) = 0 → ((0 : Int) ≤ x1 ∧ x1 < 24) ∧ ∀ y3 : Int, y3 = (w 8 x1) → z_CV mX0_remember [z_r 24, z_r 1] sh w (fun w4 => z_CV mX3_removeGap [z_r 1, z_i x1] sh w4 (fun w5 => z_CV mX8_finish [z_r 0, z_i 2, z_i x1, z_i y3] sh w5 (fun w6 => Q (some (z_i (w6 1 11))) (sh, w6))))))) : z_Sem mX8_drop (sh.length, 0) 0 [(0, z_r 0), (1, z_i x1)] [] (sh, w) Q := by
  refine z_aload_n 0 dX8_drop_0 rfl rfl ?_
  refine z_iload_n 1 dX8_drop_1 rfl rfl ?_
  refine z_callV (As := [z_i x1]) (rest := []) zmX8_isGap znX8_isGap zsX8_isGap (show z_Cl[8]? = some (RX8, TX8, 9) from rfl) zlRX8_137 ⟨Nat.le_of_ble_eq_true rfl, Nat.le_of_ble_eq_true rfl⟩ dX8_drop_2 hh0.1 rfl rfl (z_ai z_a0) (Nat.le_of_ble_eq_true rfl) (Nat.le_of_ble_eq_true rfl) ⟨rfl, rfl⟩ ?_
  refine t_X8_isGap hh0 ?_
  show z_Sem mX8_drop (sh.length, 0) 5 [(0, z_r 0), (1, z_i x1)] [z_i (f_X8_isGap w x1)] (sh, w) Q
  refine z_if_ne (tgt := 10) dX8_drop_5 (by decide) (fun c1 => ?_) (fun c1 => ?_)
  · replace h := h.2 c1
    refine z_aload_n 0 dX8_drop_10 rfl rfl ?_
    refine z_getR (r := 1) zfRX8_12 dX8_drop_11 hh0.1 rfl ?_
    refine z_getR (r := 8) zfRX8_141 dX8_drop_14 hh0.2.1.1 rfl ?_
    refine z_iload_n 1 dX8_drop_17 rfl rfl ?_
    obtain ⟨q2, h⟩ := h
    refine z_iald dX8_drop_18 hh0.2.1.2.2.2.2.2.2.2.1 q2 ?_
    refine z_nam (fun y3 hy3 => ?_)
    replace h := h y3 hy3
    refine z_istore_n (L' := [(2, z_i y3), (0, z_r 0), (1, z_i x1)]) dX8_drop_19 rfl (by decide) rfl ?_
    refine z_aload_n 1 dX8_drop_20 rfl rfl ?_
    refine z_getR (r := 24) zfRX8_29 dX8_drop_21 hh0.1 rfl ?_
    refine z_aload_n 1 dX8_drop_24 rfl rfl ?_
    refine z_getR (r := 1) zfRX8_12 dX8_drop_25 hh0.1 rfl ?_
    refine z_callV (As := [z_r 1]) (rest := []) zmX0_remember znX0_remember zsX0_remember (show z_Cl[0]? = some (RX0, TX0, 3) from rfl) zlRX8_105 ⟨Nat.le_of_ble_eq_true rfl, Nat.le_of_ble_eq_true rfl⟩ dX8_drop_28 hh0.2.2.2.2.1.1 rfl rfl (z_ar z_a0) (Nat.le_of_ble_eq_true rfl) (Nat.le_of_ble_eq_true rfl) ⟨rfl, rfl⟩ (z_CVm h ?_)
    intro w4 h
    show z_Sem mX8_drop (sh.length, 0) 31 [(2, z_i y3), (0, z_r 0), (1, z_i x1)] [] (sh, w4) Q
    refine z_aload_n 1 dX8_drop_31 rfl rfl ?_
    refine z_getR (r := 1) zfRX8_12 dX8_drop_32 hh0.1 rfl ?_
    refine z_iload_n 2 dX8_drop_35 rfl rfl ?_
    refine z_callV (As := [z_i x1]) (rest := []) zmX3_removeGap znX3_removeGap zsX3_removeGap (show z_Cl[3]? = some (RX3, TX3, 12) from rfl) zlRX8_145 ⟨Nat.le_of_ble_eq_true rfl, Nat.le_of_ble_eq_true rfl⟩ dX8_drop_36 hh0.2.1.1 rfl rfl (z_ai z_a0) (Nat.le_of_ble_eq_true rfl) (Nat.le_of_ble_eq_true rfl) ⟨rfl, rfl⟩ (z_CVm h ?_)
    intro w5 h
    show z_Sem mX8_drop (sh.length, 0) 39 [(2, z_i y3), (0, z_r 0), (1, z_i x1)] [] (sh, w5) Q
    refine z_aload_n 1 dX8_drop_39 rfl rfl ?_
    refine z_iconst dX8_drop_40 (by decide) ?_
    refine z_iload_n 2 dX8_drop_41 rfl rfl ?_
    refine z_iload_n 0 dX8_drop_42 rfl rfl ?_
    refine z_callV (As := [z_i 2, z_i x1, z_i y3]) (rest := []) zmX8_finish znX8_finish zsX8_finish (show z_Cl[8]? = some (RX8, TX8, 9) from rfl) zlRX8_112 ⟨Nat.le_of_ble_eq_true rfl, Nat.le_of_ble_eq_true rfl⟩ dX8_drop_43 hh0.1 rfl rfl (z_ai (z_ai (z_ai z_a0))) (Nat.le_of_ble_eq_true rfl) (Nat.le_of_ble_eq_true rfl) ⟨rfl, rfl⟩ (z_CVm h ?_)
    intro w6 h
    show z_Sem mX8_drop (sh.length, 0) 46 [(2, z_i y3), (0, z_r 0), (1, z_i x1)] [] (sh, w6) Q
    refine z_aload_n 1 dX8_drop_46 rfl rfl ?_
    refine z_getR (r := 1) zfRX8_12 dX8_drop_47 hh0.1 rfl ?_
    refine z_getI (ki := 11) zfRX8_96 dX8_drop_50 hh0.2.1.1 rfl rfl ?_
    exact z_ret (v := some (z_i (w6 1 11))) dX8_drop_53 ⟨rfl, Or.inl rfl⟩ rfl h
  · replace h := h.1 c1
    refine z_iconst dX8_drop_8 (by decide) ?_
    exact z_ret (v := some (z_i (-1))) dX8_drop_9 ⟨rfl, Or.inl rfl⟩ rfl h
def f_X8_ringOfGap (w : Nat → Int → Int) (x1 : Int) (x2 : Int) : Int := f_X2_leastRing w 12 (w 5 x1) (w 6 x1) (w 7 x1) x2
def s_X8_ringOfGap (w : Nat → Int → Int) (x1 : Int) (x2 : Int) : Prop := ((0 : Int) ≤ x1 ∧ x1 < 24) ∧ ((0 : Int) ≤ x1 ∧ x1 < 24) ∧ ((0 : Int) ≤ x1 ∧ x1 < 24) ∧ (s_X2_leastRing w 12 (w 5 x1) (w 6 x1) (w 7 x1) x2) ∧ True
set_option maxRecDepth 100000 in
theorem t_X8_ringOfGap {sh : List z_C} {w : Nat → Int → Int} {Q : Option z_V → z_S → Prop} {x1 : Int} {x2 : Int} (hh0 : z_isTG sh 0) (hs : s_X8_ringOfGap w x1 x2) (h : Q (some (z_i (f_X8_ringOfGap w x1 x2))) (sh, w)) : z_Sem mX8_ringOfGap (sh.length, 0) 0 [(0, z_r 0), (1, z_i x1), (2, z_i x2)] [] (sh, w) Q := by
  unfold f_X8_ringOfGap at h
  unfold s_X8_ringOfGap at hs
  refine z_aload_n 0 dX8_ringOfGap_0 rfl rfl ?_
  refine z_getR (r := 12) zfRX8_19 dX8_ringOfGap_1 hh0.1 rfl ?_
  refine z_aload_n 0 dX8_ringOfGap_4 rfl rfl ?_
  refine z_getR (r := 1) zfRX8_12 dX8_ringOfGap_5 hh0.1 rfl ?_
  refine z_getR (r := 5) zfRX8_195 dX8_ringOfGap_8 hh0.2.1.1 rfl ?_
  refine z_iload_n 1 dX8_ringOfGap_11 rfl rfl ?_
  obtain ⟨q1, hs⟩ := hs
  refine z_iald dX8_ringOfGap_12 hh0.2.1.2.2.2.2.1 q1 ?_
  refine z_aload_n 0 dX8_ringOfGap_13 rfl rfl ?_
  refine z_getR (r := 1) zfRX8_12 dX8_ringOfGap_14 hh0.1 rfl ?_
  refine z_getR (r := 6) zfRX8_198 dX8_ringOfGap_17 hh0.2.1.1 rfl ?_
  refine z_iload_n 1 dX8_ringOfGap_20 rfl rfl ?_
  obtain ⟨q2, hs⟩ := hs
  refine z_iald dX8_ringOfGap_21 hh0.2.1.2.2.2.2.2.1 q2 ?_
  refine z_aload_n 0 dX8_ringOfGap_22 rfl rfl ?_
  refine z_getR (r := 1) zfRX8_12 dX8_ringOfGap_23 hh0.1 rfl ?_
  refine z_getR (r := 7) zfRX8_204 dX8_ringOfGap_26 hh0.2.1.1 rfl ?_
  refine z_iload_n 1 dX8_ringOfGap_29 rfl rfl ?_
  obtain ⟨q3, hs⟩ := hs
  refine z_iald dX8_ringOfGap_30 hh0.2.1.2.2.2.2.2.2.1 q3 ?_
  refine z_iload_n 2 dX8_ringOfGap_31 rfl rfl ?_
  obtain ⟨q4, hs⟩ := hs
  refine z_callV (As := [z_i (w 5 x1), z_i (w 6 x1), z_i (w 7 x1), z_i x2]) (rest := []) zmX2_leastRing znX2_leastRing zsX2_leastRing (show z_Cl[2]? = some (RX2, TX2, 7) from rfl) zlRX8_120 ⟨Nat.le_of_ble_eq_true rfl, Nat.le_of_ble_eq_true rfl⟩ dX8_ringOfGap_32 hh0.2.2.1.1 rfl rfl (z_ai (z_ai (z_ai (z_ai z_a0)))) (Nat.le_of_ble_eq_true rfl) (Nat.le_of_ble_eq_true rfl) ⟨rfl, rfl⟩ ?_
  refine t_X2_leastRing hh0.2.2.1 q4 ?_
  show z_Sem mX8_ringOfGap (sh.length, 0) 35 [(0, z_r 0), (1, z_i x1), (2, z_i x2)] [z_i (f_X2_leastRing w 12 (w 5 x1) (w 6 x1) (w 7 x1) x2)] (sh, w) Q
  exact z_ret (v := some (z_i (f_X2_leastRing w 12 (w 5 x1) (w 6 x1) (w 7 x1) x2))) dX8_ringOfGap_35 ⟨rfl, Or.inl rfl⟩ rfl h
set_option maxRecDepth 100000 in
theorem t_X8_set {sh : List z_C} {w : Nat → Int → Int} {Q : Option z_V → z_S → Prop} {x1 : Int} {x2 : Int} (hh0 : z_isTG sh 0) (h : (((f_X8_isGap w x1) = 0 → Q (some (z_i (-1))) (sh, w)) ∧ (¬ (f_X8_isGap w x1) = 0 → (((f_X8_isNumber w x2) = 0 → Q (some (z_i (-1))) (sh, w)) ∧ (¬ (f_X8_isNumber w x2) = 0 → ((0 : Int) ≤ x1 ∧ x1 < 24) ∧ ∀ y4 : Int, y4 = (w 8 x1) → ((y4 = x2 → Q (some (z_i (-2))) (sh, w)) ∧ (¬ y4 = x2 → ((0 : Int) ≤ x1 ∧ x1 < 24) ∧ (((w 9 x1) = 0 → z_CV mX0_remember [z_r 24, z_r 1] sh w (fun w8 => ((0 : Int) ≤ x1 ∧ x1 < 24) ∧ ∀ w9 : Nat → Int → Int, w9 = z_W w8 8 x1 x2 → z_CV mX8_finish [z_r 0, z_i 3, z_i x1, z_i y4] sh w9 (fun w11 => Q (some (z_i y4)) (sh, w11)))) ∧ (¬ (w 9 x1) = 0 → (s_X8_ringOfGap w x1 x2) ∧ ((0 ≤ (f_X8_ringOfGap w x1 x2) → z_CV mX0_remember [z_r 24, z_r 1] sh w (fun w14 => ((0 : Int) ≤ x1 ∧ x1 < 24) ∧ ∀ w15 : Nat → Int → Int, w15 = z_W w14 8 x1 x2 → z_CV mX8_finish [z_r 0, z_i 3, z_i x1, z_i y4] sh w15 (fun w17 => Q (some (z_i y4)) (sh, w17)))) ∧ (¬ 0 ≤ (f_X8_ringOfGap w x1 x2) → Q (some (z_i (-5))) (sh, w)))))))))))) : z_Sem mX8_set (sh.length, 0) 0 [(0, z_r 0), (1, z_i x1), (2, z_i x2)] [] (sh, w) Q := by
  refine z_aload_n 0 dX8_set_0 rfl rfl ?_
  refine z_iload_n 1 dX8_set_1 rfl rfl ?_
  refine z_callV (As := [z_i x1]) (rest := []) zmX8_isGap znX8_isGap zsX8_isGap (show z_Cl[8]? = some (RX8, TX8, 9) from rfl) zlRX8_137 ⟨Nat.le_of_ble_eq_true rfl, Nat.le_of_ble_eq_true rfl⟩ dX8_set_2 hh0.1 rfl rfl (z_ai z_a0) (Nat.le_of_ble_eq_true rfl) (Nat.le_of_ble_eq_true rfl) ⟨rfl, rfl⟩ ?_
  refine t_X8_isGap hh0 ?_
  show z_Sem mX8_set (sh.length, 0) 5 [(0, z_r 0), (1, z_i x1), (2, z_i x2)] [z_i (f_X8_isGap w x1)] (sh, w) Q
  refine z_if_eq (tgt := 15) dX8_set_5 (by decide) (fun c1 => ?_) (fun c1 => ?_)
  · replace h := h.1 c1
    refine z_iconst dX8_set_15 (by decide) ?_
    exact z_ret (v := some (z_i (-1))) dX8_set_16 ⟨rfl, Or.inl rfl⟩ rfl h
  · replace h := h.2 c1
    refine z_iload_n 2 dX8_set_8 rfl rfl ?_
    refine z_callS (As := [z_i x2]) (rest := []) zmX8_isNumber ztX8_isNumber zlRX8_148 ⟨Nat.le_of_ble_eq_true rfl, Nat.le_of_ble_eq_true rfl⟩ dX8_set_9 rfl rfl (z_ai z_a0) (Nat.le_of_ble_eq_true rfl) (Nat.le_of_ble_eq_true rfl) ⟨rfl, rfl⟩ ?_
    refine t_X8_isNumber  ?_
    show z_Sem mX8_set (sh.length, 0) 12 [(0, z_r 0), (1, z_i x1), (2, z_i x2)] [z_i (f_X8_isNumber w x2)] (sh, w) Q
    refine z_if_ne (tgt := 17) dX8_set_12 (by decide) (fun c2 => ?_) (fun c2 => ?_)
    · replace h := h.2 c2
      refine z_aload_n 0 dX8_set_17 rfl rfl ?_
      refine z_getR (r := 1) zfRX8_12 dX8_set_18 hh0.1 rfl ?_
      refine z_getR (r := 8) zfRX8_141 dX8_set_21 hh0.2.1.1 rfl ?_
      refine z_iload_n 1 dX8_set_24 rfl rfl ?_
      obtain ⟨q3, h⟩ := h
      refine z_iald dX8_set_25 hh0.2.1.2.2.2.2.2.2.2.1 q3 ?_
      refine z_nam (fun y4 hy4 => ?_)
      replace h := h y4 hy4
      refine z_istore_n (L' := [(3, z_i y4), (0, z_r 0), (1, z_i x1), (2, z_i x2)]) dX8_set_26 rfl (by decide) rfl ?_
      refine z_iload_n 0 dX8_set_27 rfl rfl ?_
      refine z_iload_n 3 dX8_set_28 rfl rfl ?_
      refine z_icmp_ne (tgt := 35) dX8_set_29 (by decide) (fun c5 => ?_) (fun c5 => ?_)
      · replace h := h.2 c5
        refine z_aload_n 1 dX8_set_35 rfl rfl ?_
        refine z_getR (r := 1) zfRX8_12 dX8_set_36 hh0.1 rfl ?_
        refine z_getR (r := 9) zfRX8_151 dX8_set_39 hh0.2.1.1 rfl ?_
        refine z_iload_n 2 dX8_set_42 rfl rfl ?_
        obtain ⟨q6, h⟩ := h
        refine z_zald dX8_set_43 hh0.2.1.2.2.2.2.2.2.2.2.1 q6 ?_
        refine z_if_eq (tgt := 59) dX8_set_44 (by decide) (fun c7 => ?_) (fun c7 => ?_)
        · replace h := h.1 c7
          refine z_aload_n 1 dX8_set_59 rfl rfl ?_
          refine z_getR (r := 24) zfRX8_29 dX8_set_60 hh0.1 rfl ?_
          refine z_aload_n 1 dX8_set_63 rfl rfl ?_
          refine z_getR (r := 1) zfRX8_12 dX8_set_64 hh0.1 rfl ?_
          refine z_callV (As := [z_r 1]) (rest := []) zmX0_remember znX0_remember zsX0_remember (show z_Cl[0]? = some (RX0, TX0, 3) from rfl) zlRX8_105 ⟨Nat.le_of_ble_eq_true rfl, Nat.le_of_ble_eq_true rfl⟩ dX8_set_67 hh0.2.2.2.2.1.1 rfl rfl (z_ar z_a0) (Nat.le_of_ble_eq_true rfl) (Nat.le_of_ble_eq_true rfl) ⟨rfl, rfl⟩ (z_CVm h ?_)
          intro w8 h
          show z_Sem mX8_set (sh.length, 0) 70 [(3, z_i y4), (0, z_r 0), (1, z_i x1), (2, z_i x2)] [] (sh, w8) Q
          refine z_aload_n 1 dX8_set_70 rfl rfl ?_
          refine z_getR (r := 1) zfRX8_12 dX8_set_71 hh0.1 rfl ?_
          refine z_getR (r := 8) zfRX8_141 dX8_set_74 hh0.2.1.1 rfl ?_
          refine z_iload_n 2 dX8_set_77 rfl rfl ?_
          refine z_iload_n 3 dX8_set_78 rfl rfl ?_
          obtain ⟨q10, h⟩ := h
          refine z_iast dX8_set_79 hh0.2.1.2.2.2.2.2.2.2.1 q10 ?_
          refine z_genw (fun w9 hw9 => ?_)
          replace h := h w9 hw9
          refine z_aload_n 1 dX8_set_80 rfl rfl ?_
          refine z_iconst dX8_set_81 (by decide) ?_
          refine z_iload_n 2 dX8_set_82 rfl rfl ?_
          refine z_iload_n 0 dX8_set_83 rfl rfl ?_
          refine z_callV (As := [z_i 3, z_i x1, z_i y4]) (rest := []) zmX8_finish znX8_finish zsX8_finish (show z_Cl[8]? = some (RX8, TX8, 9) from rfl) zlRX8_112 ⟨Nat.le_of_ble_eq_true rfl, Nat.le_of_ble_eq_true rfl⟩ dX8_set_84 hh0.1 rfl rfl (z_ai (z_ai (z_ai z_a0))) (Nat.le_of_ble_eq_true rfl) (Nat.le_of_ble_eq_true rfl) ⟨rfl, rfl⟩ (z_CVm h ?_)
          intro w11 h
          show z_Sem mX8_set (sh.length, 0) 87 [(3, z_i y4), (0, z_r 0), (1, z_i x1), (2, z_i x2)] [] (sh, w11) Q
          refine z_iload_n 0 dX8_set_87 rfl rfl ?_
          exact z_ret (v := some (z_i y4)) dX8_set_88 ⟨rfl, Or.inl rfl⟩ rfl h
        · replace h := h.2 c7
          refine z_aload_n 1 dX8_set_47 rfl rfl ?_
          refine z_iload_n 2 dX8_set_48 rfl rfl ?_
          refine z_iload_n 3 dX8_set_49 rfl rfl ?_
          obtain ⟨q12, h⟩ := h
          refine z_callV (As := [z_i x1, z_i x2]) (rest := []) zmX8_ringOfGap znX8_ringOfGap zsX8_ringOfGap (show z_Cl[8]? = some (RX8, TX8, 9) from rfl) zlRX8_155 ⟨Nat.le_of_ble_eq_true rfl, Nat.le_of_ble_eq_true rfl⟩ dX8_set_50 hh0.1 rfl rfl (z_ai (z_ai z_a0)) (Nat.le_of_ble_eq_true rfl) (Nat.le_of_ble_eq_true rfl) ⟨rfl, rfl⟩ ?_
          refine t_X8_ringOfGap hh0 q12 ?_
          show z_Sem mX8_set (sh.length, 0) 53 [(3, z_i y4), (0, z_r 0), (1, z_i x1), (2, z_i x2)] [z_i (f_X8_ringOfGap w x1 x2)] (sh, w) Q
          refine z_if_ge (tgt := 59) dX8_set_53 (by decide) (fun c13 => ?_) (fun c13 => ?_)
          · replace h := h.1 c13
            refine z_aload_n 1 dX8_set_59 rfl rfl ?_
            refine z_getR (r := 24) zfRX8_29 dX8_set_60 hh0.1 rfl ?_
            refine z_aload_n 1 dX8_set_63 rfl rfl ?_
            refine z_getR (r := 1) zfRX8_12 dX8_set_64 hh0.1 rfl ?_
            refine z_callV (As := [z_r 1]) (rest := []) zmX0_remember znX0_remember zsX0_remember (show z_Cl[0]? = some (RX0, TX0, 3) from rfl) zlRX8_105 ⟨Nat.le_of_ble_eq_true rfl, Nat.le_of_ble_eq_true rfl⟩ dX8_set_67 hh0.2.2.2.2.1.1 rfl rfl (z_ar z_a0) (Nat.le_of_ble_eq_true rfl) (Nat.le_of_ble_eq_true rfl) ⟨rfl, rfl⟩ (z_CVm h ?_)
            intro w14 h
            show z_Sem mX8_set (sh.length, 0) 70 [(3, z_i y4), (0, z_r 0), (1, z_i x1), (2, z_i x2)] [] (sh, w14) Q
            refine z_aload_n 1 dX8_set_70 rfl rfl ?_
            refine z_getR (r := 1) zfRX8_12 dX8_set_71 hh0.1 rfl ?_
            refine z_getR (r := 8) zfRX8_141 dX8_set_74 hh0.2.1.1 rfl ?_
            refine z_iload_n 2 dX8_set_77 rfl rfl ?_
            refine z_iload_n 3 dX8_set_78 rfl rfl ?_
            obtain ⟨q16, h⟩ := h
            refine z_iast dX8_set_79 hh0.2.1.2.2.2.2.2.2.2.1 q16 ?_
            refine z_genw (fun w15 hw15 => ?_)
            replace h := h w15 hw15
            refine z_aload_n 1 dX8_set_80 rfl rfl ?_
            refine z_iconst dX8_set_81 (by decide) ?_
            refine z_iload_n 2 dX8_set_82 rfl rfl ?_
            refine z_iload_n 0 dX8_set_83 rfl rfl ?_
            refine z_callV (As := [z_i 3, z_i x1, z_i y4]) (rest := []) zmX8_finish znX8_finish zsX8_finish (show z_Cl[8]? = some (RX8, TX8, 9) from rfl) zlRX8_112 ⟨Nat.le_of_ble_eq_true rfl, Nat.le_of_ble_eq_true rfl⟩ dX8_set_84 hh0.1 rfl rfl (z_ai (z_ai (z_ai z_a0))) (Nat.le_of_ble_eq_true rfl) (Nat.le_of_ble_eq_true rfl) ⟨rfl, rfl⟩ (z_CVm h ?_)
            intro w17 h
            show z_Sem mX8_set (sh.length, 0) 87 [(3, z_i y4), (0, z_r 0), (1, z_i x1), (2, z_i x2)] [] (sh, w17) Q
            refine z_iload_n 0 dX8_set_87 rfl rfl ?_
            exact z_ret (v := some (z_i y4)) dX8_set_88 ⟨rfl, Or.inl rfl⟩ rfl h
          · replace h := h.2 c13
            refine z_bipush dX8_set_56 (by decide) (by decide) ?_
            exact z_ret (v := some (z_i (-5))) dX8_set_58 ⟨rfl, Or.inl rfl⟩ rfl h
      · replace h := h.1 c5
        refine z_bipush dX8_set_32 (by decide) (by decide) ?_
        exact z_ret (v := some (z_i (-2))) dX8_set_34 ⟨rfl, Or.inl rfl⟩ rfl h
    · replace h := h.1 c2
      refine z_iconst dX8_set_15 (by decide) ?_
      exact z_ret (v := some (z_i (-1))) dX8_set_16 ⟨rfl, Or.inl rfl⟩ rfl h
set_option maxRecDepth 100000 in
theorem t_X8_turn {sh : List z_C} {w : Nat → Int → Int} {Q : Option z_V → z_S → Prop} {x1 : Int} (hh0 : z_isTG sh 0) (h : (((f_X8_isGap w x1) = 0 → Q (some (z_i (-1))) (sh, w)) ∧ (¬ (f_X8_isGap w x1) = 0 → ((0 : Int) ≤ x1 ∧ x1 < 24) ∧ ∀ y7 : Int, y7 = (if (w 9 x1) = 0 then 1 else 0) → ((y7 = 0 → z_CV mX0_remember [z_r 24, z_r 1] sh w (fun w9 => ((0 : Int) ≤ x1 ∧ x1 < 24) ∧ ((0 : Int) ≤ y7 ∧ y7 ≤ 1) ∧ ∀ w10 : Nat → Int → Int, w10 = z_W w9 9 x1 y7 → z_CV mX8_finish [z_r 0, z_i 4, z_i x1, z_i (f_X8_asNumber w10 y7)] sh w10 (fun w13 => Q (some (z_i (f_X8_asNumber w13 y7))) (sh, w13)))) ∧ (¬ y7 = 0 → ((0 : Int) ≤ x1 ∧ x1 < 24) ∧ (s_X8_ringOfGap w x1 (w 8 x1)) ∧ ((0 ≤ (f_X8_ringOfGap w x1 (w 8 x1)) → z_CV mX0_remember [z_r 24, z_r 1] sh w (fun w17 => ((0 : Int) ≤ x1 ∧ x1 < 24) ∧ ((0 : Int) ≤ y7 ∧ y7 ≤ 1) ∧ ∀ w18 : Nat → Int → Int, w18 = z_W w17 9 x1 y7 → z_CV mX8_finish [z_r 0, z_i 4, z_i x1, z_i (f_X8_asNumber w18 y7)] sh w18 (fun w21 => Q (some (z_i (f_X8_asNumber w21 y7))) (sh, w21)))) ∧ (¬ 0 ≤ (f_X8_ringOfGap w x1 (w 8 x1)) → Q (some (z_i (-5))) (sh, w)))))))) : z_Sem mX8_turn (sh.length, 0) 0 [(0, z_r 0), (1, z_i x1)] [] (sh, w) Q := by
  refine z_aload_n 0 dX8_turn_0 rfl rfl ?_
  refine z_iload_n 1 dX8_turn_1 rfl rfl ?_
  refine z_callV (As := [z_i x1]) (rest := []) zmX8_isGap znX8_isGap zsX8_isGap (show z_Cl[8]? = some (RX8, TX8, 9) from rfl) zlRX8_137 ⟨Nat.le_of_ble_eq_true rfl, Nat.le_of_ble_eq_true rfl⟩ dX8_turn_2 hh0.1 rfl rfl (z_ai z_a0) (Nat.le_of_ble_eq_true rfl) (Nat.le_of_ble_eq_true rfl) ⟨rfl, rfl⟩ ?_
  refine t_X8_isGap hh0 ?_
  show z_Sem mX8_turn (sh.length, 0) 5 [(0, z_r 0), (1, z_i x1)] [z_i (f_X8_isGap w x1)] (sh, w) Q
  refine z_if_ne (tgt := 10) dX8_turn_5 (by decide) (fun c1 => ?_) (fun c1 => ?_)
  · replace h := h.2 c1
    refine z_aload_n 0 dX8_turn_10 rfl rfl ?_
    refine z_getR (r := 1) zfRX8_12 dX8_turn_11 hh0.1 rfl ?_
    refine z_getR (r := 9) zfRX8_151 dX8_turn_14 hh0.2.1.1 rfl ?_
    refine z_iload_n 1 dX8_turn_17 rfl rfl ?_
    obtain ⟨q2, h⟩ := h
    refine z_zald dX8_turn_18 hh0.2.1.2.2.2.2.2.2.2.2.1 q2 ?_
    suffices hJ3 : z_Sem mX8_turn (sh.length, 0) 27 [(0, z_r 0), (1, z_i x1)] [z_i (if (w 9 x1) = 0 then 1 else 0)] (sh, w) Q by
      refine z_if_ne (tgt := 26) dX8_turn_19 (by decide) (fun c4 => ?_) (fun c4 => ?_)
      · skip
        refine z_iconst dX8_turn_26 (by decide) ?_
        simp only [if_neg c4] at hJ3
        exact hJ3
      · skip
        refine z_iconst dX8_turn_22 (by decide) ?_
        refine z_goto (tgt := 27) dX8_turn_23 (by decide) ?_
        simp only [if_pos c4] at hJ3
        exact hJ3
    refine z_nam (fun y7 hy7 => ?_)
    replace h := h y7 hy7
    refine z_istore_n (L' := [(2, z_i y7), (0, z_r 0), (1, z_i x1)]) dX8_turn_27 rfl (by decide) rfl ?_
    refine z_iload_n 0 dX8_turn_28 rfl rfl ?_
    refine z_if_eq (tgt := 52) dX8_turn_29 (by decide) (fun c8 => ?_) (fun c8 => ?_)
    · replace h := h.1 c8
      refine z_aload_n 1 dX8_turn_52 rfl rfl ?_
      refine z_getR (r := 24) zfRX8_29 dX8_turn_53 hh0.1 rfl ?_
      refine z_aload_n 1 dX8_turn_56 rfl rfl ?_
      refine z_getR (r := 1) zfRX8_12 dX8_turn_57 hh0.1 rfl ?_
      refine z_callV (As := [z_r 1]) (rest := []) zmX0_remember znX0_remember zsX0_remember (show z_Cl[0]? = some (RX0, TX0, 3) from rfl) zlRX8_105 ⟨Nat.le_of_ble_eq_true rfl, Nat.le_of_ble_eq_true rfl⟩ dX8_turn_60 hh0.2.2.2.2.1.1 rfl rfl (z_ar z_a0) (Nat.le_of_ble_eq_true rfl) (Nat.le_of_ble_eq_true rfl) ⟨rfl, rfl⟩ (z_CVm h ?_)
      intro w9 h
      show z_Sem mX8_turn (sh.length, 0) 63 [(2, z_i y7), (0, z_r 0), (1, z_i x1)] [] (sh, w9) Q
      refine z_aload_n 1 dX8_turn_63 rfl rfl ?_
      refine z_getR (r := 1) zfRX8_12 dX8_turn_64 hh0.1 rfl ?_
      refine z_getR (r := 9) zfRX8_151 dX8_turn_67 hh0.2.1.1 rfl ?_
      refine z_iload_n 2 dX8_turn_70 rfl rfl ?_
      refine z_iload_n 0 dX8_turn_71 rfl rfl ?_
      obtain ⟨q11, h⟩ := h
      obtain ⟨q12, h⟩ := h
      refine z_zast dX8_turn_72 hh0.2.1.2.2.2.2.2.2.2.2.1 q11 q12 ?_
      refine z_genw (fun w10 hw10 => ?_)
      replace h := h w10 hw10
      refine z_aload_n 1 dX8_turn_73 rfl rfl ?_
      refine z_iconst dX8_turn_74 (by decide) ?_
      refine z_iload_n 2 dX8_turn_75 rfl rfl ?_
      refine z_iload_n 0 dX8_turn_76 rfl rfl ?_
      refine z_callS (As := [z_i y7]) (rest := [z_i x1, z_i 4, z_r 0]) zmX8_asNumber ztX8_asNumber zlRX8_159 ⟨Nat.le_of_ble_eq_true rfl, Nat.le_of_ble_eq_true rfl⟩ dX8_turn_77 rfl rfl (z_ai z_a0) (Nat.le_of_ble_eq_true rfl) (Nat.le_of_ble_eq_true rfl) ⟨rfl, rfl⟩ ?_
      refine t_X8_asNumber  ?_
      show z_Sem mX8_turn (sh.length, 0) 80 [(2, z_i y7), (0, z_r 0), (1, z_i x1)] [z_i (f_X8_asNumber w10 y7), z_i x1, z_i 4, z_r 0] (sh, w10) Q
      refine z_callV (As := [z_i 4, z_i x1, z_i (f_X8_asNumber w10 y7)]) (rest := []) zmX8_finish znX8_finish zsX8_finish (show z_Cl[8]? = some (RX8, TX8, 9) from rfl) zlRX8_112 ⟨Nat.le_of_ble_eq_true rfl, Nat.le_of_ble_eq_true rfl⟩ dX8_turn_80 hh0.1 rfl rfl (z_ai (z_ai (z_ai z_a0))) (Nat.le_of_ble_eq_true rfl) (Nat.le_of_ble_eq_true rfl) ⟨rfl, rfl⟩ (z_CVm h ?_)
      intro w13 h
      show z_Sem mX8_turn (sh.length, 0) 83 [(2, z_i y7), (0, z_r 0), (1, z_i x1)] [] (sh, w13) Q
      refine z_iload_n 0 dX8_turn_83 rfl rfl ?_
      refine z_callS (As := [z_i y7]) (rest := []) zmX8_asNumber ztX8_asNumber zlRX8_159 ⟨Nat.le_of_ble_eq_true rfl, Nat.le_of_ble_eq_true rfl⟩ dX8_turn_84 rfl rfl (z_ai z_a0) (Nat.le_of_ble_eq_true rfl) (Nat.le_of_ble_eq_true rfl) ⟨rfl, rfl⟩ ?_
      refine t_X8_asNumber  ?_
      show z_Sem mX8_turn (sh.length, 0) 87 [(2, z_i y7), (0, z_r 0), (1, z_i x1)] [z_i (f_X8_asNumber w13 y7)] (sh, w13) Q
      exact z_ret (v := some (z_i (f_X8_asNumber w13 y7))) dX8_turn_87 ⟨rfl, Or.inl rfl⟩ rfl h
    · replace h := h.2 c8
      refine z_aload_n 1 dX8_turn_32 rfl rfl ?_
      refine z_iload_n 2 dX8_turn_33 rfl rfl ?_
      refine z_aload_n 1 dX8_turn_34 rfl rfl ?_
      refine z_getR (r := 1) zfRX8_12 dX8_turn_35 hh0.1 rfl ?_
      refine z_getR (r := 8) zfRX8_141 dX8_turn_38 hh0.2.1.1 rfl ?_
      refine z_iload_n 2 dX8_turn_41 rfl rfl ?_
      obtain ⟨q14, h⟩ := h
      refine z_iald dX8_turn_42 hh0.2.1.2.2.2.2.2.2.2.1 q14 ?_
      obtain ⟨q15, h⟩ := h
      refine z_callV (As := [z_i x1, z_i (w 8 x1)]) (rest := []) zmX8_ringOfGap znX8_ringOfGap zsX8_ringOfGap (show z_Cl[8]? = some (RX8, TX8, 9) from rfl) zlRX8_155 ⟨Nat.le_of_ble_eq_true rfl, Nat.le_of_ble_eq_true rfl⟩ dX8_turn_43 hh0.1 rfl rfl (z_ai (z_ai z_a0)) (Nat.le_of_ble_eq_true rfl) (Nat.le_of_ble_eq_true rfl) ⟨rfl, rfl⟩ ?_
      refine t_X8_ringOfGap hh0 q15 ?_
      show z_Sem mX8_turn (sh.length, 0) 46 [(2, z_i y7), (0, z_r 0), (1, z_i x1)] [z_i (f_X8_ringOfGap w x1 (w 8 x1))] (sh, w) Q
      refine z_if_ge (tgt := 52) dX8_turn_46 (by decide) (fun c16 => ?_) (fun c16 => ?_)
      · replace h := h.1 c16
        refine z_aload_n 1 dX8_turn_52 rfl rfl ?_
        refine z_getR (r := 24) zfRX8_29 dX8_turn_53 hh0.1 rfl ?_
        refine z_aload_n 1 dX8_turn_56 rfl rfl ?_
        refine z_getR (r := 1) zfRX8_12 dX8_turn_57 hh0.1 rfl ?_
        refine z_callV (As := [z_r 1]) (rest := []) zmX0_remember znX0_remember zsX0_remember (show z_Cl[0]? = some (RX0, TX0, 3) from rfl) zlRX8_105 ⟨Nat.le_of_ble_eq_true rfl, Nat.le_of_ble_eq_true rfl⟩ dX8_turn_60 hh0.2.2.2.2.1.1 rfl rfl (z_ar z_a0) (Nat.le_of_ble_eq_true rfl) (Nat.le_of_ble_eq_true rfl) ⟨rfl, rfl⟩ (z_CVm h ?_)
        intro w17 h
        show z_Sem mX8_turn (sh.length, 0) 63 [(2, z_i y7), (0, z_r 0), (1, z_i x1)] [] (sh, w17) Q
        refine z_aload_n 1 dX8_turn_63 rfl rfl ?_
        refine z_getR (r := 1) zfRX8_12 dX8_turn_64 hh0.1 rfl ?_
        refine z_getR (r := 9) zfRX8_151 dX8_turn_67 hh0.2.1.1 rfl ?_
        refine z_iload_n 2 dX8_turn_70 rfl rfl ?_
        refine z_iload_n 0 dX8_turn_71 rfl rfl ?_
        obtain ⟨q19, h⟩ := h
        obtain ⟨q20, h⟩ := h
        refine z_zast dX8_turn_72 hh0.2.1.2.2.2.2.2.2.2.2.1 q19 q20 ?_
        refine z_genw (fun w18 hw18 => ?_)
        replace h := h w18 hw18
        refine z_aload_n 1 dX8_turn_73 rfl rfl ?_
        refine z_iconst dX8_turn_74 (by decide) ?_
        refine z_iload_n 2 dX8_turn_75 rfl rfl ?_
        refine z_iload_n 0 dX8_turn_76 rfl rfl ?_
        refine z_callS (As := [z_i y7]) (rest := [z_i x1, z_i 4, z_r 0]) zmX8_asNumber ztX8_asNumber zlRX8_159 ⟨Nat.le_of_ble_eq_true rfl, Nat.le_of_ble_eq_true rfl⟩ dX8_turn_77 rfl rfl (z_ai z_a0) (Nat.le_of_ble_eq_true rfl) (Nat.le_of_ble_eq_true rfl) ⟨rfl, rfl⟩ ?_
        refine t_X8_asNumber  ?_
        show z_Sem mX8_turn (sh.length, 0) 80 [(2, z_i y7), (0, z_r 0), (1, z_i x1)] [z_i (f_X8_asNumber w18 y7), z_i x1, z_i 4, z_r 0] (sh, w18) Q
        refine z_callV (As := [z_i 4, z_i x1, z_i (f_X8_asNumber w18 y7)]) (rest := []) zmX8_finish znX8_finish zsX8_finish (show z_Cl[8]? = some (RX8, TX8, 9) from rfl) zlRX8_112 ⟨Nat.le_of_ble_eq_true rfl, Nat.le_of_ble_eq_true rfl⟩ dX8_turn_80 hh0.1 rfl rfl (z_ai (z_ai (z_ai z_a0))) (Nat.le_of_ble_eq_true rfl) (Nat.le_of_ble_eq_true rfl) ⟨rfl, rfl⟩ (z_CVm h ?_)
        intro w21 h
        show z_Sem mX8_turn (sh.length, 0) 83 [(2, z_i y7), (0, z_r 0), (1, z_i x1)] [] (sh, w21) Q
        refine z_iload_n 0 dX8_turn_83 rfl rfl ?_
        refine z_callS (As := [z_i y7]) (rest := []) zmX8_asNumber ztX8_asNumber zlRX8_159 ⟨Nat.le_of_ble_eq_true rfl, Nat.le_of_ble_eq_true rfl⟩ dX8_turn_84 rfl rfl (z_ai z_a0) (Nat.le_of_ble_eq_true rfl) (Nat.le_of_ble_eq_true rfl) ⟨rfl, rfl⟩ ?_
        refine t_X8_asNumber  ?_
        show z_Sem mX8_turn (sh.length, 0) 87 [(2, z_i y7), (0, z_r 0), (1, z_i x1)] [z_i (f_X8_asNumber w21 y7)] (sh, w21) Q
        exact z_ret (v := some (z_i (f_X8_asNumber w21 y7))) dX8_turn_87 ⟨rfl, Or.inl rfl⟩ rfl h
      · replace h := h.2 c16
        refine z_bipush dX8_turn_49 (by decide) (by decide) ?_
        exact z_ret (v := some (z_i (-5))) dX8_turn_51 ⟨rfl, Or.inl rfl⟩ rfl h
  · replace h := h.1 c1
    refine z_iconst dX8_turn_8 (by decide) ?_
    exact z_ret (v := some (z_i (-1))) dX8_turn_9 ⟨rfl, Or.inl rfl⟩ rfl h
def f_X8_isTime (w : Nat → Int → Int) (x1 : Int) : Int := if x1 < 0 then 0 else if (w 1 9) < x1 then 0 else 1
set_option maxRecDepth 100000 in
theorem t_X8_isTime {sh : List z_C} {w : Nat → Int → Int} {Q : Option z_V → z_S → Prop} {x1 : Int} (hh0 : z_isTG sh 0) (h : Q (some (z_i (f_X8_isTime w x1))) (sh, w)) : z_Sem mX8_isTime (sh.length, 0) 0 [(0, z_r 0), (1, z_i x1)] [] (sh, w) Q := by
  unfold f_X8_isTime at h
  refine z_iload_n 1 dX8_isTime_0 rfl rfl ?_
  suffices hJ1 : z_Sem mX8_isTime (sh.length, 0) 20 [] [z_i (if x1 < 0 then 0 else if (w 1 9) < x1 then 0 else 1)] (sh, w) Q by
    refine z_if_lt (tgt := 19) dX8_isTime_1 (by decide) (fun c2 => ?_) (fun c2 => ?_)
    · skip
      refine z_iconst dX8_isTime_19 (by decide) ?_
      refine z_sub (L' := []) [] rfl ?_
      simp only [if_pos c2] at hJ1
      exact hJ1
    · skip
      refine z_iload_n 1 dX8_isTime_4 rfl rfl ?_
      refine z_aload_n 0 dX8_isTime_5 rfl rfl ?_
      refine z_getR (r := 1) zfRX8_12 dX8_isTime_6 hh0.1 rfl ?_
      refine z_getI (ki := 9) zfRX8_185 dX8_isTime_9 hh0.2.1.1 rfl rfl ?_
      suffices hJ5 : z_Sem mX8_isTime (sh.length, 0) 20 [] [z_i (if (w 1 9) < x1 then 0 else 1)] (sh, w) Q by
        refine z_icmp_gt (tgt := 19) dX8_isTime_12 (by decide) (fun c6 => ?_) (fun c6 => ?_)
        · skip
          refine z_iconst dX8_isTime_19 (by decide) ?_
          refine z_sub (L' := []) [] rfl ?_
          simp only [if_pos c6] at hJ5
          exact hJ5
        · skip
          refine z_iconst dX8_isTime_15 (by decide) ?_
          refine z_goto (tgt := 20) dX8_isTime_16 (by decide) ?_
          refine z_sub (L' := []) [] rfl ?_
          simp only [if_neg c6] at hJ5
          exact hJ5
      simp only [if_neg c2] at hJ1
      exact hJ1
  exact z_ret (v := some (z_i (if x1 < 0 then 0 else if (w 1 9) < x1 then 0 else 1))) dX8_isTime_20 ⟨rfl, Or.inr (Or.inl ⟨rfl, (z_it01 (by decide) (z_it01 (by decide) (by decide)))⟩)⟩ rfl h
def f_X8_isPinnable (w : Nat → Int → Int) (x1 : Int) : Int := if x1 = 0 then 0 else if (f_X3_isPinned w 1 x1) = 0 then 1 else 0
def s_X8_isPinnable (w : Nat → Int → Int) (x1 : Int) : Prop := (¬ x1 = 0 → (s_X3_isPinned w 1 x1) ∧ True) ∧ True
set_option maxRecDepth 100000 in
theorem t_X8_isPinnable {sh : List z_C} {w : Nat → Int → Int} {Q : Option z_V → z_S → Prop} {x1 : Int} (hh0 : z_isTG sh 0) (hs : s_X8_isPinnable w x1) (h : Q (some (z_i (f_X8_isPinnable w x1))) (sh, w)) : z_Sem mX8_isPinnable (sh.length, 0) 0 [(0, z_r 0), (1, z_i x1)] [] (sh, w) Q := by
  unfold f_X8_isPinnable at h
  unfold s_X8_isPinnable at hs
  refine z_iload_n 1 dX8_isPinnable_0 rfl rfl ?_
  obtain ⟨m3, hs⟩ := hs
  suffices hJ1 : z_Sem mX8_isPinnable (sh.length, 0) 20 [] [z_i (if x1 = 0 then 0 else if (f_X3_isPinned w 1 x1) = 0 then 1 else 0)] (sh, w) Q by
    refine z_if_eq (tgt := 19) dX8_isPinnable_1 (by decide) (fun c2 => ?_) (fun c2 => ?_)
    · skip
      refine z_iconst dX8_isPinnable_19 (by decide) ?_
      refine z_sub (L' := []) [] rfl ?_
      simp only [if_pos c2] at hJ1
      exact hJ1
    · skip
      have ho5 := m3 c2
      refine z_aload_n 0 dX8_isPinnable_4 rfl rfl ?_
      refine z_getR (r := 1) zfRX8_12 dX8_isPinnable_5 hh0.1 rfl ?_
      refine z_iload_n 1 dX8_isPinnable_8 rfl rfl ?_
      obtain ⟨q6, ho5⟩ := ho5
      refine z_callV (As := [z_i x1]) (rest := []) zmX3_isPinned znX3_isPinned zsX3_isPinned (show z_Cl[3]? = some (RX3, TX3, 12) from rfl) zlRX8_182 ⟨Nat.le_of_ble_eq_true rfl, Nat.le_of_ble_eq_true rfl⟩ dX8_isPinnable_9 hh0.2.1.1 rfl rfl (z_ai z_a0) (Nat.le_of_ble_eq_true rfl) (Nat.le_of_ble_eq_true rfl) ⟨rfl, rfl⟩ ?_
      refine t_X3_isPinned hh0.2.1 q6 ?_
      show z_Sem mX8_isPinnable (sh.length, 0) 12 [(0, z_r 0), (1, z_i x1)] [z_i (f_X3_isPinned w 1 x1)] (sh, w) Q
      suffices hJ7 : z_Sem mX8_isPinnable (sh.length, 0) 20 [] [z_i (if (f_X3_isPinned w 1 x1) = 0 then 1 else 0)] (sh, w) Q by
        refine z_if_ne (tgt := 19) dX8_isPinnable_12 (by decide) (fun c8 => ?_) (fun c8 => ?_)
        · skip
          refine z_iconst dX8_isPinnable_19 (by decide) ?_
          refine z_sub (L' := []) [] rfl ?_
          simp only [if_neg c8] at hJ7
          exact hJ7
        · skip
          refine z_iconst dX8_isPinnable_15 (by decide) ?_
          refine z_goto (tgt := 20) dX8_isPinnable_16 (by decide) ?_
          refine z_sub (L' := []) [] rfl ?_
          simp only [if_pos c8] at hJ7
          exact hJ7
      simp only [if_neg c2] at hJ1
      exact hJ1
  exact z_ret (v := some (z_i (if x1 = 0 then 0 else if (f_X3_isPinned w 1 x1) = 0 then 1 else 0))) dX8_isPinnable_20 ⟨rfl, Or.inr (Or.inl ⟨rfl, (z_it01 (by decide) (z_it01 (by decide) (by decide)))⟩)⟩ rfl h
set_option maxRecDepth 100000 in
theorem t_X8_pin {sh : List z_C} {w : Nat → Int → Int} {Q : Option z_V → z_S → Prop} {x1 : Int} {x2 : Int} (hh0 : z_isTG sh 0) (h : (((f_X8_isEvent w x1) = 0 → Q (some (z_i (-1))) (sh, w)) ∧ (¬ (f_X8_isEvent w x1) = 0 → (((f_X8_isTime w x2) = 0 → Q (some (z_i (-1))) (sh, w)) ∧ (¬ (f_X8_isTime w x2) = 0 → (s_X8_isPinnable w x1) ∧ (((f_X8_isPinnable w x1) = 0 → Q (some (z_i (-3))) (sh, w)) ∧ (¬ (f_X8_isPinnable w x1) = 0 → (s_X2_allows w 12 x1 x2) ∧ (((f_X2_allows w 12 x1 x2) = 0 → Q (some (z_i (-5))) (sh, w)) ∧ (¬ (f_X2_allows w 12 x1 x2) = 0 → z_CV mX0_remember [z_r 24, z_r 1] sh w (fun w7 => ((0 : Int) ≤ x1 ∧ x1 < 10) ∧ ∀ w8 : Nat → Int → Int, w8 = z_W w7 4 x1 x2 → z_CV mX8_finish [z_r 0, z_i 5, z_i x1, z_i x2] sh w8 (fun w10 => z_CI mX3_countPinned [z_r 1] sh w10 (fun y12 w11 => Q (some (z_i y12)) (sh, w11))))))))))))) : z_Sem mX8_pin (sh.length, 0) 0 [(0, z_r 0), (1, z_i x1), (2, z_i x2)] [] (sh, w) Q := by
  refine z_aload_n 0 dX8_pin_0 rfl rfl ?_
  refine z_iload_n 1 dX8_pin_1 rfl rfl ?_
  refine z_callV (As := [z_i x1]) (rest := []) zmX8_isEvent znX8_isEvent zsX8_isEvent (show z_Cl[8]? = some (RX8, TX8, 9) from rfl) zlRX8_163 ⟨Nat.le_of_ble_eq_true rfl, Nat.le_of_ble_eq_true rfl⟩ dX8_pin_2 hh0.1 rfl rfl (z_ai z_a0) (Nat.le_of_ble_eq_true rfl) (Nat.le_of_ble_eq_true rfl) ⟨rfl, rfl⟩ ?_
  refine t_X8_isEvent hh0 ?_
  show z_Sem mX8_pin (sh.length, 0) 5 [(0, z_r 0), (1, z_i x1), (2, z_i x2)] [z_i (f_X8_isEvent w x1)] (sh, w) Q
  refine z_if_eq (tgt := 16) dX8_pin_5 (by decide) (fun c1 => ?_) (fun c1 => ?_)
  · replace h := h.1 c1
    refine z_iconst dX8_pin_16 (by decide) ?_
    exact z_ret (v := some (z_i (-1))) dX8_pin_17 ⟨rfl, Or.inl rfl⟩ rfl h
  · replace h := h.2 c1
    refine z_aload_n 0 dX8_pin_8 rfl rfl ?_
    refine z_iload_n 2 dX8_pin_9 rfl rfl ?_
    refine z_callV (As := [z_i x2]) (rest := []) zmX8_isTime znX8_isTime zsX8_isTime (show z_Cl[8]? = some (RX8, TX8, 9) from rfl) zlRX8_166 ⟨Nat.le_of_ble_eq_true rfl, Nat.le_of_ble_eq_true rfl⟩ dX8_pin_10 hh0.1 rfl rfl (z_ai z_a0) (Nat.le_of_ble_eq_true rfl) (Nat.le_of_ble_eq_true rfl) ⟨rfl, rfl⟩ ?_
    refine t_X8_isTime hh0 ?_
    show z_Sem mX8_pin (sh.length, 0) 13 [(0, z_r 0), (1, z_i x1), (2, z_i x2)] [z_i (f_X8_isTime w x2)] (sh, w) Q
    refine z_if_ne (tgt := 18) dX8_pin_13 (by decide) (fun c2 => ?_) (fun c2 => ?_)
    · replace h := h.2 c2
      refine z_aload_n 0 dX8_pin_18 rfl rfl ?_
      refine z_iload_n 1 dX8_pin_19 rfl rfl ?_
      obtain ⟨q3, h⟩ := h
      refine z_callV (As := [z_i x1]) (rest := []) zmX8_isPinnable znX8_isPinnable zsX8_isPinnable (show z_Cl[8]? = some (RX8, TX8, 9) from rfl) zlRX8_169 ⟨Nat.le_of_ble_eq_true rfl, Nat.le_of_ble_eq_true rfl⟩ dX8_pin_20 hh0.1 rfl rfl (z_ai z_a0) (Nat.le_of_ble_eq_true rfl) (Nat.le_of_ble_eq_true rfl) ⟨rfl, rfl⟩ ?_
      refine t_X8_isPinnable hh0 q3 ?_
      show z_Sem mX8_pin (sh.length, 0) 23 [(0, z_r 0), (1, z_i x1), (2, z_i x2)] [z_i (f_X8_isPinnable w x1)] (sh, w) Q
      refine z_if_ne (tgt := 29) dX8_pin_23 (by decide) (fun c4 => ?_) (fun c4 => ?_)
      · replace h := h.2 c4
        refine z_aload_n 0 dX8_pin_29 rfl rfl ?_
        refine z_getR (r := 12) zfRX8_19 dX8_pin_30 hh0.1 rfl ?_
        refine z_iload_n 1 dX8_pin_33 rfl rfl ?_
        refine z_iload_n 2 dX8_pin_34 rfl rfl ?_
        obtain ⟨q5, h⟩ := h
        refine z_callV (As := [z_i x1, z_i x2]) (rest := []) zmX2_allows znX2_allows zsX2_allows (show z_Cl[2]? = some (RX2, TX2, 7) from rfl) zlRX8_172 ⟨Nat.le_of_ble_eq_true rfl, Nat.le_of_ble_eq_true rfl⟩ dX8_pin_35 hh0.2.2.1.1 rfl rfl (z_ai (z_ai z_a0)) (Nat.le_of_ble_eq_true rfl) (Nat.le_of_ble_eq_true rfl) ⟨rfl, rfl⟩ ?_
        refine t_X2_allows hh0.2.2.1 q5 ?_
        show z_Sem mX8_pin (sh.length, 0) 38 [(0, z_r 0), (1, z_i x1), (2, z_i x2)] [z_i (f_X2_allows w 12 x1 x2)] (sh, w) Q
        refine z_if_ne (tgt := 44) dX8_pin_38 (by decide) (fun c6 => ?_) (fun c6 => ?_)
        · replace h := h.2 c6
          refine z_aload_n 0 dX8_pin_44 rfl rfl ?_
          refine z_getR (r := 24) zfRX8_29 dX8_pin_45 hh0.1 rfl ?_
          refine z_aload_n 0 dX8_pin_48 rfl rfl ?_
          refine z_getR (r := 1) zfRX8_12 dX8_pin_49 hh0.1 rfl ?_
          refine z_callV (As := [z_r 1]) (rest := []) zmX0_remember znX0_remember zsX0_remember (show z_Cl[0]? = some (RX0, TX0, 3) from rfl) zlRX8_105 ⟨Nat.le_of_ble_eq_true rfl, Nat.le_of_ble_eq_true rfl⟩ dX8_pin_52 hh0.2.2.2.2.1.1 rfl rfl (z_ar z_a0) (Nat.le_of_ble_eq_true rfl) (Nat.le_of_ble_eq_true rfl) ⟨rfl, rfl⟩ (z_CVm h ?_)
          intro w7 h
          show z_Sem mX8_pin (sh.length, 0) 55 [(0, z_r 0), (1, z_i x1), (2, z_i x2)] [] (sh, w7) Q
          refine z_aload_n 0 dX8_pin_55 rfl rfl ?_
          refine z_getR (r := 1) zfRX8_12 dX8_pin_56 hh0.1 rfl ?_
          refine z_getR (r := 4) zfRX8_176 dX8_pin_59 hh0.2.1.1 rfl ?_
          refine z_iload_n 1 dX8_pin_62 rfl rfl ?_
          refine z_iload_n 2 dX8_pin_63 rfl rfl ?_
          obtain ⟨q9, h⟩ := h
          refine z_iast dX8_pin_64 hh0.2.1.2.2.2.1 q9 ?_
          refine z_genw (fun w8 hw8 => ?_)
          replace h := h w8 hw8
          refine z_aload_n 0 dX8_pin_65 rfl rfl ?_
          refine z_iconst dX8_pin_66 (by decide) ?_
          refine z_iload_n 1 dX8_pin_67 rfl rfl ?_
          refine z_iload_n 2 dX8_pin_68 rfl rfl ?_
          refine z_callV (As := [z_i 5, z_i x1, z_i x2]) (rest := []) zmX8_finish znX8_finish zsX8_finish (show z_Cl[8]? = some (RX8, TX8, 9) from rfl) zlRX8_112 ⟨Nat.le_of_ble_eq_true rfl, Nat.le_of_ble_eq_true rfl⟩ dX8_pin_69 hh0.1 rfl rfl (z_ai (z_ai (z_ai z_a0))) (Nat.le_of_ble_eq_true rfl) (Nat.le_of_ble_eq_true rfl) ⟨rfl, rfl⟩ (z_CVm h ?_)
          intro w10 h
          show z_Sem mX8_pin (sh.length, 0) 72 [(0, z_r 0), (1, z_i x1), (2, z_i x2)] [] (sh, w10) Q
          refine z_aload_n 0 dX8_pin_72 rfl rfl ?_
          refine z_getR (r := 1) zfRX8_12 dX8_pin_73 hh0.1 rfl ?_
          refine z_callV (As := []) (rest := []) zmX3_countPinned znX3_countPinned zsX3_countPinned (show z_Cl[3]? = some (RX3, TX3, 12) from rfl) zlRX8_179 ⟨Nat.le_of_ble_eq_true rfl, Nat.le_of_ble_eq_true rfl⟩ dX8_pin_76 hh0.2.1.1 rfl rfl z_a0 (Nat.le_of_ble_eq_true rfl) (Nat.le_of_ble_eq_true rfl) ⟨rfl, rfl⟩ (z_CIm h ?_)
          intro y12 w11 h
          show z_Sem mX8_pin (sh.length, 0) 79 [(0, z_r 0), (1, z_i x1), (2, z_i x2)] [z_i y12] (sh, w11) Q
          exact z_ret (v := some (z_i y12)) dX8_pin_79 ⟨rfl, Or.inl rfl⟩ rfl h
        · replace h := h.1 c6
          refine z_bipush dX8_pin_41 (by decide) (by decide) ?_
          exact z_ret (v := some (z_i (-5))) dX8_pin_43 ⟨rfl, Or.inl rfl⟩ rfl h
      · replace h := h.1 c4
        refine z_bipush dX8_pin_26 (by decide) (by decide) ?_
        exact z_ret (v := some (z_i (-3))) dX8_pin_28 ⟨rfl, Or.inl rfl⟩ rfl h
    · replace h := h.1 c2
      refine z_iconst dX8_pin_16 (by decide) ?_
      exact z_ret (v := some (z_i (-1))) dX8_pin_17 ⟨rfl, Or.inl rfl⟩ rfl h
set_option maxRecDepth 100000 in
theorem t_X8_unpin {sh : List z_C} {w : Nat → Int → Int} {Q : Option z_V → z_S → Prop} {x1 : Int} (hh0 : z_isTG sh 0) (h : (((f_X8_isEvent w x1) = 0 → Q (some (z_i (-1))) (sh, w)) ∧ (¬ (f_X8_isEvent w x1) = 0 → (s_X3_isPinned w 1 x1) ∧ (((f_X3_isPinned w 1 x1) = 0 → Q (some (z_i (-3))) (sh, w)) ∧ (¬ (f_X3_isPinned w 1 x1) = 0 → ((0 : Int) ≤ x1 ∧ x1 < 10) ∧ ∀ y5 : Int, y5 = (w 4 x1) → z_CV mX0_remember [z_r 24, z_r 1] sh w (fun w6 => ((0 : Int) ≤ x1 ∧ x1 < 10) ∧ ∀ w7 : Nat → Int → Int, w7 = z_W w6 4 x1 (-1) → z_CV mX8_finish [z_r 0, z_i 6, z_i x1, z_i y5] sh w7 (fun w9 => Q (some (z_i y5)) (sh, w9)))))))) : z_Sem mX8_unpin (sh.length, 0) 0 [(0, z_r 0), (1, z_i x1)] [] (sh, w) Q := by
  refine z_aload_n 0 dX8_unpin_0 rfl rfl ?_
  refine z_iload_n 1 dX8_unpin_1 rfl rfl ?_
  refine z_callV (As := [z_i x1]) (rest := []) zmX8_isEvent znX8_isEvent zsX8_isEvent (show z_Cl[8]? = some (RX8, TX8, 9) from rfl) zlRX8_163 ⟨Nat.le_of_ble_eq_true rfl, Nat.le_of_ble_eq_true rfl⟩ dX8_unpin_2 hh0.1 rfl rfl (z_ai z_a0) (Nat.le_of_ble_eq_true rfl) (Nat.le_of_ble_eq_true rfl) ⟨rfl, rfl⟩ ?_
  refine t_X8_isEvent hh0 ?_
  show z_Sem mX8_unpin (sh.length, 0) 5 [(0, z_r 0), (1, z_i x1)] [z_i (f_X8_isEvent w x1)] (sh, w) Q
  refine z_if_ne (tgt := 10) dX8_unpin_5 (by decide) (fun c1 => ?_) (fun c1 => ?_)
  · replace h := h.2 c1
    refine z_aload_n 0 dX8_unpin_10 rfl rfl ?_
    refine z_getR (r := 1) zfRX8_12 dX8_unpin_11 hh0.1 rfl ?_
    refine z_iload_n 1 dX8_unpin_14 rfl rfl ?_
    obtain ⟨q2, h⟩ := h
    refine z_callV (As := [z_i x1]) (rest := []) zmX3_isPinned znX3_isPinned zsX3_isPinned (show z_Cl[3]? = some (RX3, TX3, 12) from rfl) zlRX8_182 ⟨Nat.le_of_ble_eq_true rfl, Nat.le_of_ble_eq_true rfl⟩ dX8_unpin_15 hh0.2.1.1 rfl rfl (z_ai z_a0) (Nat.le_of_ble_eq_true rfl) (Nat.le_of_ble_eq_true rfl) ⟨rfl, rfl⟩ ?_
    refine t_X3_isPinned hh0.2.1 q2 ?_
    show z_Sem mX8_unpin (sh.length, 0) 18 [(0, z_r 0), (1, z_i x1)] [z_i (f_X3_isPinned w 1 x1)] (sh, w) Q
    refine z_if_ne (tgt := 24) dX8_unpin_18 (by decide) (fun c3 => ?_) (fun c3 => ?_)
    · replace h := h.2 c3
      refine z_aload_n 0 dX8_unpin_24 rfl rfl ?_
      refine z_getR (r := 1) zfRX8_12 dX8_unpin_25 hh0.1 rfl ?_
      refine z_getR (r := 4) zfRX8_176 dX8_unpin_28 hh0.2.1.1 rfl ?_
      refine z_iload_n 1 dX8_unpin_31 rfl rfl ?_
      obtain ⟨q4, h⟩ := h
      refine z_iald dX8_unpin_32 hh0.2.1.2.2.2.1 q4 ?_
      refine z_nam (fun y5 hy5 => ?_)
      replace h := h y5 hy5
      refine z_istore_n (L' := [(2, z_i y5), (0, z_r 0), (1, z_i x1)]) dX8_unpin_33 rfl (by decide) rfl ?_
      refine z_aload_n 1 dX8_unpin_34 rfl rfl ?_
      refine z_getR (r := 24) zfRX8_29 dX8_unpin_35 hh0.1 rfl ?_
      refine z_aload_n 1 dX8_unpin_38 rfl rfl ?_
      refine z_getR (r := 1) zfRX8_12 dX8_unpin_39 hh0.1 rfl ?_
      refine z_callV (As := [z_r 1]) (rest := []) zmX0_remember znX0_remember zsX0_remember (show z_Cl[0]? = some (RX0, TX0, 3) from rfl) zlRX8_105 ⟨Nat.le_of_ble_eq_true rfl, Nat.le_of_ble_eq_true rfl⟩ dX8_unpin_42 hh0.2.2.2.2.1.1 rfl rfl (z_ar z_a0) (Nat.le_of_ble_eq_true rfl) (Nat.le_of_ble_eq_true rfl) ⟨rfl, rfl⟩ (z_CVm h ?_)
      intro w6 h
      show z_Sem mX8_unpin (sh.length, 0) 45 [(2, z_i y5), (0, z_r 0), (1, z_i x1)] [] (sh, w6) Q
      refine z_aload_n 1 dX8_unpin_45 rfl rfl ?_
      refine z_getR (r := 1) zfRX8_12 dX8_unpin_46 hh0.1 rfl ?_
      refine z_getR (r := 4) zfRX8_176 dX8_unpin_49 hh0.2.1.1 rfl ?_
      refine z_iload_n 2 dX8_unpin_52 rfl rfl ?_
      refine z_iconst dX8_unpin_53 (by decide) ?_
      obtain ⟨q8, h⟩ := h
      refine z_iast dX8_unpin_54 hh0.2.1.2.2.2.1 q8 ?_
      refine z_genw (fun w7 hw7 => ?_)
      replace h := h w7 hw7
      refine z_aload_n 1 dX8_unpin_55 rfl rfl ?_
      refine z_bipush dX8_unpin_56 (by decide) (by decide) ?_
      refine z_iload_n 2 dX8_unpin_58 rfl rfl ?_
      refine z_iload_n 0 dX8_unpin_59 rfl rfl ?_
      refine z_callV (As := [z_i 6, z_i x1, z_i y5]) (rest := []) zmX8_finish znX8_finish zsX8_finish (show z_Cl[8]? = some (RX8, TX8, 9) from rfl) zlRX8_112 ⟨Nat.le_of_ble_eq_true rfl, Nat.le_of_ble_eq_true rfl⟩ dX8_unpin_60 hh0.1 rfl rfl (z_ai (z_ai (z_ai z_a0))) (Nat.le_of_ble_eq_true rfl) (Nat.le_of_ble_eq_true rfl) ⟨rfl, rfl⟩ (z_CVm h ?_)
      intro w9 h
      show z_Sem mX8_unpin (sh.length, 0) 63 [(2, z_i y5), (0, z_r 0), (1, z_i x1)] [] (sh, w9) Q
      refine z_iload_n 0 dX8_unpin_63 rfl rfl ?_
      exact z_ret (v := some (z_i y5)) dX8_unpin_64 ⟨rfl, Or.inl rfl⟩ rfl h
    · replace h := h.1 c3
      refine z_bipush dX8_unpin_21 (by decide) (by decide) ?_
      exact z_ret (v := some (z_i (-3))) dX8_unpin_23 ⟨rfl, Or.inl rfl⟩ rfl h
  · replace h := h.1 c1
    refine z_iconst dX8_unpin_8 (by decide) ?_
    exact z_ret (v := some (z_i (-1))) dX8_unpin_9 ⟨rfl, Or.inl rfl⟩ rfl h
