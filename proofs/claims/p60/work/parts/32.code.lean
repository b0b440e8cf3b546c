set_option maxRecDepth 100000 in
theorem t_X8_end {sh : List z_C} {w : Nat → Int → Int} {Q : Option z_V → z_S → Prop} {x1 : Int} (hh0 : z_isTG sh 0) (h : ((x1 < 1 → Q (some (z_i (-1))) (sh, w)) ∧ (¬ x1 < 1 → ((x1 ≤ 999 → ∀ y3 : Int, y3 = (w 1 9) → ((x1 = y3 → Q (some (z_i (-2))) (sh, w)) ∧ (¬ x1 = y3 → z_CI mX2_greatestEarliest [z_r 12] sh w (fun y6 w5 => ((y6 ≤ x1 → z_CV mX0_remember [z_r 24, z_r 1] sh w5 (fun w8 => ∀ w9 : Nat → Int → Int, w9 = z_W w8 1 9 x1 → z_CV mX8_finish [z_r 0, z_i 7, z_i x1, z_i y3] sh w9 (fun w10 => Q (some (z_i y3)) (sh, w10)))) ∧ (¬ y6 ≤ x1 → Q (some (z_i (-5))) (sh, w5))))))) ∧ (¬ x1 ≤ 999 → Q (some (z_i (-1))) (sh, w)))))) : z_Sem mX8_end (sh.length, 0) 0 [(0, z_r 0), (1, z_i x1)] [] (sh, w) Q := by
  refine z_iload_n 1 dX8_end_0 rfl rfl ?_
  refine z_iconst dX8_end_1 (by decide) ?_
  refine z_icmp_lt (tgt := 12) dX8_end_2 (by decide) (fun c1 => ?_) (fun c1 => ?_)
  · replace h := h.1 c1
    refine z_iconst dX8_end_12 (by decide) ?_
    exact z_ret (v := some (z_i (-1))) dX8_end_13 ⟨rfl, Or.inl rfl⟩ rfl h
  · replace h := h.2 c1
    refine z_iload_n 1 dX8_end_5 rfl rfl ?_
    refine z_sipush dX8_end_6 (by decide) (by decide) ?_
    refine z_icmp_le (tgt := 14) dX8_end_9 (by decide) (fun c2 => ?_) (fun c2 => ?_)
    · replace h := h.1 c2
      refine z_aload_n 0 dX8_end_14 rfl rfl ?_
      refine z_getR (r := 1) zfRX8_12 dX8_end_15 hh0.1 rfl ?_
      refine z_getI (ki := 9) zfRX8_185 dX8_end_18 hh0.2.1.1 rfl rfl ?_
      refine z_nam (fun y3 hy3 => ?_)
      replace h := h y3 hy3
      refine z_istore_n (L' := [(2, z_i y3), (0, z_r 0), (1, z_i x1)]) dX8_end_21 rfl (by decide) rfl ?_
      refine z_iload_n 2 dX8_end_22 rfl rfl ?_
      refine z_iload_n 0 dX8_end_23 rfl rfl ?_
      refine z_icmp_ne (tgt := 30) dX8_end_24 (by decide) (fun c4 => ?_) (fun c4 => ?_)
      · replace h := h.2 c4
        refine z_iload_n 2 dX8_end_30 rfl rfl ?_
        refine z_aload_n 1 dX8_end_31 rfl rfl ?_
        refine z_getR (r := 12) zfRX8_19 dX8_end_32 hh0.1 rfl ?_
        refine z_callV (As := []) (rest := [z_i x1]) zmX2_greatestEarliest znX2_greatestEarliest zsX2_greatestEarliest (show z_Cl[2]? = some (RX2, TX2, 7) from rfl) zlRX8_188 ⟨Nat.le_of_ble_eq_true rfl, Nat.le_of_ble_eq_true rfl⟩ dX8_end_35 hh0.2.2.1.1 rfl rfl z_a0 (Nat.le_of_ble_eq_true rfl) (Nat.le_of_ble_eq_true rfl) ⟨rfl, rfl⟩ (z_CIm h ?_)
        intro y6 w5 h
        show z_Sem mX8_end (sh.length, 0) 38 [(2, z_i y3), (0, z_r 0), (1, z_i x1)] [z_i y6, z_i x1] (sh, w5) Q
        refine z_icmp_ge (tgt := 44) dX8_end_38 (by decide) (fun c7 => ?_) (fun c7 => ?_)
        · replace h := h.1 c7
          refine z_aload_n 1 dX8_end_44 rfl rfl ?_
          refine z_getR (r := 24) zfRX8_29 dX8_end_45 hh0.1 rfl ?_
          refine z_aload_n 1 dX8_end_48 rfl rfl ?_
          refine z_getR (r := 1) zfRX8_12 dX8_end_49 hh0.1 rfl ?_
          refine z_callV (As := [z_r 1]) (rest := []) zmX0_remember znX0_remember zsX0_remember (show z_Cl[0]? = some (RX0, TX0, 3) from rfl) zlRX8_105 ⟨Nat.le_of_ble_eq_true rfl, Nat.le_of_ble_eq_true rfl⟩ dX8_end_52 hh0.2.2.2.2.1.1 rfl rfl (z_ar z_a0) (Nat.le_of_ble_eq_true rfl) (Nat.le_of_ble_eq_true rfl) ⟨rfl, rfl⟩ (z_CVm h ?_)
          intro w8 h
          show z_Sem mX8_end (sh.length, 0) 55 [(2, z_i y3), (0, z_r 0), (1, z_i x1)] [] (sh, w8) Q
          refine z_aload_n 1 dX8_end_55 rfl rfl ?_
          refine z_getR (r := 1) zfRX8_12 dX8_end_56 hh0.1 rfl ?_
          refine z_iload_n 2 dX8_end_59 rfl rfl ?_
          refine z_putI (ki := 9) zfRX8_185 dX8_end_60 hh0.2.1.1 rfl rfl ?_
          refine z_genw (fun w9 hw9 => ?_)
          replace h := h w9 hw9
          refine z_aload_n 1 dX8_end_63 rfl rfl ?_
          refine z_bipush dX8_end_64 (by decide) (by decide) ?_
          refine z_iload_n 2 dX8_end_66 rfl rfl ?_
          refine z_iload_n 0 dX8_end_67 rfl rfl ?_
          refine z_callV (As := [z_i 7, z_i x1, z_i y3]) (rest := []) zmX8_finish znX8_finish zsX8_finish (show z_Cl[8]? = some (RX8, TX8, 9) from rfl) zlRX8_112 ⟨Nat.le_of_ble_eq_true rfl, Nat.le_of_ble_eq_true rfl⟩ dX8_end_68 hh0.1 rfl rfl (z_ai (z_ai (z_ai z_a0))) (Nat.le_of_ble_eq_true rfl) (Nat.le_of_ble_eq_true rfl) ⟨rfl, rfl⟩ (z_CVm h ?_)
          intro w10 h
          show z_Sem mX8_end (sh.length, 0) 71 [(2, z_i y3), (0, z_r 0), (1, z_i x1)] [] (sh, w10) Q
          refine z_iload_n 0 dX8_end_71 rfl rfl ?_
          exact z_ret (v := some (z_i y3)) dX8_end_72 ⟨rfl, Or.inl rfl⟩ rfl h
        · replace h := h.2 c7
          refine z_bipush dX8_end_41 (by decide) (by decide) ?_
          exact z_ret (v := some (z_i (-5))) dX8_end_43 ⟨rfl, Or.inl rfl⟩ rfl h
      · replace h := h.1 c4
        refine z_bipush dX8_end_27 (by decide) (by decide) ?_
        exact z_ret (v := some (z_i (-2))) dX8_end_29 ⟨rfl, Or.inl rfl⟩ rfl h
    · replace h := h.2 c2
      refine z_iconst dX8_end_12 (by decide) ?_
      exact z_ret (v := some (z_i (-1))) dX8_end_13 ⟨rfl, Or.inl rfl⟩ rfl h
set_option maxRecDepth 100000 in
theorem t_X8_rename {sh : List z_C} {w : Nat → Int → Int} {Q : Option z_V → z_S → Prop} {x1 : Int} (hh0 : z_isTG sh 0) (h : (((f_X8_isEvent w x1) = 0 → Q (some (z_i (-1))) (sh, w)) ∧ (¬ (f_X8_isEvent w x1) = 0 → z_CI mX8_isNewNameOnTape [z_r 0] sh w (fun y3 w2 => ((y3 = 0 → Q (some (z_i (-1))) (sh, w2)) ∧ (¬ y3 = 0 → ((x1 = 0 → Q (some (z_i (-3))) (sh, w2)) ∧ (¬ x1 = 0 → ∀ y6 : Int, y6 = (w2 140 1) → z_CV mX0_remember [z_r 24, z_r 1] sh w2 (fun w7 => z_CV mX3_nameEvent [z_r 1, z_i x1, z_r 140, z_i 0, z_i y6] sh w7 (fun w8 => ∀ w9 : Nat → Int → Int, w9 = z_W w8 140 1 0 → z_CV mX8_finish [z_r 0, z_i 9, z_i x1, z_i y6] sh w9 (fun w10 => Q (some (z_i y6)) (sh, w10)))))))))))) : z_Sem mX8_rename (sh.length, 0) 0 [(0, z_r 0), (1, z_i x1)] [] (sh, w) Q := by
  refine z_aload_n 0 dX8_rename_0 rfl rfl ?_
  refine z_iload_n 1 dX8_rename_1 rfl rfl ?_
  refine z_callV (As := [z_i x1]) (rest := []) zmX8_isEvent znX8_isEvent zsX8_isEvent (show z_Cl[8]? = some (RX8, TX8, 9) from rfl) zlRX8_163 ⟨Nat.le_of_ble_eq_true rfl, Nat.le_of_ble_eq_true rfl⟩ dX8_rename_2 hh0.1 rfl rfl (z_ai z_a0) (Nat.le_of_ble_eq_true rfl) (Nat.le_of_ble_eq_true rfl) ⟨rfl, rfl⟩ ?_
  refine t_X8_isEvent hh0 ?_
  show z_Sem mX8_rename (sh.length, 0) 5 [(0, z_r 0), (1, z_i x1)] [z_i (f_X8_isEvent w x1)] (sh, w) Q
  refine z_if_eq (tgt := 15) dX8_rename_5 (by decide) (fun c1 => ?_) (fun c1 => ?_)
  · replace h := h.1 c1
    refine z_iconst dX8_rename_15 (by decide) ?_
    exact z_ret (v := some (z_i (-1))) dX8_rename_16 ⟨rfl, Or.inl rfl⟩ rfl h
  · replace h := h.2 c1
    refine z_aload_n 0 dX8_rename_8 rfl rfl ?_
    refine z_callV (As := []) (rest := []) zmX8_isNewNameOnTape znX8_isNewNameOnTape zsX8_isNewNameOnTape (show z_Cl[8]? = some (RX8, TX8, 9) from rfl) zlRX8_99 ⟨Nat.le_of_ble_eq_true rfl, Nat.le_of_ble_eq_true rfl⟩ dX8_rename_9 hh0.1 rfl rfl z_a0 (Nat.le_of_ble_eq_true rfl) (Nat.le_of_ble_eq_true rfl) ⟨rfl, rfl⟩ (z_CIm h ?_)
    intro y3 w2 h
    show z_Sem mX8_rename (sh.length, 0) 12 [(0, z_r 0), (1, z_i x1)] [z_i y3] (sh, w2) Q
    refine z_if_ne (tgt := 17) dX8_rename_12 (by decide) (fun c4 => ?_) (fun c4 => ?_)
    · replace h := h.2 c4
      refine z_iload_n 1 dX8_rename_17 rfl rfl ?_
      refine z_if_ne (tgt := 24) dX8_rename_18 (by decide) (fun c5 => ?_) (fun c5 => ?_)
      · replace h := h.2 c5
        refine z_aload_n 0 dX8_rename_24 rfl rfl ?_
        refine z_getR (r := 140) zfRX8_51 dX8_rename_25 hh0.1 rfl ?_
        refine z_getI (ki := 1) zfRX8_70 dX8_rename_28 hh0.2.2.2.2.2.2.2.1.1 rfl rfl ?_
        refine z_nam (fun y6 hy6 => ?_)
        replace h := h y6 hy6
        refine z_istore_n (L' := [(2, z_i y6), (0, z_r 0), (1, z_i x1)]) dX8_rename_31 rfl (by decide) rfl ?_
        refine z_aload_n 1 dX8_rename_32 rfl rfl ?_
        refine z_getR (r := 24) zfRX8_29 dX8_rename_33 hh0.1 rfl ?_
        refine z_aload_n 1 dX8_rename_36 rfl rfl ?_
        refine z_getR (r := 1) zfRX8_12 dX8_rename_37 hh0.1 rfl ?_
        refine z_callV (As := [z_r 1]) (rest := []) zmX0_remember znX0_remember zsX0_remember (show z_Cl[0]? = some (RX0, TX0, 3) from rfl) zlRX8_105 ⟨Nat.le_of_ble_eq_true rfl, Nat.le_of_ble_eq_true rfl⟩ dX8_rename_40 hh0.2.2.2.2.1.1 rfl rfl (z_ar z_a0) (Nat.le_of_ble_eq_true rfl) (Nat.le_of_ble_eq_true rfl) ⟨rfl, rfl⟩ (z_CVm h ?_)
        intro w7 h
        show z_Sem mX8_rename (sh.length, 0) 43 [(2, z_i y6), (0, z_r 0), (1, z_i x1)] [] (sh, w7) Q
        refine z_aload_n 1 dX8_rename_43 rfl rfl ?_
        refine z_getR (r := 1) zfRX8_12 dX8_rename_44 hh0.1 rfl ?_
        refine z_iload_n 2 dX8_rename_47 rfl rfl ?_
        refine z_aload_n 1 dX8_rename_48 rfl rfl ?_
        refine z_getR (r := 140) zfRX8_51 dX8_rename_49 hh0.1 rfl ?_
        refine z_iconst dX8_rename_52 (by decide) ?_
        refine z_iload_n 0 dX8_rename_53 rfl rfl ?_
        refine z_callV (As := [z_i x1, z_r 140, z_i 0, z_i y6]) (rest := []) zmX3_nameEvent znX3_nameEvent zsX3_nameEvent (show z_Cl[3]? = some (RX3, TX3, 12) from rfl) zlRX8_191 ⟨Nat.le_of_ble_eq_true rfl, Nat.le_of_ble_eq_true rfl⟩ dX8_rename_54 hh0.2.1.1 rfl rfl (z_ai (z_ar (z_ai (z_ai z_a0)))) (Nat.le_of_ble_eq_true rfl) (Nat.le_of_ble_eq_true rfl) ⟨rfl, rfl⟩ (z_CVm h ?_)
        intro w8 h
        show z_Sem mX8_rename (sh.length, 0) 57 [(2, z_i y6), (0, z_r 0), (1, z_i x1)] [] (sh, w8) Q
        refine z_aload_n 1 dX8_rename_57 rfl rfl ?_
        refine z_getR (r := 140) zfRX8_51 dX8_rename_58 hh0.1 rfl ?_
        refine z_iconst dX8_rename_61 (by decide) ?_
        refine z_putI (ki := 1) zfRX8_70 dX8_rename_62 hh0.2.2.2.2.2.2.2.1.1 rfl rfl ?_
        refine z_genw (fun w9 hw9 => ?_)
        replace h := h w9 hw9
        refine z_aload_n 1 dX8_rename_65 rfl rfl ?_
        refine z_bipush dX8_rename_66 (by decide) (by decide) ?_
        refine z_iload_n 2 dX8_rename_68 rfl rfl ?_
        refine z_iload_n 0 dX8_rename_69 rfl rfl ?_
        refine z_callV (As := [z_i 9, z_i x1, z_i y6]) (rest := []) zmX8_finish znX8_finish zsX8_finish (show z_Cl[8]? = some (RX8, TX8, 9) from rfl) zlRX8_112 ⟨Nat.le_of_ble_eq_true rfl, Nat.le_of_ble_eq_true rfl⟩ dX8_rename_70 hh0.1 rfl rfl (z_ai (z_ai (z_ai z_a0))) (Nat.le_of_ble_eq_true rfl) (Nat.le_of_ble_eq_true rfl) ⟨rfl, rfl⟩ (z_CVm h ?_)
        intro w10 h
        show z_Sem mX8_rename (sh.length, 0) 73 [(2, z_i y6), (0, z_r 0), (1, z_i x1)] [] (sh, w10) Q
        refine z_iload_n 0 dX8_rename_73 rfl rfl ?_
        exact z_ret (v := some (z_i y6)) dX8_rename_74 ⟨rfl, Or.inl rfl⟩ rfl h
      · replace h := h.1 c5
        refine z_bipush dX8_rename_21 (by decide) (by decide) ?_
        exact z_ret (v := some (z_i (-3))) dX8_rename_23 ⟨rfl, Or.inl rfl⟩ rfl h
    · replace h := h.1 c4
      refine z_iconst dX8_rename_15 (by decide) ?_
      exact z_ret (v := some (z_i (-1))) dX8_rename_16 ⟨rfl, Or.inl rfl⟩ rfl h
def f_X8_lengthOf (w : Nat → Int → Int) (x1 : Int) : Int := f_X8_stepLength w (w 7 x1) (w 8 x1)
def s_X8_lengthOf (w : Nat → Int → Int) (x1 : Int) : Prop := ((0 : Int) ≤ x1 ∧ x1 < 24) ∧ ((0 : Int) ≤ x1 ∧ x1 < 24) ∧ (s_X8_stepLength w (w 7 x1) (w 8 x1)) ∧ True
set_option maxRecDepth 100000 in
theorem t_X8_lengthOf {sh : List z_C} {w : Nat → Int → Int} {Q : Option z_V → z_S → Prop} {x1 : Int} (hh0 : z_isTG sh 0) (hs : s_X8_lengthOf w x1) (h : Q (some (z_i (f_X8_lengthOf w x1))) (sh, w)) : z_Sem mX8_lengthOf (sh.length, 0) 0 [(0, z_r 0), (1, z_i x1)] [] (sh, w) Q := by
  unfold f_X8_lengthOf at h
  unfold s_X8_lengthOf at hs
  refine z_aload_n 0 dX8_lengthOf_0 rfl rfl ?_
  refine z_getR (r := 1) zfRX8_12 dX8_lengthOf_1 hh0.1 rfl ?_
  refine z_getR (r := 7) zfRX8_204 dX8_lengthOf_4 hh0.2.1.1 rfl ?_
  refine z_iload_n 1 dX8_lengthOf_7 rfl rfl ?_
  obtain ⟨q1, hs⟩ := hs
  refine z_iald dX8_lengthOf_8 hh0.2.1.2.2.2.2.2.2.1 q1 ?_
  refine z_aload_n 0 dX8_lengthOf_9 rfl rfl ?_
  refine z_getR (r := 1) zfRX8_12 dX8_lengthOf_10 hh0.1 rfl ?_
  refine z_getR (r := 8) zfRX8_141 dX8_lengthOf_13 hh0.2.1.1 rfl ?_
  refine z_iload_n 1 dX8_lengthOf_16 rfl rfl ?_
  obtain ⟨q2, hs⟩ := hs
  refine z_iald dX8_lengthOf_17 hh0.2.1.2.2.2.2.2.2.2.1 q2 ?_
  obtain ⟨q3, hs⟩ := hs
  refine z_callS (As := [z_i (w 7 x1), z_i (w 8 x1)]) (rest := []) zmX8_stepLength ztX8_stepLength zlRX8_382 ⟨Nat.le_of_ble_eq_true rfl, Nat.le_of_ble_eq_true rfl⟩ dX8_lengthOf_18 rfl rfl (z_ai (z_ai z_a0)) (Nat.le_of_ble_eq_true rfl) (Nat.le_of_ble_eq_true rfl) ⟨rfl, rfl⟩ ?_
  refine t_X8_stepLength  q3 ?_
  show z_Sem mX8_lengthOf (sh.length, 0) 21 [(0, z_r 0), (1, z_i x1)] [z_i (f_X8_stepLength w (w 7 x1) (w 8 x1))] (sh, w) Q
  exact z_ret (v := some (z_i (f_X8_stepLength w (w 7 x1) (w 8 x1)))) dX8_lengthOf_21 ⟨rfl, Or.inl rfl⟩ rfl h
def f_X8_beginOf (w : Nat → Int → Int) (x1 : Int) : Int := f_X8_stepBegin w (w 5 x1) (w 6 x1) (w 7 x1)
def s_X8_beginOf (w : Nat → Int → Int) (x1 : Int) : Prop := ((0 : Int) ≤ x1 ∧ x1 < 24) ∧ ((0 : Int) ≤ x1 ∧ x1 < 24) ∧ ((0 : Int) ≤ x1 ∧ x1 < 24) ∧ True
set_option maxRecDepth 100000 in
theorem t_X8_beginOf {sh : List z_C} {w : Nat → Int → Int} {Q : Option z_V → z_S → Prop} {x1 : Int} (hh0 : z_isTG sh 0) (hs : s_X8_beginOf w x1) (h : Q (some (z_i (f_X8_beginOf w x1))) (sh, w)) : z_Sem mX8_beginOf (sh.length, 0) 0 [(0, z_r 0), (1, z_i x1)] [] (sh, w) Q := by
  unfold f_X8_beginOf at h
  unfold s_X8_beginOf at hs
  refine z_aload_n 0 dX8_beginOf_0 rfl rfl ?_
  refine z_getR (r := 1) zfRX8_12 dX8_beginOf_1 hh0.1 rfl ?_
  refine z_getR (r := 5) zfRX8_195 dX8_beginOf_4 hh0.2.1.1 rfl ?_
  refine z_iload_n 1 dX8_beginOf_7 rfl rfl ?_
  obtain ⟨q1, hs⟩ := hs
  refine z_iald dX8_beginOf_8 hh0.2.1.2.2.2.2.1 q1 ?_
  refine z_aload_n 0 dX8_beginOf_9 rfl rfl ?_
  refine z_getR (r := 1) zfRX8_12 dX8_beginOf_10 hh0.1 rfl ?_
  refine z_getR (r := 6) zfRX8_198 dX8_beginOf_13 hh0.2.1.1 rfl ?_
  refine z_iload_n 1 dX8_beginOf_16 rfl rfl ?_
  obtain ⟨q2, hs⟩ := hs
  refine z_iald dX8_beginOf_17 hh0.2.1.2.2.2.2.2.1 q2 ?_
  refine z_aload_n 0 dX8_beginOf_18 rfl rfl ?_
  refine z_getR (r := 1) zfRX8_12 dX8_beginOf_19 hh0.1 rfl ?_
  refine z_getR (r := 7) zfRX8_204 dX8_beginOf_22 hh0.2.1.1 rfl ?_
  refine z_iload_n 1 dX8_beginOf_25 rfl rfl ?_
  obtain ⟨q3, hs⟩ := hs
  refine z_iald dX8_beginOf_26 hh0.2.1.2.2.2.2.2.2.1 q3 ?_
  refine z_callS (As := [z_i (w 5 x1), z_i (w 6 x1), z_i (w 7 x1)]) (rest := []) zmX8_stepBegin ztX8_stepBegin zlRX8_376 ⟨Nat.le_of_ble_eq_true rfl, Nat.le_of_ble_eq_true rfl⟩ dX8_beginOf_27 rfl rfl (z_ai (z_ai (z_ai z_a0))) (Nat.le_of_ble_eq_true rfl) (Nat.le_of_ble_eq_true rfl) ⟨rfl, rfl⟩ ?_
  refine t_X8_stepBegin  ?_
  show z_Sem mX8_beginOf (sh.length, 0) 30 [(0, z_r 0), (1, z_i x1)] [z_i (f_X8_stepBegin w (w 5 x1) (w 6 x1) (w 7 x1))] (sh, w) Q
  exact z_ret (v := some (z_i (f_X8_stepBegin w (w 5 x1) (w 6 x1) (w 7 x1)))) dX8_beginOf_30 ⟨rfl, Or.inl rfl⟩ rfl h
def f_X8_finishOf (w : Nat → Int → Int) (x1 : Int) : Int := f_X8_stepFinish w (w 5 x1) (w 6 x1) (w 7 x1)
def s_X8_finishOf (w : Nat → Int → Int) (x1 : Int) : Prop := ((0 : Int) ≤ x1 ∧ x1 < 24) ∧ ((0 : Int) ≤ x1 ∧ x1 < 24) ∧ ((0 : Int) ≤ x1 ∧ x1 < 24) ∧ True
set_option maxRecDepth 100000 in
theorem t_X8_finishOf {sh : List z_C} {w : Nat → Int → Int} {Q : Option z_V → z_S → Prop} {x1 : Int} (hh0 : z_isTG sh 0) (hs : s_X8_finishOf w x1) (h : Q (some (z_i (f_X8_finishOf w x1))) (sh, w)) : z_Sem mX8_finishOf (sh.length, 0) 0 [(0, z_r 0), (1, z_i x1)] [] (sh, w) Q := by
  unfold f_X8_finishOf at h
  unfold s_X8_finishOf at hs
  refine z_aload_n 0 dX8_finishOf_0 rfl rfl ?_
  refine z_getR (r := 1) zfRX8_12 dX8_finishOf_1 hh0.1 rfl ?_
  refine z_getR (r := 5) zfRX8_195 dX8_finishOf_4 hh0.2.1.1 rfl ?_
  refine z_iload_n 1 dX8_finishOf_7 rfl rfl ?_
  obtain ⟨q1, hs⟩ := hs
  refine z_iald dX8_finishOf_8 hh0.2.1.2.2.2.2.1 q1 ?_
  refine z_aload_n 0 dX8_finishOf_9 rfl rfl ?_
  refine z_getR (r := 1) zfRX8_12 dX8_finishOf_10 hh0.1 rfl ?_
  refine z_getR (r := 6) zfRX8_198 dX8_finishOf_13 hh0.2.1.1 rfl ?_
  refine z_iload_n 1 dX8_finishOf_16 rfl rfl ?_
  obtain ⟨q2, hs⟩ := hs
  refine z_iald dX8_finishOf_17 hh0.2.1.2.2.2.2.2.1 q2 ?_
  refine z_aload_n 0 dX8_finishOf_18 rfl rfl ?_
  refine z_getR (r := 1) zfRX8_12 dX8_finishOf_19 hh0.1 rfl ?_
  refine z_getR (r := 7) zfRX8_204 dX8_finishOf_22 hh0.2.1.1 rfl ?_
  refine z_iload_n 1 dX8_finishOf_25 rfl rfl ?_
  obtain ⟨q3, hs⟩ := hs
  refine z_iald dX8_finishOf_26 hh0.2.1.2.2.2.2.2.2.1 q3 ?_
  refine z_callS (As := [z_i (w 5 x1), z_i (w 6 x1), z_i (w 7 x1)]) (rest := []) zmX8_stepFinish ztX8_stepFinish zlRX8_379 ⟨Nat.le_of_ble_eq_true rfl, Nat.le_of_ble_eq_true rfl⟩ dX8_finishOf_27 rfl rfl (z_ai (z_ai (z_ai z_a0))) (Nat.le_of_ble_eq_true rfl) (Nat.le_of_ble_eq_true rfl) ⟨rfl, rfl⟩ ?_
  refine t_X8_stepFinish  ?_
  show z_Sem mX8_finishOf (sh.length, 0) 30 [(0, z_r 0), (1, z_i x1)] [z_i (f_X8_stepFinish w (w 5 x1) (w 6 x1) (w 7 x1))] (sh, w) Q
  exact z_ret (v := some (z_i (f_X8_stepFinish w (w 5 x1) (w 6 x1) (w 7 x1)))) dX8_finishOf_30 ⟨rfl, Or.inl rfl⟩ rfl h
def f_X8_boundOf (w : Nat → Int → Int) (x1 : Int) : Int := f_X2_between w 12 (f_X8_beginOf w x1) (f_X8_finishOf w x1)
def s_X8_boundOf (w : Nat → Int → Int) (x1 : Int) : Prop := (s_X8_beginOf w x1) ∧ (s_X8_finishOf w x1) ∧ (s_X2_between w 12 (f_X8_beginOf w x1) (f_X8_finishOf w x1)) ∧ True
set_option maxRecDepth 100000 in
theorem t_X8_boundOf {sh : List z_C} {w : Nat → Int → Int} {Q : Option z_V → z_S → Prop} {x1 : Int} (hh0 : z_isTG sh 0) (hs : s_X8_boundOf w x1) (h : Q (some (z_i (f_X8_boundOf w x1))) (sh, w)) : z_Sem mX8_boundOf (sh.length, 0) 0 [(0, z_r 0), (1, z_i x1)] [] (sh, w) Q := by
  unfold f_X8_boundOf at h
  unfold s_X8_boundOf at hs
  refine z_aload_n 0 dX8_boundOf_0 rfl rfl ?_
  refine z_getR (r := 12) zfRX8_19 dX8_boundOf_1 hh0.1 rfl ?_
  refine z_aload_n 0 dX8_boundOf_4 rfl rfl ?_
  refine z_iload_n 1 dX8_boundOf_5 rfl rfl ?_
  obtain ⟨q1, hs⟩ := hs
  refine z_callV (As := [z_i x1]) (rest := [z_r 12]) zmX8_beginOf znX8_beginOf zsX8_beginOf (show z_Cl[8]? = some (RX8, TX8, 9) from rfl) zlRX8_299 ⟨Nat.le_of_ble_eq_true rfl, Nat.le_of_ble_eq_true rfl⟩ dX8_boundOf_6 hh0.1 rfl rfl (z_ai z_a0) (Nat.le_of_ble_eq_true rfl) (Nat.le_of_ble_eq_true rfl) ⟨rfl, rfl⟩ ?_
  refine t_X8_beginOf hh0 q1 ?_
  show z_Sem mX8_boundOf (sh.length, 0) 9 [(0, z_r 0), (1, z_i x1)] [z_i (f_X8_beginOf w x1), z_r 12] (sh, w) Q
  refine z_aload_n 0 dX8_boundOf_9 rfl rfl ?_
  refine z_iload_n 1 dX8_boundOf_10 rfl rfl ?_
  obtain ⟨q2, hs⟩ := hs
  refine z_callV (As := [z_i x1]) (rest := [z_i (f_X8_beginOf w x1), z_r 12]) zmX8_finishOf znX8_finishOf zsX8_finishOf (show z_Cl[8]? = some (RX8, TX8, 9) from rfl) zlRX8_302 ⟨Nat.le_of_ble_eq_true rfl, Nat.le_of_ble_eq_true rfl⟩ dX8_boundOf_11 hh0.1 rfl rfl (z_ai z_a0) (Nat.le_of_ble_eq_true rfl) (Nat.le_of_ble_eq_true rfl) ⟨rfl, rfl⟩ ?_
  refine t_X8_finishOf hh0 q2 ?_
  show z_Sem mX8_boundOf (sh.length, 0) 14 [(0, z_r 0), (1, z_i x1)] [z_i (f_X8_finishOf w x1), z_i (f_X8_beginOf w x1), z_r 12] (sh, w) Q
  obtain ⟨q3, hs⟩ := hs
  refine z_callV (As := [z_i (f_X8_beginOf w x1), z_i (f_X8_finishOf w x1)]) (rest := []) zmX2_between znX2_between zsX2_between (show z_Cl[2]? = some (RX2, TX2, 7) from rfl) zlRX8_282 ⟨Nat.le_of_ble_eq_true rfl, Nat.le_of_ble_eq_true rfl⟩ dX8_boundOf_14 hh0.2.2.1.1 rfl rfl (z_ai (z_ai z_a0)) (Nat.le_of_ble_eq_true rfl) (Nat.le_of_ble_eq_true rfl) ⟨rfl, rfl⟩ ?_
  refine t_X2_between hh0.2.2.1 q3 ?_
  show z_Sem mX8_boundOf (sh.length, 0) 17 [(0, z_r 0), (1, z_i x1)] [z_i (f_X2_between w 12 (f_X8_beginOf w x1) (f_X8_finishOf w x1))] (sh, w) Q
  exact z_ret (v := some (z_i (f_X2_between w 12 (f_X8_beginOf w x1) (f_X8_finishOf w x1)))) dX8_boundOf_17 ⟨rfl, Or.inl rfl⟩ rfl h
def f_X8_isTight (w : Nat → Int → Int) (x1 : Int) : Int := if (w 9 x1) = 0 then 0 else if (f_X8_lengthOf w x1) = (f_X8_boundOf w x1) then 1 else 0
def s_X8_isTight (w : Nat → Int → Int) (x1 : Int) : Prop := ((0 : Int) ≤ x1 ∧ x1 < 24) ∧ (¬ (w 9 x1) = 0 → (s_X8_lengthOf w x1) ∧ (s_X8_boundOf w x1) ∧ True) ∧ True
set_option maxRecDepth 100000 in
theorem t_X8_isTight {sh : List z_C} {w : Nat → Int → Int} {Q : Option z_V → z_S → Prop} {x1 : Int} (hh0 : z_isTG sh 0) (hs : s_X8_isTight w x1) (h : Q (some (z_i (f_X8_isTight w x1))) (sh, w)) : z_Sem mX8_isTight (sh.length, 0) 0 [(0, z_r 0), (1, z_i x1)] [] (sh, w) Q := by
  unfold f_X8_isTight at h
  unfold s_X8_isTight at hs
  refine z_aload_n 0 dX8_isTight_0 rfl rfl ?_
  refine z_getR (r := 1) zfRX8_12 dX8_isTight_1 hh0.1 rfl ?_
  refine z_getR (r := 9) zfRX8_151 dX8_isTight_4 hh0.2.1.1 rfl ?_
  refine z_iload_n 1 dX8_isTight_7 rfl rfl ?_
  obtain ⟨q1, hs⟩ := hs
  refine z_zald dX8_isTight_8 hh0.2.1.2.2.2.2.2.2.2.2.1 q1 ?_
  obtain ⟨m4, hs⟩ := hs
  suffices hJ2 : z_Sem mX8_isTight (sh.length, 0) 30 [] [z_i (if (w 9 x1) = 0 then 0 else if (f_X8_lengthOf w x1) = (f_X8_boundOf w x1) then 1 else 0)] (sh, w) Q by
    refine z_if_eq (tgt := 29) dX8_isTight_9 (by decide) (fun c3 => ?_) (fun c3 => ?_)
    · skip
      refine z_iconst dX8_isTight_29 (by decide) ?_
      refine z_sub (L' := []) [] rfl ?_
      simp only [if_pos c3] at hJ2
      exact hJ2
    · skip
      have ho6 := m4 c3
      refine z_aload_n 0 dX8_isTight_12 rfl rfl ?_
      refine z_iload_n 1 dX8_isTight_13 rfl rfl ?_
      obtain ⟨q7, ho6⟩ := ho6
      refine z_callV (As := [z_i x1]) (rest := []) zmX8_lengthOf znX8_lengthOf zsX8_lengthOf (show z_Cl[8]? = some (RX8, TX8, 9) from rfl) zlRX8_267 ⟨Nat.le_of_ble_eq_true rfl, Nat.le_of_ble_eq_true rfl⟩ dX8_isTight_14 hh0.1 rfl rfl (z_ai z_a0) (Nat.le_of_ble_eq_true rfl) (Nat.le_of_ble_eq_true rfl) ⟨rfl, rfl⟩ ?_
      refine t_X8_lengthOf hh0 q7 ?_
      show z_Sem mX8_isTight (sh.length, 0) 17 [(0, z_r 0), (1, z_i x1)] [z_i (f_X8_lengthOf w x1)] (sh, w) Q
      refine z_aload_n 0 dX8_isTight_17 rfl rfl ?_
      refine z_iload_n 1 dX8_isTight_18 rfl rfl ?_
      obtain ⟨q8, ho6⟩ := ho6
      refine z_callV (As := [z_i x1]) (rest := [z_i (f_X8_lengthOf w x1)]) zmX8_boundOf znX8_boundOf zsX8_boundOf (show z_Cl[8]? = some (RX8, TX8, 9) from rfl) zlRX8_270 ⟨Nat.le_of_ble_eq_true rfl, Nat.le_of_ble_eq_true rfl⟩ dX8_isTight_19 hh0.1 rfl rfl (z_ai z_a0) (Nat.le_of_ble_eq_true rfl) (Nat.le_of_ble_eq_true rfl) ⟨rfl, rfl⟩ ?_
      refine t_X8_boundOf hh0 q8 ?_
      show z_Sem mX8_isTight (sh.length, 0) 22 [(0, z_r 0), (1, z_i x1)] [z_i (f_X8_boundOf w x1), z_i (f_X8_lengthOf w x1)] (sh, w) Q
      suffices hJ9 : z_Sem mX8_isTight (sh.length, 0) 30 [] [z_i (if (f_X8_lengthOf w x1) = (f_X8_boundOf w x1) then 1 else 0)] (sh, w) Q by
        refine z_icmp_ne (tgt := 29) dX8_isTight_22 (by decide) (fun c10 => ?_) (fun c10 => ?_)
        · skip
          refine z_iconst dX8_isTight_29 (by decide) ?_
          refine z_sub (L' := []) [] rfl ?_
          simp only [if_neg c10] at hJ9
          exact hJ9
        · skip
          refine z_iconst dX8_isTight_25 (by decide) ?_
          refine z_goto (tgt := 30) dX8_isTight_26 (by decide) ?_
          refine z_sub (L' := []) [] rfl ?_
          simp only [if_pos c10] at hJ9
          exact hJ9
      simp only [if_neg c3] at hJ2
      exact hJ2
  exact z_ret (v := some (z_i (if (w 9 x1) = 0 then 0 else if (f_X8_lengthOf w x1) = (f_X8_boundOf w x1) then 1 else 0))) dX8_isTight_30 ⟨rfl, Or.inr (Or.inl ⟨rfl, (z_it01 (by decide) (z_it01 (by decide) (by decide)))⟩)⟩ rfl h
set_option maxRecDepth 100000 in
theorem t_X8_tryWithout {sh : List z_C} {w : Nat → Int → Int} {Q : Option z_V → z_S → Prop} {x1 : Int} (hh0 : z_isTG sh 0) (h : (s_X8_isTight w x1) ∧ (((f_X8_isTight w x1) = 0 → z_CV mX2_copyBounds [z_r 18, z_r 12] sh w (fun w3 => Q none (sh, w3))) ∧ (¬ (f_X8_isTight w x1) = 0 → z_CV mX2_build [z_r 18, z_r 1, z_i x1] sh w (fun w4 => Q none (sh, w4))))) : z_Sem mX8_tryWithout (sh.length, 0) 0 [(0, z_r 0), (1, z_i x1)] [] (sh, w) Q := by
  refine z_aload_n 0 dX8_tryWithout_0 rfl rfl ?_
  refine z_iload_n 1 dX8_tryWithout_1 rfl rfl ?_
  obtain ⟨q1, h⟩ := h
  refine z_callV (As := [z_i x1]) (rest := []) zmX8_isTight znX8_isTight zsX8_isTight (show z_Cl[8]? = some (RX8, TX8, 9) from rfl) zlRX8_261 ⟨Nat.le_of_ble_eq_true rfl, Nat.le_of_ble_eq_true rfl⟩ dX8_tryWithout_2 hh0.1 rfl rfl (z_ai z_a0) (Nat.le_of_ble_eq_true rfl) (Nat.le_of_ble_eq_true rfl) ⟨rfl, rfl⟩ ?_
  refine t_X8_isTight hh0 q1 ?_
  show z_Sem mX8_tryWithout (sh.length, 0) 5 [(0, z_r 0), (1, z_i x1)] [z_i (f_X8_isTight w x1)] (sh, w) Q
  refine z_if_eq (tgt := 23) dX8_tryWithout_5 (by decide) (fun c2 => ?_) (fun c2 => ?_)
  · replace h := h.1 c2
    refine z_aload_n 0 dX8_tryWithout_23 rfl rfl ?_
    refine z_getR (r := 18) zfRX8_23 dX8_tryWithout_24 hh0.1 rfl ?_
    refine z_aload_n 0 dX8_tryWithout_27 rfl rfl ?_
    refine z_getR (r := 12) zfRX8_19 dX8_tryWithout_28 hh0.1 rfl ?_
    refine z_callV (As := [z_r 12]) (rest := []) zmX2_copyBounds znX2_copyBounds zsX2_copyBounds (show z_Cl[2]? = some (RX2, TX2, 7) from rfl) zlRX8_308 ⟨Nat.le_of_ble_eq_true rfl, Nat.le_of_ble_eq_true rfl⟩ dX8_tryWithout_31 hh0.2.2.2.1.1 rfl rfl (z_ar z_a0) (Nat.le_of_ble_eq_true rfl) (Nat.le_of_ble_eq_true rfl) ⟨rfl, rfl⟩ (z_CVm h ?_)
    intro w3 h
    show z_Sem mX8_tryWithout (sh.length, 0) 34 [(0, z_r 0), (1, z_i x1)] [] (sh, w3) Q
    exact z_ret (v := none) dX8_tryWithout_34 ⟨rfl, rfl⟩ rfl h
  · replace h := h.2 c2
    refine z_aload_n 0 dX8_tryWithout_8 rfl rfl ?_
    refine z_getR (r := 18) zfRX8_23 dX8_tryWithout_9 hh0.1 rfl ?_
    refine z_aload_n 0 dX8_tryWithout_12 rfl rfl ?_
    refine z_getR (r := 1) zfRX8_12 dX8_tryWithout_13 hh0.1 rfl ?_
    refine z_iload_n 1 dX8_tryWithout_16 rfl rfl ?_
    refine z_callV (As := [z_r 1, z_i x1]) (rest := []) zmX2_build znX2_build zsX2_build (show z_Cl[2]? = some (RX2, TX2, 7) from rfl) zlRX8_66 ⟨Nat.le_of_ble_eq_true rfl, Nat.le_of_ble_eq_true rfl⟩ dX8_tryWithout_17 hh0.2.2.2.1.1 rfl rfl (z_ar (z_ai z_a0)) (Nat.le_of_ble_eq_true rfl) (Nat.le_of_ble_eq_true rfl) ⟨rfl, rfl⟩ (z_CVm h ?_)
    intro w4 h
    show z_Sem mX8_tryWithout (sh.length, 0) 20 [(0, z_r 0), (1, z_i x1)] [] (sh, w4) Q
    refine z_goto (tgt := 34) dX8_tryWithout_20 (by decide) ?_
    exact z_ret (v := none) dX8_tryWithout_34 ⟨rfl, rfl⟩ rfl h
set_option maxRecDepth 100000 in
theorem t_X8_reverse {sh : List z_C} {w : Nat → Int → Int} {Q : Option z_V → z_S → Prop} {x1 : Int} (hh0 : z_isTG sh 0) (h : (((f_X8_isGap w x1) = 0 → Q (some (z_i (-1))) (sh, w)) ∧ (¬ (f_X8_isGap w x1) = 0 → ((0 : Int) ≤ x1 ∧ x1 < 24) ∧ ∀ y3 : Int, y3 = (w 5 x1) → ((0 : Int) ≤ x1 ∧ x1 < 24) ∧ ∀ y5 : Int, y5 = (w 6 x1) → ((0 : Int) ≤ x1 ∧ x1 < 24) ∧ (((w 9 x1) = 0 → ((0 : Int) ≤ x1 ∧ x1 < 24) ∧ ∀ y9 : Int, y9 = (f_X8_asNumber w (w 9 x1)) → z_CV mX0_remember [z_r 24, z_r 1] sh w (fun w10 => ((0 : Int) ≤ x1 ∧ x1 < 24) ∧ ∀ w11 : Nat → Int → Int, w11 = z_W w10 5 x1 y5 → ((0 : Int) ≤ x1 ∧ x1 < 24) ∧ ∀ w13 : Nat → Int → Int, w13 = z_W w11 6 x1 y3 → z_CV mX8_finish [z_r 0, z_i 10, z_i x1, z_i y9] sh w13 (fun w15 => Q (some (z_i y9)) (sh, w15)))) ∧ (¬ (w 9 x1) = 0 → z_CV mX8_tryWithout [z_r 0, z_i x1] sh w (fun w16 => ((0 : Int) ≤ x1 ∧ x1 < 24) ∧ ((0 : Int) ≤ x1 ∧ x1 < 24) ∧ (s_X2_leastRing w16 18 y5 y3 (w16 7 x1) (w16 8 x1)) ∧ ((0 ≤ (f_X2_leastRing w16 18 y5 y3 (w16 7 x1) (w16 8 x1)) → ((0 : Int) ≤ x1 ∧ x1 < 24) ∧ ∀ y22 : Int, y22 = (f_X8_asNumber w16 (w16 9 x1)) → z_CV mX0_remember [z_r 24, z_r 1] sh w16 (fun w23 => ((0 : Int) ≤ x1 ∧ x1 < 24) ∧ ∀ w24 : Nat → Int → Int, w24 = z_W w23 5 x1 y5 → ((0 : Int) ≤ x1 ∧ x1 < 24) ∧ ∀ w26 : Nat → Int → Int, w26 = z_W w24 6 x1 y3 → z_CV mX8_finish [z_r 0, z_i 10, z_i x1, z_i y22] sh w26 (fun w28 => Q (some (z_i y22)) (sh, w28)))) ∧ (¬ 0 ≤ (f_X2_leastRing w16 18 y5 y3 (w16 7 x1) (w16 8 x1)) → Q (some (z_i (-5))) (sh, w16))))))))) : z_Sem mX8_reverse (sh.length, 0) 0 [(0, z_r 0), (1, z_i x1)] [] (sh, w) Q := by
  refine z_aload_n 0 dX8_reverse_0 rfl rfl ?_
  refine z_iload_n 1 dX8_reverse_1 rfl rfl ?_
  refine z_callV (As := [z_i x1]) (rest := []) zmX8_isGap znX8_isGap zsX8_isGap (show z_Cl[8]? = some (RX8, TX8, 9) from rfl) zlRX8_137 ⟨Nat.le_of_ble_eq_true rfl, Nat.le_of_ble_eq_true rfl⟩ dX8_reverse_2 hh0.1 rfl rfl (z_ai z_a0) (Nat.le_of_ble_eq_true rfl) (Nat.le_of_ble_eq_true rfl) ⟨rfl, rfl⟩ ?_
  refine t_X8_isGap hh0 ?_
  show z_Sem mX8_reverse (sh.length, 0) 5 [(0, z_r 0), (1, z_i x1)] [z_i (f_X8_isGap w x1)] (sh, w) Q
  refine z_if_ne (tgt := 10) dX8_reverse_5 (by decide) (fun c1 => ?_) (fun c1 => ?_)
  · replace h := h.2 c1
    refine z_aload_n 0 dX8_reverse_10 rfl rfl ?_
    refine z_getR (r := 1) zfRX8_12 dX8_reverse_11 hh0.1 rfl ?_
    refine z_getR (r := 5) zfRX8_195 dX8_reverse_14 hh0.2.1.1 rfl ?_
    refine z_iload_n 1 dX8_reverse_17 rfl rfl ?_
    obtain ⟨q2, h⟩ := h
    refine z_iald dX8_reverse_18 hh0.2.1.2.2.2.2.1 q2 ?_
    refine z_nam (fun y3 hy3 => ?_)
    replace h := h y3 hy3
    refine z_istore_n (L' := [(2, z_i y3), (0, z_r 0), (1, z_i x1)]) dX8_reverse_19 rfl (by decide) rfl ?_
    refine z_aload_n 1 dX8_reverse_20 rfl rfl ?_
    refine z_getR (r := 1) zfRX8_12 dX8_reverse_21 hh0.1 rfl ?_
    refine z_getR (r := 6) zfRX8_198 dX8_reverse_24 hh0.2.1.1 rfl ?_
    refine z_iload_n 2 dX8_reverse_27 rfl rfl ?_
    obtain ⟨q4, h⟩ := h
    refine z_iald dX8_reverse_28 hh0.2.1.2.2.2.2.2.1 q4 ?_
    refine z_nam (fun y5 hy5 => ?_)
    replace h := h y5 hy5
    refine z_istore_n (L' := [(3, z_i y5), (2, z_i y3), (0, z_r 0), (1, z_i x1)]) dX8_reverse_29 rfl (by decide) rfl ?_
    refine z_aload_n 2 dX8_reverse_30 rfl rfl ?_
    refine z_getR (r := 1) zfRX8_12 dX8_reverse_31 hh0.1 rfl ?_
    refine z_getR (r := 9) zfRX8_151 dX8_reverse_34 hh0.2.1.1 rfl ?_
    refine z_iload_n 3 dX8_reverse_37 rfl rfl ?_
    obtain ⟨q6, h⟩ := h
    refine z_zald dX8_reverse_38 hh0.2.1.2.2.2.2.2.2.2.2.1 q6 ?_
    refine z_if_eq (tgt := 80) dX8_reverse_39 (by decide) (fun c7 => ?_) (fun c7 => ?_)
    · replace h := h.1 c7
      refine z_aload_n 2 dX8_reverse_80 rfl rfl ?_
      refine z_getR (r := 1) zfRX8_12 dX8_reverse_81 hh0.1 rfl ?_
      refine z_getR (r := 9) zfRX8_151 dX8_reverse_84 hh0.2.1.1 rfl ?_
      refine z_iload_n 3 dX8_reverse_87 rfl rfl ?_
      obtain ⟨q8, h⟩ := h
      refine z_zald dX8_reverse_88 hh0.2.1.2.2.2.2.2.2.2.2.1 q8 ?_
      refine z_callS (As := [z_i (w 9 x1)]) (rest := []) zmX8_asNumber ztX8_asNumber zlRX8_159 ⟨Nat.le_of_ble_eq_true rfl, Nat.le_of_ble_eq_true rfl⟩ dX8_reverse_89 rfl rfl (z_ai z_a0) (Nat.le_of_ble_eq_true rfl) (Nat.le_of_ble_eq_true rfl) ⟨rfl, rfl⟩ ?_
      refine t_X8_asNumber  ?_
      show z_Sem mX8_reverse (sh.length, 0) 92 [(3, z_i y5), (2, z_i y3), (0, z_r 0), (1, z_i x1)] [z_i (f_X8_asNumber w (w 9 x1))] (sh, w) Q
      refine z_nam (fun y9 hy9 => ?_)
      replace h := h y9 hy9
      refine z_istore (L' := [(4, z_i y9), (3, z_i y5), (2, z_i y3), (0, z_r 0), (1, z_i x1)]) dX8_reverse_92 (by decide) rfl ?_
      refine z_aload_n 3 dX8_reverse_94 rfl rfl ?_
      refine z_getR (r := 24) zfRX8_29 dX8_reverse_95 hh0.1 rfl ?_
      refine z_aload_n 3 dX8_reverse_98 rfl rfl ?_
      refine z_getR (r := 1) zfRX8_12 dX8_reverse_99 hh0.1 rfl ?_
      refine z_callV (As := [z_r 1]) (rest := []) zmX0_remember znX0_remember zsX0_remember (show z_Cl[0]? = some (RX0, TX0, 3) from rfl) zlRX8_105 ⟨Nat.le_of_ble_eq_true rfl, Nat.le_of_ble_eq_true rfl⟩ dX8_reverse_102 hh0.2.2.2.2.1.1 rfl rfl (z_ar z_a0) (Nat.le_of_ble_eq_true rfl) (Nat.le_of_ble_eq_true rfl) ⟨rfl, rfl⟩ (z_CVm h ?_)
      intro w10 h
      show z_Sem mX8_reverse (sh.length, 0) 105 [(4, z_i y9), (3, z_i y5), (2, z_i y3), (0, z_r 0), (1, z_i x1)] [] (sh, w10) Q
      refine z_aload_n 3 dX8_reverse_105 rfl rfl ?_
      refine z_getR (r := 1) zfRX8_12 dX8_reverse_106 hh0.1 rfl ?_
      refine z_getR (r := 5) zfRX8_195 dX8_reverse_109 hh0.2.1.1 rfl ?_
      refine z_iload_n 4 dX8_reverse_112 rfl rfl ?_
      refine z_iload_n 1 dX8_reverse_113 rfl rfl ?_
      obtain ⟨q12, h⟩ := h
      refine z_iast dX8_reverse_114 hh0.2.1.2.2.2.2.1 q12 ?_
      refine z_genw (fun w11 hw11 => ?_)
      replace h := h w11 hw11
      refine z_aload_n 3 dX8_reverse_115 rfl rfl ?_
      refine z_getR (r := 1) zfRX8_12 dX8_reverse_116 hh0.1 rfl ?_
      refine z_getR (r := 6) zfRX8_198 dX8_reverse_119 hh0.2.1.1 rfl ?_
      refine z_iload_n 4 dX8_reverse_122 rfl rfl ?_
      refine z_iload_n 2 dX8_reverse_123 rfl rfl ?_
      obtain ⟨q14, h⟩ := h
      refine z_iast dX8_reverse_124 hh0.2.1.2.2.2.2.2.1 q14 ?_
      refine z_genw (fun w13 hw13 => ?_)
      replace h := h w13 hw13
      refine z_aload_n 3 dX8_reverse_125 rfl rfl ?_
      refine z_bipush dX8_reverse_126 (by decide) (by decide) ?_
      refine z_iload_n 4 dX8_reverse_128 rfl rfl ?_
      refine z_iload 0 dX8_reverse_129 rfl ?_
      refine z_callV (As := [z_i 10, z_i x1, z_i y9]) (rest := []) zmX8_finish znX8_finish zsX8_finish (show z_Cl[8]? = some (RX8, TX8, 9) from rfl) zlRX8_112 ⟨Nat.le_of_ble_eq_true rfl, Nat.le_of_ble_eq_true rfl⟩ dX8_reverse_131 hh0.1 rfl rfl (z_ai (z_ai (z_ai z_a0))) (Nat.le_of_ble_eq_true rfl) (Nat.le_of_ble_eq_true rfl) ⟨rfl, rfl⟩ (z_CVm h ?_)
      intro w15 h
      show z_Sem mX8_reverse (sh.length, 0) 134 [(4, z_i y9), (3, z_i y5), (2, z_i y3), (0, z_r 0), (1, z_i x1)] [] (sh, w15) Q
      refine z_iload 0 dX8_reverse_134 rfl ?_
      exact z_ret (v := some (z_i y9)) dX8_reverse_136 ⟨rfl, Or.inl rfl⟩ rfl h
    · replace h := h.2 c7
      refine z_aload_n 2 dX8_reverse_42 rfl rfl ?_
      refine z_iload_n 3 dX8_reverse_43 rfl rfl ?_
      refine z_callV (As := [z_i x1]) (rest := []) zmX8_tryWithout znX8_tryWithout zsX8_tryWithout (show z_Cl[8]? = some (RX8, TX8, 9) from rfl) zlRX8_201 ⟨Nat.le_of_ble_eq_true rfl, Nat.le_of_ble_eq_true rfl⟩ dX8_reverse_44 hh0.1 rfl rfl (z_ai z_a0) (Nat.le_of_ble_eq_true rfl) (Nat.le_of_ble_eq_true rfl) ⟨rfl, rfl⟩ (z_CVm h ?_)
      intro w16 h
      show z_Sem mX8_reverse (sh.length, 0) 47 [(3, z_i y5), (2, z_i y3), (0, z_r 0), (1, z_i x1)] [] (sh, w16) Q
      refine z_aload_n 2 dX8_reverse_47 rfl rfl ?_
      refine z_getR (r := 18) zfRX8_23 dX8_reverse_48 hh0.1 rfl ?_
      refine z_iload_n 0 dX8_reverse_51 rfl rfl ?_
      refine z_iload_n 1 dX8_reverse_52 rfl rfl ?_
      refine z_aload_n 2 dX8_reverse_53 rfl rfl ?_
      refine z_getR (r := 1) zfRX8_12 dX8_reverse_54 hh0.1 rfl ?_
      refine z_getR (r := 7) zfRX8_204 dX8_reverse_57 hh0.2.1.1 rfl ?_
      refine z_iload_n 3 dX8_reverse_60 rfl rfl ?_
      obtain ⟨q17, h⟩ := h
      refine z_iald dX8_reverse_61 hh0.2.1.2.2.2.2.2.2.1 q17 ?_
      refine z_aload_n 2 dX8_reverse_62 rfl rfl ?_
      refine z_getR (r := 1) zfRX8_12 dX8_reverse_63 hh0.1 rfl ?_
      refine z_getR (r := 8) zfRX8_141 dX8_reverse_66 hh0.2.1.1 rfl ?_
      refine z_iload_n 3 dX8_reverse_69 rfl rfl ?_
      obtain ⟨q18, h⟩ := h
      refine z_iald dX8_reverse_70 hh0.2.1.2.2.2.2.2.2.2.1 q18 ?_
      obtain ⟨q19, h⟩ := h
      refine z_callV (As := [z_i y5, z_i y3, z_i (w16 7 x1), z_i (w16 8 x1)]) (rest := []) zmX2_leastRing znX2_leastRing zsX2_leastRing (show z_Cl[2]? = some (RX2, TX2, 7) from rfl) zlRX8_120 ⟨Nat.le_of_ble_eq_true rfl, Nat.le_of_ble_eq_true rfl⟩ dX8_reverse_71 hh0.2.2.2.1.1 rfl rfl (z_ai (z_ai (z_ai (z_ai z_a0)))) (Nat.le_of_ble_eq_true rfl) (Nat.le_of_ble_eq_true rfl) ⟨rfl, rfl⟩ ?_
      refine t_X2_leastRing hh0.2.2.2.1 q19 ?_
      show z_Sem mX8_reverse (sh.length, 0) 74 [(3, z_i y5), (2, z_i y3), (0, z_r 0), (1, z_i x1)] [z_i (f_X2_leastRing w16 18 y5 y3 (w16 7 x1) (w16 8 x1))] (sh, w16) Q
      refine z_if_ge (tgt := 80) dX8_reverse_74 (by decide) (fun c20 => ?_) (fun c20 => ?_)
      · replace h := h.1 c20
        refine z_aload_n 2 dX8_reverse_80 rfl rfl ?_
        refine z_getR (r := 1) zfRX8_12 dX8_reverse_81 hh0.1 rfl ?_
        refine z_getR (r := 9) zfRX8_151 dX8_reverse_84 hh0.2.1.1 rfl ?_
        refine z_iload_n 3 dX8_reverse_87 rfl rfl ?_
        obtain ⟨q21, h⟩ := h
        refine z_zald dX8_reverse_88 hh0.2.1.2.2.2.2.2.2.2.2.1 q21 ?_
        refine z_callS (As := [z_i (w16 9 x1)]) (rest := []) zmX8_asNumber ztX8_asNumber zlRX8_159 ⟨Nat.le_of_ble_eq_true rfl, Nat.le_of_ble_eq_true rfl⟩ dX8_reverse_89 rfl rfl (z_ai z_a0) (Nat.le_of_ble_eq_true rfl) (Nat.le_of_ble_eq_true rfl) ⟨rfl, rfl⟩ ?_
        refine t_X8_asNumber  ?_
        show z_Sem mX8_reverse (sh.length, 0) 92 [(3, z_i y5), (2, z_i y3), (0, z_r 0), (1, z_i x1)] [z_i (f_X8_asNumber w16 (w16 9 x1))] (sh, w16) Q
        refine z_nam (fun y22 hy22 => ?_)
        replace h := h y22 hy22
        refine z_istore (L' := [(4, z_i y22), (3, z_i y5), (2, z_i y3), (0, z_r 0), (1, z_i x1)]) dX8_reverse_92 (by decide) rfl ?_
        refine z_aload_n 3 dX8_reverse_94 rfl rfl ?_
        refine z_getR (r := 24) zfRX8_29 dX8_reverse_95 hh0.1 rfl ?_
        refine z_aload_n 3 dX8_reverse_98 rfl rfl ?_
        refine z_getR (r := 1) zfRX8_12 dX8_reverse_99 hh0.1 rfl ?_
        refine z_callV (As := [z_r 1]) (rest := []) zmX0_remember znX0_remember zsX0_remember (show z_Cl[0]? = some (RX0, TX0, 3) from rfl) zlRX8_105 ⟨Nat.le_of_ble_eq_true rfl, Nat.le_of_ble_eq_true rfl⟩ dX8_reverse_102 hh0.2.2.2.2.1.1 rfl rfl (z_ar z_a0) (Nat.le_of_ble_eq_true rfl) (Nat.le_of_ble_eq_true rfl) ⟨rfl, rfl⟩ (z_CVm h ?_)
        intro w23 h
        show z_Sem mX8_reverse (sh.length, 0) 105 [(4, z_i y22), (3, z_i y5), (2, z_i y3), (0, z_r 0), (1, z_i x1)] [] (sh, w23) Q
        refine z_aload_n 3 dX8_reverse_105 rfl rfl ?_
        refine z_getR (r := 1) zfRX8_12 dX8_reverse_106 hh0.1 rfl ?_
        refine z_getR (r := 5) zfRX8_195 dX8_reverse_109 hh0.2.1.1 rfl ?_
        refine z_iload_n 4 dX8_reverse_112 rfl rfl ?_
        refine z_iload_n 1 dX8_reverse_113 rfl rfl ?_
        obtain ⟨q25, h⟩ := h
        refine z_iast dX8_reverse_114 hh0.2.1.2.2.2.2.1 q25 ?_
        refine z_genw (fun w24 hw24 => ?_)
        replace h := h w24 hw24
        refine z_aload_n 3 dX8_reverse_115 rfl rfl ?_
        refine z_getR (r := 1) zfRX8_12 dX8_reverse_116 hh0.1 rfl ?_
        refine z_getR (r := 6) zfRX8_198 dX8_reverse_119 hh0.2.1.1 rfl ?_
        refine z_iload_n 4 dX8_reverse_122 rfl rfl ?_
        refine z_iload_n 2 dX8_reverse_123 rfl rfl ?_
        obtain ⟨q27, h⟩ := h
        refine z_iast dX8_reverse_124 hh0.2.1.2.2.2.2.2.1 q27 ?_
        refine z_genw (fun w26 hw26 => ?_)
        replace h := h w26 hw26
        refine z_aload_n 3 dX8_reverse_125 rfl rfl ?_
        refine z_bipush dX8_reverse_126 (by decide) (by decide) ?_
        refine z_iload_n 4 dX8_reverse_128 rfl rfl ?_
        refine z_iload 0 dX8_reverse_129 rfl ?_
        refine z_callV (As := [z_i 10, z_i x1, z_i y22]) (rest := []) zmX8_finish znX8_finish zsX8_finish (show z_Cl[8]? = some (RX8, TX8, 9) from rfl) zlRX8_112 ⟨Nat.le_of_ble_eq_true rfl, Nat.le_of_ble_eq_true rfl⟩ dX8_reverse_131 hh0.1 rfl rfl (z_ai (z_ai (z_ai z_a0))) (Nat.le_of_ble_eq_true rfl) (Nat.le_of_ble_eq_true rfl) ⟨rfl, rfl⟩ (z_CVm h ?_)
        intro w28 h
        show z_Sem mX8_reverse (sh.length, 0) 134 [(4, z_i y22), (3, z_i y5), (2, z_i y3), (0, z_r 0), (1, z_i x1)] [] (sh, w28) Q
        refine z_iload 0 dX8_reverse_134 rfl ?_
        exact z_ret (v := some (z_i y22)) dX8_reverse_136 ⟨rfl, Or.inl rfl⟩ rfl h
      · replace h := h.2 c20
        refine z_bipush dX8_reverse_77 (by decide) (by decide) ?_
        exact z_ret (v := some (z_i (-5))) dX8_reverse_79 ⟨rfl, Or.inl rfl⟩ rfl h
  · replace h := h.1 c1
    refine z_iconst dX8_reverse_8 (by decide) ?_
    exact z_ret (v := some (z_i (-1))) dX8_reverse_9 ⟨rfl, Or.inl rfl⟩ rfl h
def f_X8_tightNumber (w : Nat → Int → Int) (x1 : Int) : Int := if (w 7 x1) = 0 then f_X8_boundOf w x1 else -(f_X8_boundOf w x1)
def s_X8_tightNumber (w : Nat → Int → Int) (x1 : Int) : Prop := ((0 : Int) ≤ x1 ∧ x1 < 24) ∧ ((w 7 x1) = 0 → (s_X8_boundOf w x1) ∧ True) ∧ (¬ (w 7 x1) = 0 → (s_X8_boundOf w x1) ∧ (z_R (-(f_X8_boundOf w x1))) ∧ True) ∧ True
set_option maxRecDepth 100000 in
theorem t_X8_tightNumber {sh : List z_C} {w : Nat → Int → Int} {Q : Option z_V → z_S → Prop} {x1 : Int} (hh0 : z_isTG sh 0) (hs : s_X8_tightNumber w x1) (h : Q (some (z_i (f_X8_tightNumber w x1))) (sh, w)) : z_Sem mX8_tightNumber (sh.length, 0) 0 [(0, z_r 0), (1, z_i x1)] [] (sh, w) Q := by
  unfold f_X8_tightNumber at h
  unfold s_X8_tightNumber at hs
  refine z_aload_n 0 dX8_tightNumber_0 rfl rfl ?_
  refine z_getR (r := 1) zfRX8_12 dX8_tightNumber_1 hh0.1 rfl ?_
  refine z_getR (r := 7) zfRX8_204 dX8_tightNumber_4 hh0.2.1.1 rfl ?_
  refine z_iload_n 1 dX8_tightNumber_7 rfl rfl ?_
  obtain ⟨q1, hs⟩ := hs
  refine z_iald dX8_tightNumber_8 hh0.2.1.2.2.2.2.2.2.1 q1 ?_
  obtain ⟨m4, m5, hs⟩ := hs
  suffices hJ2 : z_Sem mX8_tightNumber (sh.length, 0) 26 [] [z_i (if (w 7 x1) = 0 then f_X8_boundOf w x1 else -(f_X8_boundOf w x1))] (sh, w) Q by
    refine z_if_ne (tgt := 20) dX8_tightNumber_9 (by decide) (fun c3 => ?_) (fun c3 => ?_)
    · skip
      have ho6 := m5 c3
      refine z_aload_n 0 dX8_tightNumber_20 rfl rfl ?_
      refine z_iload_n 1 dX8_tightNumber_21 rfl rfl ?_
      obtain ⟨q7, ho6⟩ := ho6
      refine z_callV (As := [z_i x1]) (rest := []) zmX8_boundOf znX8_boundOf zsX8_boundOf (show z_Cl[8]? = some (RX8, TX8, 9) from rfl) zlRX8_270 ⟨Nat.le_of_ble_eq_true rfl, Nat.le_of_ble_eq_true rfl⟩ dX8_tightNumber_22 hh0.1 rfl rfl (z_ai z_a0) (Nat.le_of_ble_eq_true rfl) (Nat.le_of_ble_eq_true rfl) ⟨rfl, rfl⟩ ?_
      refine t_X8_boundOf hh0 q7 ?_
      show z_Sem mX8_tightNumber (sh.length, 0) 25 [(0, z_r 0), (1, z_i x1)] [z_i (f_X8_boundOf w x1)] (sh, w) Q
      obtain ⟨q8, ho6⟩ := ho6
      refine z_ineg dX8_tightNumber_25 q8 ?_
      refine z_sub (L' := []) [] rfl ?_
      simp only [if_neg c3] at hJ2
      exact hJ2
    · skip
      have ho9 := m4 c3
      refine z_aload_n 0 dX8_tightNumber_12 rfl rfl ?_
      refine z_iload_n 1 dX8_tightNumber_13 rfl rfl ?_
      obtain ⟨q10, ho9⟩ := ho9
      refine z_callV (As := [z_i x1]) (rest := []) zmX8_boundOf znX8_boundOf zsX8_boundOf (show z_Cl[8]? = some (RX8, TX8, 9) from rfl) zlRX8_270 ⟨Nat.le_of_ble_eq_true rfl, Nat.le_of_ble_eq_true rfl⟩ dX8_tightNumber_14 hh0.1 rfl rfl (z_ai z_a0) (Nat.le_of_ble_eq_true rfl) (Nat.le_of_ble_eq_true rfl) ⟨rfl, rfl⟩ ?_
      refine t_X8_boundOf hh0 q10 ?_
      show z_Sem mX8_tightNumber (sh.length, 0) 17 [(0, z_r 0), (1, z_i x1)] [z_i (f_X8_boundOf w x1)] (sh, w) Q
      refine z_goto (tgt := 26) dX8_tightNumber_17 (by decide) ?_
      refine z_sub (L' := []) [] rfl ?_
      simp only [if_pos c3] at hJ2
      exact hJ2
  exact z_ret (v := some (z_i (if (w 7 x1) = 0 then f_X8_boundOf w x1 else -(f_X8_boundOf w x1)))) dX8_tightNumber_26 ⟨rfl, Or.inl rfl⟩ rfl h
def f_X8_isLoose (w : Nat → Int → Int) (x1 : Int) : Int := if (w 9 x1) = 0 then 0 else if (f_X8_isTight w x1) = 0 then (if (f_X8_tightNumber w x1) < 0 then 0 else 1) else 0
def s_X8_isLoose (w : Nat → Int → Int) (x1 : Int) : Prop := ((0 : Int) ≤ x1 ∧ x1 < 24) ∧ (¬ (w 9 x1) = 0 → (s_X8_isTight w x1) ∧ ((f_X8_isTight w x1) = 0 → (s_X8_tightNumber w x1) ∧ True) ∧ True) ∧ True
set_option maxRecDepth 100000 in
theorem t_X8_isLoose {sh : List z_C} {w : Nat → Int → Int} {Q : Option z_V → z_S → Prop} {x1 : Int} (hh0 : z_isTG sh 0) (hs : s_X8_isLoose w x1) (h : Q (some (z_i (f_X8_isLoose w x1))) (sh, w)) : z_Sem mX8_isLoose (sh.length, 0) 0 [(0, z_r 0), (1, z_i x1)] [] (sh, w) Q := by
  unfold f_X8_isLoose at h
  unfold s_X8_isLoose at hs
  refine z_aload_n 0 dX8_isLoose_0 rfl rfl ?_
  refine z_getR (r := 1) zfRX8_12 dX8_isLoose_1 hh0.1 rfl ?_
  refine z_getR (r := 9) zfRX8_151 dX8_isLoose_4 hh0.2.1.1 rfl ?_
  refine z_iload_n 1 dX8_isLoose_7 rfl rfl ?_
  obtain ⟨q1, hs⟩ := hs
  refine z_zald dX8_isLoose_8 hh0.2.1.2.2.2.2.2.2.2.2.1 q1 ?_
  obtain ⟨m4, hs⟩ := hs
  suffices hJ2 : z_Sem mX8_isLoose (sh.length, 0) 33 [] [z_i (if (w 9 x1) = 0 then 0 else if (f_X8_isTight w x1) = 0 then (if (f_X8_tightNumber w x1) < 0 then 0 else 1) else 0)] (sh, w) Q by
    refine z_if_eq (tgt := 32) dX8_isLoose_9 (by decide) (fun c3 => ?_) (fun c3 => ?_)
    · skip
      refine z_iconst dX8_isLoose_32 (by decide) ?_
      refine z_sub (L' := []) [] rfl ?_
      simp only [if_pos c3] at hJ2
      exact hJ2
    · skip
      have ho6 := m4 c3
      refine z_aload_n 0 dX8_isLoose_12 rfl rfl ?_
      refine z_iload_n 1 dX8_isLoose_13 rfl rfl ?_
      obtain ⟨q7, ho6⟩ := ho6
      refine z_callV (As := [z_i x1]) (rest := []) zmX8_isTight znX8_isTight zsX8_isTight (show z_Cl[8]? = some (RX8, TX8, 9) from rfl) zlRX8_261 ⟨Nat.le_of_ble_eq_true rfl, Nat.le_of_ble_eq_true rfl⟩ dX8_isLoose_14 hh0.1 rfl rfl (z_ai z_a0) (Nat.le_of_ble_eq_true rfl) (Nat.le_of_ble_eq_true rfl) ⟨rfl, rfl⟩ ?_
      refine t_X8_isTight hh0 q7 ?_
      show z_Sem mX8_isLoose (sh.length, 0) 17 [(0, z_r 0), (1, z_i x1)] [z_i (f_X8_isTight w x1)] (sh, w) Q
      obtain ⟨m10, ho6⟩ := ho6
      suffices hJ8 : z_Sem mX8_isLoose (sh.length, 0) 33 [] [z_i (if (f_X8_isTight w x1) = 0 then (if (f_X8_tightNumber w x1) < 0 then 0 else 1) else 0)] (sh, w) Q by
        refine z_if_ne (tgt := 32) dX8_isLoose_17 (by decide) (fun c9 => ?_) (fun c9 => ?_)
        · skip
          refine z_iconst dX8_isLoose_32 (by decide) ?_
          refine z_sub (L' := []) [] rfl ?_
          simp only [if_neg c9] at hJ8
          exact hJ8
        · skip
          have ho12 := m10 c9
          refine z_aload_n 0 dX8_isLoose_20 rfl rfl ?_
          refine z_iload_n 1 dX8_isLoose_21 rfl rfl ?_
          obtain ⟨q13, ho12⟩ := ho12
          refine z_callV (As := [z_i x1]) (rest := []) zmX8_tightNumber znX8_tightNumber zsX8_tightNumber (show z_Cl[8]? = some (RX8, TX8, 9) from rfl) zlRX8_210 ⟨Nat.le_of_ble_eq_true rfl, Nat.le_of_ble_eq_true rfl⟩ dX8_isLoose_22 hh0.1 rfl rfl (z_ai z_a0) (Nat.le_of_ble_eq_true rfl) (Nat.le_of_ble_eq_true rfl) ⟨rfl, rfl⟩ ?_
          refine t_X8_tightNumber hh0 q13 ?_
          show z_Sem mX8_isLoose (sh.length, 0) 25 [(0, z_r 0), (1, z_i x1)] [z_i (f_X8_tightNumber w x1)] (sh, w) Q
          suffices hJ14 : z_Sem mX8_isLoose (sh.length, 0) 33 [] [z_i (if (f_X8_tightNumber w x1) < 0 then 0 else 1)] (sh, w) Q by
            refine z_if_lt (tgt := 32) dX8_isLoose_25 (by decide) (fun c15 => ?_) (fun c15 => ?_)
            · skip
              refine z_iconst dX8_isLoose_32 (by decide) ?_
              refine z_sub (L' := []) [] rfl ?_
              simp only [if_pos c15] at hJ14
              exact hJ14
            · skip
              refine z_iconst dX8_isLoose_28 (by decide) ?_
              refine z_goto (tgt := 33) dX8_isLoose_29 (by decide) ?_
              refine z_sub (L' := []) [] rfl ?_
              simp only [if_neg c15] at hJ14
              exact hJ14
          simp only [if_pos c9] at hJ8
          exact hJ8
      simp only [if_neg c3] at hJ2
      exact hJ2
  exact z_ret (v := some (z_i (if (w 9 x1) = 0 then 0 else if (f_X8_isTight w x1) = 0 then (if (f_X8_tightNumber w x1) < 0 then 0 else 1) else 0))) dX8_isLoose_33 ⟨rfl, Or.inr (Or.inl ⟨rfl, (z_it01 (by decide) (z_it01 (z_it01 (by decide) (by decide)) (by decide)))⟩)⟩ rfl h
set_option maxRecDepth 100000 in
theorem t_X8_tighten {sh : List z_C} {w : Nat → Int → Int} {Q : Option z_V → z_S → Prop}  (hh0 : z_isTG sh 0) (h : z_Sem mX8_tighten (sh.length, 0) 4 [(0, z_r 0), (1, z_i 0), (2, z_i 0)] [] (sh, w) Q) : z_Sem mX8_tighten (sh.length, 0) 0 [(0, z_r 0)] [] (sh, w) Q := by
  refine z_iconst dX8_tighten_0 (by decide) ?_
  refine z_istore_n (L' := [(1, z_i 0), (0, z_r 0)]) dX8_tighten_1 rfl (by decide) rfl ?_
  refine z_iconst dX8_tighten_2 (by decide) ?_
  refine z_istore_n (L' := [(2, z_i 0), (1, z_i 0), (0, z_r 0)]) dX8_tighten_3 rfl (by decide) rfl ?_
  refine z_sub (L' := [(0, z_r 0), (1, z_i 0), (2, z_i 0)]) [2, 1, 0] rfl ?_
  exact h
set_option maxRecDepth 100000 in
theorem t_X8_tighten_4 {sh : List z_C} {w : Nat → Int → Int} {Q : Option z_V → z_S → Prop} {x1 : Int} {x2 : Int} (hh0 : z_isTG sh 0) (h : (((w 1 11) ≤ x2 → ((x1 = 0 → Q (some (z_i (-2))) (sh, w)) ∧ (¬ x1 = 0 → z_CV mX0_remember [z_r 24, z_r 1] sh w (fun w3 => z_Sem mX8_tighten (sh.length, 0) 52 [(0, z_r 0), (1, z_i x1), (2, z_i 0)] [] (sh, w3) Q)))) ∧ (¬ (w 1 11) ≤ x2 → (s_X8_isLoose w x2) ∧ (z_R (x1 + (f_X8_asNumber w (f_X8_isLoose w x2)))) ∧ ∀ y6 : Int, y6 = (x1 + (f_X8_asNumber w (f_X8_isLoose w x2))) → (z_R (x2 + 1)) ∧ z_Sem mX8_tighten (sh.length, 0) 4 [(0, z_r 0), (1, z_i y6), (2, z_i (x2 + 1))] [] (sh, w) Q))) : z_Sem mX8_tighten (sh.length, 0) 4 [(0, z_r 0), (1, z_i x1), (2, z_i x2)] [] (sh, w) Q := by
  refine z_iload_n 2 dX8_tighten_4 rfl rfl ?_
  refine z_aload_n 0 dX8_tighten_5 rfl rfl ?_
  refine z_getR (r := 1) zfRX8_12 dX8_tighten_6 hh0.1 rfl ?_
  refine z_getI (ki := 11) zfRX8_96 dX8_tighten_9 hh0.2.1.1 rfl rfl ?_
  refine z_icmp_ge (tgt := 32) dX8_tighten_12 (by decide) (fun c1 => ?_) (fun c1 => ?_)
  · replace h := h.1 c1
    refine z_iload_n 1 dX8_tighten_32 rfl rfl ?_
    refine z_if_ne (tgt := 39) dX8_tighten_33 (by decide) (fun c2 => ?_) (fun c2 => ?_)
    · replace h := h.2 c2
      refine z_aload_n 0 dX8_tighten_39 rfl rfl ?_
      refine z_getR (r := 24) zfRX8_29 dX8_tighten_40 hh0.1 rfl ?_
      refine z_aload_n 0 dX8_tighten_43 rfl rfl ?_
      refine z_getR (r := 1) zfRX8_12 dX8_tighten_44 hh0.1 rfl ?_
      refine z_callV (As := [z_r 1]) (rest := []) zmX0_remember znX0_remember zsX0_remember (show z_Cl[0]? = some (RX0, TX0, 3) from rfl) zlRX8_105 ⟨Nat.le_of_ble_eq_true rfl, Nat.le_of_ble_eq_true rfl⟩ dX8_tighten_47 hh0.2.2.2.2.1.1 rfl rfl (z_ar z_a0) (Nat.le_of_ble_eq_true rfl) (Nat.le_of_ble_eq_true rfl) ⟨rfl, rfl⟩ (z_CVm h ?_)
      intro w3 h
      show z_Sem mX8_tighten (sh.length, 0) 50 [(0, z_r 0), (1, z_i x1), (2, z_i x2)] [] (sh, w3) Q
      refine z_iconst dX8_tighten_50 (by decide) ?_
      refine z_istore_n (L' := [(2, z_i 0), (0, z_r 0), (1, z_i x1)]) dX8_tighten_51 rfl (by decide) rfl ?_
      refine z_sub (L' := [(0, z_r 0), (1, z_i x1), (2, z_i 0)]) [1, 2, 0] rfl ?_
      exact h
    · replace h := h.1 c2
      refine z_bipush dX8_tighten_36 (by decide) (by decide) ?_
      exact z_ret (v := some (z_i (-2))) dX8_tighten_38 ⟨rfl, Or.inl rfl⟩ rfl h
  · replace h := h.2 c1
    refine z_iload_n 1 dX8_tighten_15 rfl rfl ?_
    refine z_aload_n 0 dX8_tighten_16 rfl rfl ?_
    refine z_iload_n 2 dX8_tighten_17 rfl rfl ?_
    obtain ⟨q4, h⟩ := h
    refine z_callV (As := [z_i x2]) (rest := [z_i x1]) zmX8_isLoose znX8_isLoose zsX8_isLoose (show z_Cl[8]? = some (RX8, TX8, 9) from rfl) zlRX8_207 ⟨Nat.le_of_ble_eq_true rfl, Nat.le_of_ble_eq_true rfl⟩ dX8_tighten_18 hh0.1 rfl rfl (z_ai z_a0) (Nat.le_of_ble_eq_true rfl) (Nat.le_of_ble_eq_true rfl) ⟨rfl, rfl⟩ ?_
    refine t_X8_isLoose hh0 q4 ?_
    show z_Sem mX8_tighten (sh.length, 0) 21 [(0, z_r 0), (1, z_i x1), (2, z_i x2)] [z_i (f_X8_isLoose w x2), z_i x1] (sh, w) Q
    refine z_callS (As := [z_i (f_X8_isLoose w x2)]) (rest := [z_i x1]) zmX8_asNumber ztX8_asNumber zlRX8_159 ⟨Nat.le_of_ble_eq_true rfl, Nat.le_of_ble_eq_true rfl⟩ dX8_tighten_21 rfl rfl (z_ai z_a0) (Nat.le_of_ble_eq_true rfl) (Nat.le_of_ble_eq_true rfl) ⟨rfl, rfl⟩ ?_
    refine t_X8_asNumber  ?_
    show z_Sem mX8_tighten (sh.length, 0) 24 [(0, z_r 0), (1, z_i x1), (2, z_i x2)] [z_i (f_X8_asNumber w (f_X8_isLoose w x2)), z_i x1] (sh, w) Q
    obtain ⟨q5, h⟩ := h
    refine z_iadd dX8_tighten_24 q5 ?_
    refine z_nam (fun y6 hy6 => ?_)
    replace h := h y6 hy6
    refine z_istore_n (L' := [(1, z_i y6), (0, z_r 0), (2, z_i x2)]) dX8_tighten_25 rfl (by decide) rfl ?_
    obtain ⟨q7, h⟩ := h
    refine z_iinc (L' := [(2, z_i (x2 + 1)), (1, z_i y6), (0, z_r 0)]) 2 dX8_tighten_26 rfl (by decide) rfl q7 ?_
    refine z_goto (tgt := 4) dX8_tighten_29 (by decide) ?_
    refine z_sub (L' := [(0, z_r 0), (1, z_i y6), (2, z_i (x2 + 1))]) [2, 1, 0] rfl ?_
    exact h
set_option maxRecDepth 100000 in
theorem t_X8_tighten_52 {sh : List z_C} {w : Nat → Int → Int} {Q : Option z_V → z_S → Prop} {x1 : Int} {x2 : Int} (hh0 : z_isTG sh 0) (h : (((w 1 11) ≤ x2 → z_CI mX2_room [z_r 12] sh w (fun y3 w2 => z_CV mX8_finish [z_r 0, z_i 11, z_i x1, z_i y3] sh w2 (fun w4 => Q (some (z_i x1)) (sh, w4)))) ∧ (¬ (w 1 11) ≤ x2 → (s_X8_isLoose w x2) ∧ (((f_X8_isLoose w x2) = 0 → (z_R (x2 + 1)) ∧ z_Sem mX8_tighten (sh.length, 0) 52 [(0, z_r 0), (1, z_i x1), (2, z_i (x2 + 1))] [] (sh, w) Q) ∧ (¬ (f_X8_isLoose w x2) = 0 → (s_X8_tightNumber w x2) ∧ ((0 : Int) ≤ x2 ∧ x2 < 24) ∧ ∀ w9 : Nat → Int → Int, w9 = z_W w 8 x2 (f_X8_tightNumber w x2) → (z_R (x2 + 1)) ∧ z_Sem mX8_tighten (sh.length, 0) 52 [(0, z_r 0), (1, z_i x1), (2, z_i (x2 + 1))] [] (sh, w9) Q))))) : z_Sem mX8_tighten (sh.length, 0) 52 [(0, z_r 0), (1, z_i x1), (2, z_i x2)] [] (sh, w) Q := by
  refine z_iload_n 2 dX8_tighten_52 rfl rfl ?_
  refine z_aload_n 0 dX8_tighten_53 rfl rfl ?_
  refine z_getR (r := 1) zfRX8_12 dX8_tighten_54 hh0.1 rfl ?_
  refine z_getI (ki := 11) zfRX8_96 dX8_tighten_57 hh0.2.1.1 rfl rfl ?_
  refine z_icmp_ge (tgt := 91) dX8_tighten_60 (by decide) (fun c1 => ?_) (fun c1 => ?_)
  · replace h := h.1 c1
    refine z_aload_n 0 dX8_tighten_91 rfl rfl ?_
    refine z_bipush dX8_tighten_92 (by decide) (by decide) ?_
    refine z_iload_n 1 dX8_tighten_94 rfl rfl ?_
    refine z_aload_n 0 dX8_tighten_95 rfl rfl ?_
    refine z_getR (r := 12) zfRX8_19 dX8_tighten_96 hh0.1 rfl ?_
    refine z_callV (As := []) (rest := [z_i x1, z_i 11, z_r 0]) zmX2_room znX2_room zsX2_room (show z_Cl[2]? = some (RX2, TX2, 7) from rfl) zlRX8_214 ⟨Nat.le_of_ble_eq_true rfl, Nat.le_of_ble_eq_true rfl⟩ dX8_tighten_99 hh0.2.2.1.1 rfl rfl z_a0 (Nat.le_of_ble_eq_true rfl) (Nat.le_of_ble_eq_true rfl) ⟨rfl, rfl⟩ (z_CIm h ?_)
    intro y3 w2 h
    show z_Sem mX8_tighten (sh.length, 0) 102 [(0, z_r 0), (1, z_i x1), (2, z_i x2)] [z_i y3, z_i x1, z_i 11, z_r 0] (sh, w2) Q
    refine z_callV (As := [z_i 11, z_i x1, z_i y3]) (rest := []) zmX8_finish znX8_finish zsX8_finish (show z_Cl[8]? = some (RX8, TX8, 9) from rfl) zlRX8_112 ⟨Nat.le_of_ble_eq_true rfl, Nat.le_of_ble_eq_true rfl⟩ dX8_tighten_102 hh0.1 rfl rfl (z_ai (z_ai (z_ai z_a0))) (Nat.le_of_ble_eq_true rfl) (Nat.le_of_ble_eq_true rfl) ⟨rfl, rfl⟩ (z_CVm h ?_)
    intro w4 h
    show z_Sem mX8_tighten (sh.length, 0) 105 [(0, z_r 0), (1, z_i x1), (2, z_i x2)] [] (sh, w4) Q
    refine z_iload_n 1 dX8_tighten_105 rfl rfl ?_
    exact z_ret (v := some (z_i x1)) dX8_tighten_106 ⟨rfl, Or.inl rfl⟩ rfl h
  · replace h := h.2 c1
    refine z_aload_n 0 dX8_tighten_63 rfl rfl ?_
    refine z_iload_n 2 dX8_tighten_64 rfl rfl ?_
    obtain ⟨q5, h⟩ := h
    refine z_callV (As := [z_i x2]) (rest := []) zmX8_isLoose znX8_isLoose zsX8_isLoose (show z_Cl[8]? = some (RX8, TX8, 9) from rfl) zlRX8_207 ⟨Nat.le_of_ble_eq_true rfl, Nat.le_of_ble_eq_true rfl⟩ dX8_tighten_65 hh0.1 rfl rfl (z_ai z_a0) (Nat.le_of_ble_eq_true rfl) (Nat.le_of_ble_eq_true rfl) ⟨rfl, rfl⟩ ?_
    refine t_X8_isLoose hh0 q5 ?_
    show z_Sem mX8_tighten (sh.length, 0) 68 [(0, z_r 0), (1, z_i x1), (2, z_i x2)] [z_i (f_X8_isLoose w x2)] (sh, w) Q
    refine z_if_eq (tgt := 85) dX8_tighten_68 (by decide) (fun c6 => ?_) (fun c6 => ?_)
    · replace h := h.1 c6
      obtain ⟨q7, h⟩ := h
      refine z_iinc (L' := [(2, z_i (x2 + 1)), (0, z_r 0), (1, z_i x1)]) 2 dX8_tighten_85 rfl (by decide) rfl q7 ?_
      refine z_goto (tgt := 52) dX8_tighten_88 (by decide) ?_
      refine z_sub (L' := [(0, z_r 0), (1, z_i x1), (2, z_i (x2 + 1))]) [1, 2, 0] rfl ?_
      exact h
    · replace h := h.2 c6
      refine z_aload_n 0 dX8_tighten_71 rfl rfl ?_
      refine z_getR (r := 1) zfRX8_12 dX8_tighten_72 hh0.1 rfl ?_
      refine z_getR (r := 8) zfRX8_141 dX8_tighten_75 hh0.2.1.1 rfl ?_
      refine z_iload_n 2 dX8_tighten_78 rfl rfl ?_
      refine z_aload_n 0 dX8_tighten_79 rfl rfl ?_
      refine z_iload_n 2 dX8_tighten_80 rfl rfl ?_
      obtain ⟨q8, h⟩ := h
      refine z_callV (As := [z_i x2]) (rest := [z_i x2, z_r 8]) zmX8_tightNumber znX8_tightNumber zsX8_tightNumber (show z_Cl[8]? = some (RX8, TX8, 9) from rfl) zlRX8_210 ⟨Nat.le_of_ble_eq_true rfl, Nat.le_of_ble_eq_true rfl⟩ dX8_tighten_81 hh0.1 rfl rfl (z_ai z_a0) (Nat.le_of_ble_eq_true rfl) (Nat.le_of_ble_eq_true rfl) ⟨rfl, rfl⟩ ?_
      refine t_X8_tightNumber hh0 q8 ?_
      show z_Sem mX8_tighten (sh.length, 0) 84 [(0, z_r 0), (1, z_i x1), (2, z_i x2)] [z_i (f_X8_tightNumber w x2), z_i x2, z_r 8] (sh, w) Q
      obtain ⟨q10, h⟩ := h
      refine z_iast dX8_tighten_84 hh0.2.1.2.2.2.2.2.2.2.1 q10 ?_
      refine z_genw (fun w9 hw9 => ?_)
      replace h := h w9 hw9
      obtain ⟨q11, h⟩ := h
      refine z_iinc (L' := [(2, z_i (x2 + 1)), (0, z_r 0), (1, z_i x1)]) 2 dX8_tighten_85 rfl (by decide) rfl q11 ?_
      refine z_goto (tgt := 52) dX8_tighten_88 (by decide) ?_
      refine z_sub (L' := [(0, z_r 0), (1, z_i x1), (2, z_i (x2 + 1))]) [1, 2, 0] rfl ?_
      exact h
set_option maxRecDepth 100000 in
theorem t_X8_isNeeded {sh : List z_C} {w : Nat → Int → Int} {Q : Option z_V → z_S → Prop} {x1 : Int} (hh0 : z_isTG sh 0) (h : (s_X8_isTight w x1) ∧ (((f_X8_isTight w x1) = 0 → Q (some (z_i 0)) (sh, w)) ∧ (¬ (f_X8_isTight w x1) = 0 → z_CV mX2_build [z_r 18, z_r 1, z_i x1] sh w (fun w3 => (s_X8_beginOf w3 x1) ∧ (s_X8_finishOf w3 x1) ∧ (s_X2_between w3 18 (f_X8_beginOf w3 x1) (f_X8_finishOf w3 x1)) ∧ (s_X8_boundOf w3 x1) ∧ Q (some (z_i (if (f_X2_between w3 18 (f_X8_beginOf w3 x1) (f_X8_finishOf w3 x1)) ≤ (f_X8_boundOf w3 x1) then 0 else 1))) (sh, w3))))) : z_Sem mX8_isNeeded (sh.length, 0) 0 [(0, z_r 0), (1, z_i x1)] [] (sh, w) Q := by
  refine z_aload_n 0 dX8_isNeeded_0 rfl rfl ?_
  refine z_iload_n 1 dX8_isNeeded_1 rfl rfl ?_
  obtain ⟨q1, h⟩ := h
  refine z_callV (As := [z_i x1]) (rest := []) zmX8_isTight znX8_isTight zsX8_isTight (show z_Cl[8]? = some (RX8, TX8, 9) from rfl) zlRX8_261 ⟨Nat.le_of_ble_eq_true rfl, Nat.le_of_ble_eq_true rfl⟩ dX8_isNeeded_2 hh0.1 rfl rfl (z_ai z_a0) (Nat.le_of_ble_eq_true rfl) (Nat.le_of_ble_eq_true rfl) ⟨rfl, rfl⟩ ?_
  refine t_X8_isTight hh0 q1 ?_
  show z_Sem mX8_isNeeded (sh.length, 0) 5 [(0, z_r 0), (1, z_i x1)] [z_i (f_X8_isTight w x1)] (sh, w) Q
  refine z_if_ne (tgt := 10) dX8_isNeeded_5 (by decide) (fun c2 => ?_) (fun c2 => ?_)
  · replace h := h.2 c2
    refine z_aload_n 0 dX8_isNeeded_10 rfl rfl ?_
    refine z_getR (r := 18) zfRX8_23 dX8_isNeeded_11 hh0.1 rfl ?_
    refine z_aload_n 0 dX8_isNeeded_14 rfl rfl ?_
    refine z_getR (r := 1) zfRX8_12 dX8_isNeeded_15 hh0.1 rfl ?_
    refine z_iload_n 1 dX8_isNeeded_18 rfl rfl ?_
    refine z_callV (As := [z_r 1, z_i x1]) (rest := []) zmX2_build znX2_build zsX2_build (show z_Cl[2]? = some (RX2, TX2, 7) from rfl) zlRX8_66 ⟨Nat.le_of_ble_eq_true rfl, Nat.le_of_ble_eq_true rfl⟩ dX8_isNeeded_19 hh0.2.2.2.1.1 rfl rfl (z_ar (z_ai z_a0)) (Nat.le_of_ble_eq_true rfl) (Nat.le_of_ble_eq_true rfl) ⟨rfl, rfl⟩ (z_CVm h ?_)
    intro w3 h
    show z_Sem mX8_isNeeded (sh.length, 0) 22 [(0, z_r 0), (1, z_i x1)] [] (sh, w3) Q
    refine z_aload_n 0 dX8_isNeeded_22 rfl rfl ?_
    refine z_getR (r := 18) zfRX8_23 dX8_isNeeded_23 hh0.1 rfl ?_
    refine z_aload_n 0 dX8_isNeeded_26 rfl rfl ?_
    refine z_iload_n 1 dX8_isNeeded_27 rfl rfl ?_
    obtain ⟨q4, h⟩ := h
    refine z_callV (As := [z_i x1]) (rest := [z_r 18]) zmX8_beginOf znX8_beginOf zsX8_beginOf (show z_Cl[8]? = some (RX8, TX8, 9) from rfl) zlRX8_299 ⟨Nat.le_of_ble_eq_true rfl, Nat.le_of_ble_eq_true rfl⟩ dX8_isNeeded_28 hh0.1 rfl rfl (z_ai z_a0) (Nat.le_of_ble_eq_true rfl) (Nat.le_of_ble_eq_true rfl) ⟨rfl, rfl⟩ ?_
    refine t_X8_beginOf hh0 q4 ?_
    show z_Sem mX8_isNeeded (sh.length, 0) 31 [(0, z_r 0), (1, z_i x1)] [z_i (f_X8_beginOf w3 x1), z_r 18] (sh, w3) Q
    refine z_aload_n 0 dX8_isNeeded_31 rfl rfl ?_
    refine z_iload_n 1 dX8_isNeeded_32 rfl rfl ?_
    obtain ⟨q5, h⟩ := h
    refine z_callV (As := [z_i x1]) (rest := [z_i (f_X8_beginOf w3 x1), z_r 18]) zmX8_finishOf znX8_finishOf zsX8_finishOf (show z_Cl[8]? = some (RX8, TX8, 9) from rfl) zlRX8_302 ⟨Nat.le_of_ble_eq_true rfl, Nat.le_of_ble_eq_true rfl⟩ dX8_isNeeded_33 hh0.1 rfl rfl (z_ai z_a0) (Nat.le_of_ble_eq_true rfl) (Nat.le_of_ble_eq_true rfl) ⟨rfl, rfl⟩ ?_
    refine t_X8_finishOf hh0 q5 ?_
    show z_Sem mX8_isNeeded (sh.length, 0) 36 [(0, z_r 0), (1, z_i x1)] [z_i (f_X8_finishOf w3 x1), z_i (f_X8_beginOf w3 x1), z_r 18] (sh, w3) Q
    obtain ⟨q6, h⟩ := h
    refine z_callV (As := [z_i (f_X8_beginOf w3 x1), z_i (f_X8_finishOf w3 x1)]) (rest := []) zmX2_between znX2_between zsX2_between (show z_Cl[2]? = some (RX2, TX2, 7) from rfl) zlRX8_282 ⟨Nat.le_of_ble_eq_true rfl, Nat.le_of_ble_eq_true rfl⟩ dX8_isNeeded_36 hh0.2.2.2.1.1 rfl rfl (z_ai (z_ai z_a0)) (Nat.le_of_ble_eq_true rfl) (Nat.le_of_ble_eq_true rfl) ⟨rfl, rfl⟩ ?_
    refine t_X2_between hh0.2.2.2.1 q6 ?_
    show z_Sem mX8_isNeeded (sh.length, 0) 39 [(0, z_r 0), (1, z_i x1)] [z_i (f_X2_between w3 18 (f_X8_beginOf w3 x1) (f_X8_finishOf w3 x1))] (sh, w3) Q
    refine z_aload_n 0 dX8_isNeeded_39 rfl rfl ?_
    refine z_iload_n 1 dX8_isNeeded_40 rfl rfl ?_
    obtain ⟨q7, h⟩ := h
    refine z_callV (As := [z_i x1]) (rest := [z_i (f_X2_between w3 18 (f_X8_beginOf w3 x1) (f_X8_finishOf w3 x1))]) zmX8_boundOf znX8_boundOf zsX8_boundOf (show z_Cl[8]? = some (RX8, TX8, 9) from rfl) zlRX8_270 ⟨Nat.le_of_ble_eq_true rfl, Nat.le_of_ble_eq_true rfl⟩ dX8_isNeeded_41 hh0.1 rfl rfl (z_ai z_a0) (Nat.le_of_ble_eq_true rfl) (Nat.le_of_ble_eq_true rfl) ⟨rfl, rfl⟩ ?_
    refine t_X8_boundOf hh0 q7 ?_
    show z_Sem mX8_isNeeded (sh.length, 0) 44 [(0, z_r 0), (1, z_i x1)] [z_i (f_X8_boundOf w3 x1), z_i (f_X2_between w3 18 (f_X8_beginOf w3 x1) (f_X8_finishOf w3 x1))] (sh, w3) Q
    suffices hJ8 : z_Sem mX8_isNeeded (sh.length, 0) 52 [] [z_i (if (f_X2_between w3 18 (f_X8_beginOf w3 x1) (f_X8_finishOf w3 x1)) ≤ (f_X8_boundOf w3 x1) then 0 else 1)] (sh, w3) Q by
      refine z_icmp_le (tgt := 51) dX8_isNeeded_44 (by decide) (fun c9 => ?_) (fun c9 => ?_)
      · skip
        refine z_iconst dX8_isNeeded_51 (by decide) ?_
        refine z_sub (L' := []) [] rfl ?_
        simp only [if_pos c9] at hJ8
        exact hJ8
      · skip
        refine z_iconst dX8_isNeeded_47 (by decide) ?_
        refine z_goto (tgt := 52) dX8_isNeeded_48 (by decide) ?_
        refine z_sub (L' := []) [] rfl ?_
        simp only [if_neg c9] at hJ8
        exact hJ8
    exact z_ret (v := some (z_i (if (f_X2_between w3 18 (f_X8_beginOf w3 x1) (f_X8_finishOf w3 x1)) ≤ (f_X8_boundOf w3 x1) then 0 else 1))) dX8_isNeeded_52 ⟨rfl, Or.inr (Or.inl ⟨rfl, (z_it01 (by decide) (by decide))⟩)⟩ rfl h
  · replace h := h.1 c2
    refine z_iconst dX8_isNeeded_8 (by decide) ?_
    exact z_ret (v := some (z_i 0)) dX8_isNeeded_9 ⟨rfl, Or.inr (Or.inl ⟨rfl, (by decide)⟩)⟩ rfl h
set_option maxRecDepth 100000 in
theorem t_X8_firstNeedless {sh : List z_C} {w : Nat → Int → Int} {Q : Option z_V → z_S → Prop} {x1 : Int} (hh0 : z_isTG sh 0) (h : z_Sem mX8_firstNeedless (sh.length, 0) 2 [(0, z_r 0), (2, z_i x1)] [] (sh, w) Q) : z_Sem mX8_firstNeedless (sh.length, 0) 0 [(0, z_r 0), (1, z_i x1)] [] (sh, w) Q := by
  refine z_iload_n 1 dX8_firstNeedless_0 rfl rfl ?_
  refine z_istore_n (L' := [(2, z_i x1), (0, z_r 0), (1, z_i x1)]) dX8_firstNeedless_1 rfl (by decide) rfl ?_
  refine z_sub (L' := [(0, z_r 0), (2, z_i x1)]) [1, 0] rfl ?_
  exact h
set_option maxRecDepth 100000 in
theorem t_X8_firstNeedless_2 {sh : List z_C} {w : Nat → Int → Int} {Q : Option z_V → z_S → Prop} {x2 : Int} (hh0 : z_isTG sh 0) (h : (((w 1 11) ≤ x2 → Q (some (z_i (-2))) (sh, w)) ∧ (¬ (w 1 11) ≤ x2 → ((0 : Int) ≤ x2 ∧ x2 < 24) ∧ (((w 9 x2) = 0 → (z_R (x2 + 1)) ∧ z_Sem mX8_firstNeedless (sh.length, 0) 2 [(0, z_r 0), (2, z_i (x2 + 1))] [] (sh, w) Q) ∧ (¬ (w 9 x2) = 0 → z_CI mX8_isNeeded [z_r 0, z_i x2] sh w (fun y6 w5 => ((y6 = 0 → Q (some (z_i x2)) (sh, w5)) ∧ (¬ y6 = 0 → (z_R (x2 + 1)) ∧ z_Sem mX8_firstNeedless (sh.length, 0) 2 [(0, z_r 0), (2, z_i (x2 + 1))] [] (sh, w5) Q)))))))) : z_Sem mX8_firstNeedless (sh.length, 0) 2 [(0, z_r 0), (2, z_i x2)] [] (sh, w) Q := by
  refine z_iload_n 1 dX8_firstNeedless_2 rfl rfl ?_
  refine z_aload_n 0 dX8_firstNeedless_3 rfl rfl ?_
  refine z_getR (r := 1) zfRX8_12 dX8_firstNeedless_4 hh0.1 rfl ?_
  refine z_getI (ki := 11) zfRX8_96 dX8_firstNeedless_7 hh0.2.1.1 rfl rfl ?_
  refine z_icmp_ge (tgt := 41) dX8_firstNeedless_10 (by decide) (fun c1 => ?_) (fun c1 => ?_)
  · replace h := h.1 c1
    refine z_bipush dX8_firstNeedless_41 (by decide) (by decide) ?_
    exact z_ret (v := some (z_i (-2))) dX8_firstNeedless_43 ⟨rfl, Or.inl rfl⟩ rfl h
  · replace h := h.2 c1
    refine z_aload_n 0 dX8_firstNeedless_13 rfl rfl ?_
    refine z_getR (r := 1) zfRX8_12 dX8_firstNeedless_14 hh0.1 rfl ?_
    refine z_getR (r := 9) zfRX8_151 dX8_firstNeedless_17 hh0.2.1.1 rfl ?_
    refine z_iload_n 1 dX8_firstNeedless_20 rfl rfl ?_
    obtain ⟨q2, h⟩ := h
    refine z_zald dX8_firstNeedless_21 hh0.2.1.2.2.2.2.2.2.2.2.1 q2 ?_
    refine z_if_eq (tgt := 35) dX8_firstNeedless_22 (by decide) (fun c3 => ?_) (fun c3 => ?_)
    · replace h := h.1 c3
      obtain ⟨q4, h⟩ := h
      refine z_iinc (L' := [(2, z_i (x2 + 1)), (0, z_r 0)]) 1 dX8_firstNeedless_35 rfl (by decide) rfl q4 ?_
      refine z_goto (tgt := 2) dX8_firstNeedless_38 (by decide) ?_
      refine z_sub (L' := [(0, z_r 0), (2, z_i (x2 + 1))]) [1, 0] rfl ?_
      exact h
    · replace h := h.2 c3
      refine z_aload_n 0 dX8_firstNeedless_25 rfl rfl ?_
      refine z_iload_n 1 dX8_firstNeedless_26 rfl rfl ?_
      refine z_callV (As := [z_i x2]) (rest := []) zmX8_isNeeded znX8_isNeeded zsX8_isNeeded (show z_Cl[8]? = some (RX8, TX8, 9) from rfl) zlRX8_264 ⟨Nat.le_of_ble_eq_true rfl, Nat.le_of_ble_eq_true rfl⟩ dX8_firstNeedless_27 hh0.1 rfl rfl (z_ai z_a0) (Nat.le_of_ble_eq_true rfl) (Nat.le_of_ble_eq_true rfl) ⟨rfl, rfl⟩ (z_CIm h ?_)
      intro y6 w5 h
      show z_Sem mX8_firstNeedless (sh.length, 0) 30 [(0, z_r 0), (2, z_i x2)] [z_i y6] (sh, w5) Q
      refine z_if_ne (tgt := 35) dX8_firstNeedless_30 (by decide) (fun c7 => ?_) (fun c7 => ?_)
      · replace h := h.2 c7
        obtain ⟨q8, h⟩ := h
        refine z_iinc (L' := [(2, z_i (x2 + 1)), (0, z_r 0)]) 1 dX8_firstNeedless_35 rfl (by decide) rfl q8 ?_
        refine z_goto (tgt := 2) dX8_firstNeedless_38 (by decide) ?_
        refine z_sub (L' := [(0, z_r 0), (2, z_i (x2 + 1))]) [1, 0] rfl ?_
        exact h
      · replace h := h.1 c7
        refine z_iload_n 1 dX8_firstNeedless_33 rfl rfl ?_
        exact z_ret (v := some (z_i x2)) dX8_firstNeedless_34 ⟨rfl, Or.inl rfl⟩ rfl h
set_option maxRecDepth 100000 in
theorem t_X8_thin {sh : List z_C} {w : Nat → Int → Int} {Q : Option z_V → z_S → Prop}  (hh0 : z_isTG sh 0) (h : z_CI mX8_firstNeedless [z_r 0, z_i 0] sh w (fun y2 w1 => ((y2 = (-2) → Q (some (z_i (-2))) (sh, w1)) ∧ (¬ y2 = (-2) → z_CV mX0_remember [z_r 24, z_r 1] sh w1 (fun w4 => ∀ y5 : Int, y5 = (w4 1 11) → z_Sem mX8_thin (sh.length, 0) 36 [(0, z_r 0), (1, z_i y2), (2, z_i y5), (3, z_i 0)] [] (sh, w4) Q))))) : z_Sem mX8_thin (sh.length, 0) 0 [(0, z_r 0)] [] (sh, w) Q := by
  refine z_aload_n 0 dX8_thin_0 rfl rfl ?_
  refine z_iconst dX8_thin_1 (by decide) ?_
  refine z_callV (As := [z_i 0]) (rest := []) zmX8_firstNeedless znX8_firstNeedless zsX8_firstNeedless (show z_Cl[8]? = some (RX8, TX8, 9) from rfl) zlRX8_217 ⟨Nat.le_of_ble_eq_true rfl, Nat.le_of_ble_eq_true rfl⟩ dX8_thin_2 hh0.1 rfl rfl (z_ai z_a0) (Nat.le_of_ble_eq_true rfl) (Nat.le_of_ble_eq_true rfl) ⟨rfl, rfl⟩ (z_CIm h ?_)
  intro y2 w1 h
  show z_Sem mX8_thin (sh.length, 0) 5 [(0, z_r 0)] [z_i y2] (sh, w1) Q
  refine z_istore_n (L' := [(1, z_i y2), (0, z_r 0)]) dX8_thin_5 rfl (by decide) rfl ?_
  refine z_iload_n 0 dX8_thin_6 rfl rfl ?_
  refine z_bipush dX8_thin_7 (by decide) (by decide) ?_
  refine z_icmp_ne (tgt := 15) dX8_thin_9 (by decide) (fun c3 => ?_) (fun c3 => ?_)
  · replace h := h.2 c3
    refine z_aload_n 1 dX8_thin_15 rfl rfl ?_
    refine z_getR (r := 24) zfRX8_29 dX8_thin_16 hh0.1 rfl ?_
    refine z_aload_n 1 dX8_thin_19 rfl rfl ?_
    refine z_getR (r := 1) zfRX8_12 dX8_thin_20 hh0.1 rfl ?_
    refine z_callV (As := [z_r 1]) (rest := []) zmX0_remember znX0_remember zsX0_remember (show z_Cl[0]? = some (RX0, TX0, 3) from rfl) zlRX8_105 ⟨Nat.le_of_ble_eq_true rfl, Nat.le_of_ble_eq_true rfl⟩ dX8_thin_23 hh0.2.2.2.2.1.1 rfl rfl (z_ar z_a0) (Nat.le_of_ble_eq_true rfl) (Nat.le_of_ble_eq_true rfl) ⟨rfl, rfl⟩ (z_CVm h ?_)
    intro w4 h
    show z_Sem mX8_thin (sh.length, 0) 26 [(1, z_i y2), (0, z_r 0)] [] (sh, w4) Q
    refine z_aload_n 1 dX8_thin_26 rfl rfl ?_
    refine z_getR (r := 1) zfRX8_12 dX8_thin_27 hh0.1 rfl ?_
    refine z_getI (ki := 11) zfRX8_96 dX8_thin_30 hh0.2.1.1 rfl rfl ?_
    refine z_nam (fun y5 hy5 => ?_)
    replace h := h y5 hy5
    refine z_istore_n (L' := [(2, z_i y5), (1, z_i y2), (0, z_r 0)]) dX8_thin_33 rfl (by decide) rfl ?_
    refine z_iconst dX8_thin_34 (by decide) ?_
    refine z_istore_n (L' := [(3, z_i 0), (2, z_i y5), (1, z_i y2), (0, z_r 0)]) dX8_thin_35 rfl (by decide) rfl ?_
    refine z_sub (L' := [(0, z_r 0), (1, z_i y2), (2, z_i y5), (3, z_i 0)]) [3, 2, 1, 0] rfl ?_
    exact h
  · replace h := h.1 c3
    refine z_bipush dX8_thin_12 (by decide) (by decide) ?_
    exact z_ret (v := some (z_i (-2))) dX8_thin_14 ⟨rfl, Or.inl rfl⟩ rfl h
set_option maxRecDepth 100000 in
theorem t_X8_thin_36 {sh : List z_C} {w : Nat → Int → Int} {Q : Option z_V → z_S → Prop} {x1 : Int} {x2 : Int} {x3 : Int} (hh0 : z_isTG sh 0) (h : ((24 ≤ x3 → (z_R (x2 - (w 1 11))) ∧ z_CV mX8_finish [z_r 0, z_i 12, z_i (x2 - (w 1 11)), z_i (w 1 11)] sh w (fun w3 => Q (some (z_i (x2 - (w 1 11)))) (sh, w3))) ∧ (¬ 24 ≤ x3 → ((x1 = (-2) → (z_R (x2 - (w 1 11))) ∧ z_CV mX8_finish [z_r 0, z_i 12, z_i (x2 - (w 1 11)), z_i (w 1 11)] sh w (fun w6 => Q (some (z_i (x2 - (w 1 11)))) (sh, w6))) ∧ (¬ x1 = (-2) → z_CV mX3_removeGap [z_r 1, z_i x1] sh w (fun w7 => z_CI mX8_firstNeedless [z_r 0, z_i x1] sh w7 (fun y9 w8 => (z_R (x3 + 1)) ∧ z_Sem mX8_thin (sh.length, 0) 36 [(0, z_r 0), (1, z_i y9), (2, z_i x2), (3, z_i (x3 + 1))] [] (sh, w8) Q))))))) : z_Sem mX8_thin (sh.length, 0) 36 [(0, z_r 0), (1, z_i x1), (2, z_i x2), (3, z_i x3)] [] (sh, w) Q := by
  refine z_iload_n 3 dX8_thin_36 rfl rfl ?_
  refine z_bipush dX8_thin_37 (by decide) (by decide) ?_
  refine z_icmp_ge (tgt := 68) dX8_thin_39 (by decide) (fun c1 => ?_) (fun c1 => ?_)
  · replace h := h.1 c1
    refine z_iload_n 2 dX8_thin_68 rfl rfl ?_
    refine z_aload_n 0 dX8_thin_69 rfl rfl ?_
    refine z_getR (r := 1) zfRX8_12 dX8_thin_70 hh0.1 rfl ?_
    refine z_getI (ki := 11) zfRX8_96 dX8_thin_73 hh0.2.1.1 rfl rfl ?_
    obtain ⟨q2, h⟩ := h
    refine z_isub dX8_thin_76 q2 ?_
    refine z_istore_n (L' := [(3, z_i (x2 - (w 1 11))), (0, z_r 0), (1, z_i x1), (2, z_i x2)]) dX8_thin_77 rfl (by decide) rfl ?_
    refine z_aload_n 1 dX8_thin_78 rfl rfl ?_
    refine z_bipush dX8_thin_79 (by decide) (by decide) ?_
    refine z_iload_n 0 dX8_thin_81 rfl rfl ?_
    refine z_aload_n 1 dX8_thin_82 rfl rfl ?_
    refine z_getR (r := 1) zfRX8_12 dX8_thin_83 hh0.1 rfl ?_
    refine z_getI (ki := 11) zfRX8_96 dX8_thin_86 hh0.2.1.1 rfl rfl ?_
    refine z_callV (As := [z_i 12, z_i (x2 - (w 1 11)), z_i (w 1 11)]) (rest := []) zmX8_finish znX8_finish zsX8_finish (show z_Cl[8]? = some (RX8, TX8, 9) from rfl) zlRX8_112 ⟨Nat.le_of_ble_eq_true rfl, Nat.le_of_ble_eq_true rfl⟩ dX8_thin_89 hh0.1 rfl rfl (z_ai (z_ai (z_ai z_a0))) (Nat.le_of_ble_eq_true rfl) (Nat.le_of_ble_eq_true rfl) ⟨rfl, rfl⟩ (z_CVm h ?_)
    intro w3 h
    show z_Sem mX8_thin (sh.length, 0) 92 [(3, z_i (x2 - (w 1 11))), (0, z_r 0), (1, z_i x1), (2, z_i x2)] [] (sh, w3) Q
    refine z_iload_n 0 dX8_thin_92 rfl rfl ?_
    exact z_ret (v := some (z_i (x2 - (w 1 11)))) dX8_thin_93 ⟨rfl, Or.inl rfl⟩ rfl h
  · replace h := h.2 c1
    refine z_iload_n 1 dX8_thin_42 rfl rfl ?_
    refine z_bipush dX8_thin_43 (by decide) (by decide) ?_
    refine z_icmp_eq (tgt := 68) dX8_thin_45 (by decide) (fun c4 => ?_) (fun c4 => ?_)
    · replace h := h.1 c4
      refine z_iload_n 2 dX8_thin_68 rfl rfl ?_
      refine z_aload_n 0 dX8_thin_69 rfl rfl ?_
      refine z_getR (r := 1) zfRX8_12 dX8_thin_70 hh0.1 rfl ?_
      refine z_getI (ki := 11) zfRX8_96 dX8_thin_73 hh0.2.1.1 rfl rfl ?_
      obtain ⟨q5, h⟩ := h
      refine z_isub dX8_thin_76 q5 ?_
      refine z_istore_n (L' := [(3, z_i (x2 - (w 1 11))), (0, z_r 0), (1, z_i x1), (2, z_i x2)]) dX8_thin_77 rfl (by decide) rfl ?_
      refine z_aload_n 1 dX8_thin_78 rfl rfl ?_
      refine z_bipush dX8_thin_79 (by decide) (by decide) ?_
      refine z_iload_n 0 dX8_thin_81 rfl rfl ?_
      refine z_aload_n 1 dX8_thin_82 rfl rfl ?_
      refine z_getR (r := 1) zfRX8_12 dX8_thin_83 hh0.1 rfl ?_
      refine z_getI (ki := 11) zfRX8_96 dX8_thin_86 hh0.2.1.1 rfl rfl ?_
      refine z_callV (As := [z_i 12, z_i (x2 - (w 1 11)), z_i (w 1 11)]) (rest := []) zmX8_finish znX8_finish zsX8_finish (show z_Cl[8]? = some (RX8, TX8, 9) from rfl) zlRX8_112 ⟨Nat.le_of_ble_eq_true rfl, Nat.le_of_ble_eq_true rfl⟩ dX8_thin_89 hh0.1 rfl rfl (z_ai (z_ai (z_ai z_a0))) (Nat.le_of_ble_eq_true rfl) (Nat.le_of_ble_eq_true rfl) ⟨rfl, rfl⟩ (z_CVm h ?_)
      intro w6 h
      show z_Sem mX8_thin (sh.length, 0) 92 [(3, z_i (x2 - (w 1 11))), (0, z_r 0), (1, z_i x1), (2, z_i x2)] [] (sh, w6) Q
      refine z_iload_n 0 dX8_thin_92 rfl rfl ?_
      exact z_ret (v := some (z_i (x2 - (w 1 11)))) dX8_thin_93 ⟨rfl, Or.inl rfl⟩ rfl h
    · replace h := h.2 c4
      refine z_aload_n 0 dX8_thin_48 rfl rfl ?_
      refine z_getR (r := 1) zfRX8_12 dX8_thin_49 hh0.1 rfl ?_
      refine z_iload_n 1 dX8_thin_52 rfl rfl ?_
      refine z_callV (As := [z_i x1]) (rest := []) zmX3_removeGap znX3_removeGap zsX3_removeGap (show z_Cl[3]? = some (RX3, TX3, 12) from rfl) zlRX8_145 ⟨Nat.le_of_ble_eq_true rfl, Nat.le_of_ble_eq_true rfl⟩ dX8_thin_53 hh0.2.1.1 rfl rfl (z_ai z_a0) (Nat.le_of_ble_eq_true rfl) (Nat.le_of_ble_eq_true rfl) ⟨rfl, rfl⟩ (z_CVm h ?_)
      intro w7 h
      show z_Sem mX8_thin (sh.length, 0) 56 [(0, z_r 0), (1, z_i x1), (2, z_i x2), (3, z_i x3)] [] (sh, w7) Q
      refine z_aload_n 0 dX8_thin_56 rfl rfl ?_
      refine z_iload_n 1 dX8_thin_57 rfl rfl ?_
      refine z_callV (As := [z_i x1]) (rest := []) zmX8_firstNeedless znX8_firstNeedless zsX8_firstNeedless (show z_Cl[8]? = some (RX8, TX8, 9) from rfl) zlRX8_217 ⟨Nat.le_of_ble_eq_true rfl, Nat.le_of_ble_eq_true rfl⟩ dX8_thin_58 hh0.1 rfl rfl (z_ai z_a0) (Nat.le_of_ble_eq_true rfl) (Nat.le_of_ble_eq_true rfl) ⟨rfl, rfl⟩ (z_CIm h ?_)
      intro y9 w8 h
      show z_Sem mX8_thin (sh.length, 0) 61 [(0, z_r 0), (1, z_i x1), (2, z_i x2), (3, z_i x3)] [z_i y9] (sh, w8) Q
      refine z_istore_n (L' := [(1, z_i y9), (0, z_r 0), (2, z_i x2), (3, z_i x3)]) dX8_thin_61 rfl (by decide) rfl ?_
      obtain ⟨q10, h⟩ := h
      refine z_iinc (L' := [(3, z_i (x3 + 1)), (1, z_i y9), (0, z_r 0), (2, z_i x2)]) 3 dX8_thin_62 rfl (by decide) rfl q10 ?_
      refine z_goto (tgt := 36) dX8_thin_65 (by decide) ?_
      refine z_sub (L' := [(0, z_r 0), (1, z_i y9), (2, z_i x2), (3, z_i (x3 + 1))]) [2, 1, 3, 0] rfl ?_
      exact h
set_option maxRecDepth 100000 in
theorem t_X8_pinAll {sh : List z_C} {w : Nat → Int → Int} {Q : Option z_V → z_S → Prop}  (hh0 : z_isTG sh 0) (h : (z_R ((w 1 10) - 1)) ∧ z_CI mX3_countPinned [z_r 1] sh w (fun y3 w2 => (z_R (((w 1 10) - 1) - y3)) ∧ (((((w 1 10) - 1) - y3) = 0 → Q (some (z_i (-2))) (sh, w2)) ∧ (¬ (((w 1 10) - 1) - y3) = 0 → z_CV mX0_remember [z_r 24, z_r 1] sh w2 (fun w6 => z_Sem mX8_pinAll (sh.length, 0) 38 [(0, z_r 0), (1, z_i (((w 1 10) - 1) - y3)), (2, z_i 1)] [] (sh, w6) Q))))) : z_Sem mX8_pinAll (sh.length, 0) 0 [(0, z_r 0)] [] (sh, w) Q := by
  refine z_aload_n 0 dX8_pinAll_0 rfl rfl ?_
  refine z_getR (r := 1) zfRX8_12 dX8_pinAll_1 hh0.1 rfl ?_
  refine z_getI (ki := 10) zfRX8_102 dX8_pinAll_4 hh0.2.1.1 rfl rfl ?_
  refine z_iconst dX8_pinAll_7 (by decide) ?_
  obtain ⟨q1, h⟩ := h
  refine z_isub dX8_pinAll_8 q1 ?_
  refine z_aload_n 0 dX8_pinAll_9 rfl rfl ?_
  refine z_getR (r := 1) zfRX8_12 dX8_pinAll_10 hh0.1 rfl ?_
  refine z_callV (As := []) (rest := [z_i ((w 1 10) - 1)]) zmX3_countPinned znX3_countPinned zsX3_countPinned (show z_Cl[3]? = some (RX3, TX3, 12) from rfl) zlRX8_179 ⟨Nat.le_of_ble_eq_true rfl, Nat.le_of_ble_eq_true rfl⟩ dX8_pinAll_13 hh0.2.1.1 rfl rfl z_a0 (Nat.le_of_ble_eq_true rfl) (Nat.le_of_ble_eq_true rfl) ⟨rfl, rfl⟩ (z_CIm h ?_)
  intro y3 w2 h
  show z_Sem mX8_pinAll (sh.length, 0) 16 [(0, z_r 0)] [z_i y3, z_i ((w 1 10) - 1)] (sh, w2) Q
  obtain ⟨q4, h⟩ := h
  refine z_isub dX8_pinAll_16 q4 ?_
  refine z_istore_n (L' := [(1, z_i (((w 1 10) - 1) - y3)), (0, z_r 0)]) dX8_pinAll_17 rfl (by decide) rfl ?_
  refine z_iload_n 0 dX8_pinAll_18 rfl rfl ?_
  refine z_if_ne (tgt := 25) dX8_pinAll_19 (by decide) (fun c5 => ?_) (fun c5 => ?_)
  · replace h := h.2 c5
    refine z_aload_n 1 dX8_pinAll_25 rfl rfl ?_
    refine z_getR (r := 24) zfRX8_29 dX8_pinAll_26 hh0.1 rfl ?_
    refine z_aload_n 1 dX8_pinAll_29 rfl rfl ?_
    refine z_getR (r := 1) zfRX8_12 dX8_pinAll_30 hh0.1 rfl ?_
    refine z_callV (As := [z_r 1]) (rest := []) zmX0_remember znX0_remember zsX0_remember (show z_Cl[0]? = some (RX0, TX0, 3) from rfl) zlRX8_105 ⟨Nat.le_of_ble_eq_true rfl, Nat.le_of_ble_eq_true rfl⟩ dX8_pinAll_33 hh0.2.2.2.2.1.1 rfl rfl (z_ar z_a0) (Nat.le_of_ble_eq_true rfl) (Nat.le_of_ble_eq_true rfl) ⟨rfl, rfl⟩ (z_CVm h ?_)
    intro w6 h
    show z_Sem mX8_pinAll (sh.length, 0) 36 [(1, z_i (((w 1 10) - 1) - y3)), (0, z_r 0)] [] (sh, w6) Q
    refine z_iconst dX8_pinAll_36 (by decide) ?_
    refine z_istore_n (L' := [(2, z_i 1), (1, z_i (((w 1 10) - 1) - y3)), (0, z_r 0)]) dX8_pinAll_37 rfl (by decide) rfl ?_
    refine z_sub (L' := [(0, z_r 0), (1, z_i (((w 1 10) - 1) - y3)), (2, z_i 1)]) [2, 1, 0] rfl ?_
    exact h
  · replace h := h.1 c5
    refine z_bipush dX8_pinAll_22 (by decide) (by decide) ?_
    exact z_ret (v := some (z_i (-2))) dX8_pinAll_24 ⟨rfl, Or.inl rfl⟩ rfl h
set_option maxRecDepth 100000 in
theorem t_X8_pinAll_38 {sh : List z_C} {w : Nat → Int → Int} {Q : Option z_V → z_S → Prop} {x1 : Int} {x2 : Int} (hh0 : z_isTG sh 0) (h : (((w 1 10) ≤ x2 → z_CI mX3_countPinned [z_r 1] sh w (fun y3 w2 => z_CV mX8_finish [z_r 0, z_i 13, z_i x1, z_i y3] sh w2 (fun w4 => Q (some (z_i x1)) (sh, w4)))) ∧ (¬ (w 1 10) ≤ x2 → (s_X3_isPinned w 1 x2) ∧ (((f_X3_isPinned w 1 x2) = 0 → (s_X2_earliest w 12 x2) ∧ ((0 : Int) ≤ x2 ∧ x2 < 10) ∧ ∀ w9 : Nat → Int → Int, w9 = z_W w 4 x2 (f_X2_earliest w 12 x2) → (z_R (x2 + 1)) ∧ z_Sem mX8_pinAll (sh.length, 0) 38 [(0, z_r 0), (1, z_i x1), (2, z_i (x2 + 1))] [] (sh, w9) Q) ∧ (¬ (f_X3_isPinned w 1 x2) = 0 → (z_R (x2 + 1)) ∧ z_Sem mX8_pinAll (sh.length, 0) 38 [(0, z_r 0), (1, z_i x1), (2, z_i (x2 + 1))] [] (sh, w) Q))))) : z_Sem mX8_pinAll (sh.length, 0) 38 [(0, z_r 0), (1, z_i x1), (2, z_i x2)] [] (sh, w) Q := by
  refine z_iload_n 2 dX8_pinAll_38 rfl rfl ?_
  refine z_aload_n 0 dX8_pinAll_39 rfl rfl ?_
  refine z_getR (r := 1) zfRX8_12 dX8_pinAll_40 hh0.1 rfl ?_
  refine z_getI (ki := 10) zfRX8_102 dX8_pinAll_43 hh0.2.1.1 rfl rfl ?_
  refine z_icmp_ge (tgt := 83) dX8_pinAll_46 (by decide) (fun c1 => ?_) (fun c1 => ?_)
  · replace h := h.1 c1
    refine z_aload_n 0 dX8_pinAll_83 rfl rfl ?_
    refine z_bipush dX8_pinAll_84 (by decide) (by decide) ?_
    refine z_iload_n 1 dX8_pinAll_86 rfl rfl ?_
    refine z_aload_n 0 dX8_pinAll_87 rfl rfl ?_
    refine z_getR (r := 1) zfRX8_12 dX8_pinAll_88 hh0.1 rfl ?_
    refine z_callV (As := []) (rest := [z_i x1, z_i 13, z_r 0]) zmX3_countPinned znX3_countPinned zsX3_countPinned (show z_Cl[3]? = some (RX3, TX3, 12) from rfl) zlRX8_179 ⟨Nat.le_of_ble_eq_true rfl, Nat.le_of_ble_eq_true rfl⟩ dX8_pinAll_91 hh0.2.1.1 rfl rfl z_a0 (Nat.le_of_ble_eq_true rfl) (Nat.le_of_ble_eq_true rfl) ⟨rfl, rfl⟩ (z_CIm h ?_)
    intro y3 w2 h
    show z_Sem mX8_pinAll (sh.length, 0) 94 [(0, z_r 0), (1, z_i x1), (2, z_i x2)] [z_i y3, z_i x1, z_i 13, z_r 0] (sh, w2) Q
    refine z_callV (As := [z_i 13, z_i x1, z_i y3]) (rest := []) zmX8_finish znX8_finish zsX8_finish (show z_Cl[8]? = some (RX8, TX8, 9) from rfl) zlRX8_112 ⟨Nat.le_of_ble_eq_true rfl, Nat.le_of_ble_eq_true rfl⟩ dX8_pinAll_94 hh0.1 rfl rfl (z_ai (z_ai (z_ai z_a0))) (Nat.le_of_ble_eq_true rfl) (Nat.le_of_ble_eq_true rfl) ⟨rfl, rfl⟩ (z_CVm h ?_)
    intro w4 h
    show z_Sem mX8_pinAll (sh.length, 0) 97 [(0, z_r 0), (1, z_i x1), (2, z_i x2)] [] (sh, w4) Q
    refine z_iload_n 1 dX8_pinAll_97 rfl rfl ?_
    exact z_ret (v := some (z_i x1)) dX8_pinAll_98 ⟨rfl, Or.inl rfl⟩ rfl h
  · replace h := h.2 c1
    refine z_aload_n 0 dX8_pinAll_49 rfl rfl ?_
    refine z_getR (r := 1) zfRX8_12 dX8_pinAll_50 hh0.1 rfl ?_
    refine z_iload_n 2 dX8_pinAll_53 rfl rfl ?_
    obtain ⟨q5, h⟩ := h
    refine z_callV (As := [z_i x2]) (rest := []) zmX3_isPinned znX3_isPinned zsX3_isPinned (show z_Cl[3]? = some (RX3, TX3, 12) from rfl) zlRX8_182 ⟨Nat.le_of_ble_eq_true rfl, Nat.le_of_ble_eq_true rfl⟩ dX8_pinAll_54 hh0.2.1.1 rfl rfl (z_ai z_a0) (Nat.le_of_ble_eq_true rfl) (Nat.le_of_ble_eq_true rfl) ⟨rfl, rfl⟩ ?_
    refine t_X3_isPinned hh0.2.1 q5 ?_
    show z_Sem mX8_pinAll (sh.length, 0) 57 [(0, z_r 0), (1, z_i x1), (2, z_i x2)] [z_i (f_X3_isPinned w 1 x2)] (sh, w) Q
    refine z_if_ne (tgt := 77) dX8_pinAll_57 (by decide) (fun c6 => ?_) (fun c6 => ?_)
    · replace h := h.2 c6
      obtain ⟨q7, h⟩ := h
      refine z_iinc (L' := [(2, z_i (x2 + 1)), (0, z_r 0), (1, z_i x1)]) 2 dX8_pinAll_77 rfl (by decide) rfl q7 ?_
      refine z_goto (tgt := 38) dX8_pinAll_80 (by decide) ?_
      refine z_sub (L' := [(0, z_r 0), (1, z_i x1), (2, z_i (x2 + 1))]) [1, 2, 0] rfl ?_
      exact h
    · replace h := h.1 c6
      refine z_aload_n 0 dX8_pinAll_60 rfl rfl ?_
      refine z_getR (r := 1) zfRX8_12 dX8_pinAll_61 hh0.1 rfl ?_
      refine z_getR (r := 4) zfRX8_176 dX8_pinAll_64 hh0.2.1.1 rfl ?_
      refine z_iload_n 2 dX8_pinAll_67 rfl rfl ?_
      refine z_aload_n 0 dX8_pinAll_68 rfl rfl ?_
      refine z_getR (r := 12) zfRX8_19 dX8_pinAll_69 hh0.1 rfl ?_
      refine z_iload_n 2 dX8_pinAll_72 rfl rfl ?_
      obtain ⟨q8, h⟩ := h
      refine z_callV (As := [z_i x2]) (rest := [z_i x2, z_r 4]) zmX2_earliest znX2_earliest zsX2_earliest (show z_Cl[2]? = some (RX2, TX2, 7) from rfl) zlRX8_220 ⟨Nat.le_of_ble_eq_true rfl, Nat.le_of_ble_eq_true rfl⟩ dX8_pinAll_73 hh0.2.2.1.1 rfl rfl (z_ai z_a0) (Nat.le_of_ble_eq_true rfl) (Nat.le_of_ble_eq_true rfl) ⟨rfl, rfl⟩ ?_
      refine t_X2_earliest hh0.2.2.1 q8 ?_
      show z_Sem mX8_pinAll (sh.length, 0) 76 [(0, z_r 0), (1, z_i x1), (2, z_i x2)] [z_i (f_X2_earliest w 12 x2), z_i x2, z_r 4] (sh, w) Q
      obtain ⟨q10, h⟩ := h
      refine z_iast dX8_pinAll_76 hh0.2.1.2.2.2.1 q10 ?_
      refine z_genw (fun w9 hw9 => ?_)
      replace h := h w9 hw9
      obtain ⟨q11, h⟩ := h
      refine z_iinc (L' := [(2, z_i (x2 + 1)), (0, z_r 0), (1, z_i x1)]) 2 dX8_pinAll_77 rfl (by decide) rfl q11 ?_
      refine z_goto (tgt := 38) dX8_pinAll_80 (by decide) ?_
      refine z_sub (L' := [(0, z_r 0), (1, z_i x1), (2, z_i (x2 + 1))]) [1, 2, 0] rfl ?_
      exact h
def f_X8_isSlot (w : Nat → Int → Int) (x0 : Int) : Int := if x0 < 0 then 0 else if 2 ≤ x0 then 0 else 1
set_option maxRecDepth 100000 in
theorem t_X8_isSlot {sh : List z_C} {w : Nat → Int → Int} {Q : Option z_V → z_S → Prop} {x0 : Int}  (h : Q (some (z_i (f_X8_isSlot w x0))) (sh, w)) : z_Sem mX8_isSlot (sh.length, 0) 0 [(0, z_i x0)] [] (sh, w) Q := by
  unfold f_X8_isSlot at h
  refine z_iload_n 0 dX8_isSlot_0 rfl rfl ?_
  suffices hJ1 : z_Sem mX8_isSlot (sh.length, 0) 14 [] [z_i (if x0 < 0 then 0 else if 2 ≤ x0 then 0 else 1)] (sh, w) Q by
    refine z_if_lt (tgt := 13) dX8_isSlot_1 (by decide) (fun c2 => ?_) (fun c2 => ?_)
    · skip
      refine z_iconst dX8_isSlot_13 (by decide) ?_
      refine z_sub (L' := []) [] rfl ?_
      simp only [if_pos c2] at hJ1
      exact hJ1
    · skip
      refine z_iload_n 0 dX8_isSlot_4 rfl rfl ?_
      refine z_iconst dX8_isSlot_5 (by decide) ?_
      suffices hJ5 : z_Sem mX8_isSlot (sh.length, 0) 14 [] [z_i (if 2 ≤ x0 then 0 else 1)] (sh, w) Q by
        refine z_icmp_ge (tgt := 13) dX8_isSlot_6 (by decide) (fun c6 => ?_) (fun c6 => ?_)
        · skip
          refine z_iconst dX8_isSlot_13 (by decide) ?_
          refine z_sub (L' := []) [] rfl ?_
          simp only [if_pos c6] at hJ5
          exact hJ5
        · skip
          refine z_iconst dX8_isSlot_9 (by decide) ?_
          refine z_goto (tgt := 14) dX8_isSlot_10 (by decide) ?_
          refine z_sub (L' := []) [] rfl ?_
          simp only [if_neg c6] at hJ5
          exact hJ5
      simp only [if_neg c2] at hJ1
      exact hJ1
  exact z_ret (v := some (z_i (if x0 < 0 then 0 else if 2 ≤ x0 then 0 else 1))) dX8_isSlot_14 ⟨rfl, Or.inr (Or.inl ⟨rfl, (z_it01 (by decide) (z_it01 (by decide) (by decide)))⟩)⟩ rfl h
set_option maxRecDepth 100000 in
theorem t_X8_keep {sh : List z_C} {w : Nat → Int → Int} {Q : Option z_V → z_S → Prop} {x1 : Int} (hh0 : z_isTG sh 0) (h : (((f_X8_isSlot w x1) = 0 → Q (some (z_i (-1))) (sh, w)) ∧ (¬ (f_X8_isSlot w x1) = 0 → ((0 : Int) ≤ x1 ∧ x1 < 2) ∧ z_CV mX3_copyFrom [z_r (117 + 11 * x1.toNat), z_r 1] sh w (fun w3 => ((0 : Int) ≤ x1 ∧ x1 < 2) ∧ ∀ w4 : Nat → Int → Int, w4 = z_W w3 116 x1 1 → Q (some (z_i (w4 1 11))) (sh, w4))))) : z_Sem mX8_keep (sh.length, 0) 0 [(0, z_r 0), (1, z_i x1)] [] (sh, w) Q := by
  refine z_iload_n 1 dX8_keep_0 rfl rfl ?_
  refine z_callS (As := [z_i x1]) (rest := []) zmX8_isSlot ztX8_isSlot zlRX8_223 ⟨Nat.le_of_ble_eq_true rfl, Nat.le_of_ble_eq_true rfl⟩ dX8_keep_1 rfl rfl (z_ai z_a0) (Nat.le_of_ble_eq_true rfl) (Nat.le_of_ble_eq_true rfl) ⟨rfl, rfl⟩ ?_
  refine t_X8_isSlot  ?_
  show z_Sem mX8_keep (sh.length, 0) 4 [(0, z_r 0), (1, z_i x1)] [z_i (f_X8_isSlot w x1)] (sh, w) Q
  refine z_if_ne (tgt := 9) dX8_keep_4 (by decide) (fun c1 => ?_) (fun c1 => ?_)
  · replace h := h.2 c1
    refine z_aload_n 0 dX8_keep_9 rfl rfl ?_
    refine z_getR (r := 114) zfRX8_36 dX8_keep_10 hh0.1 rfl ?_
    refine z_getR (r := 115) zfRX8_226 dX8_keep_13 hh0.2.2.2.2.2.1.1 rfl ?_
    refine z_iload_n 1 dX8_keep_16 rfl rfl ?_
    obtain ⟨q2, h⟩ := h
    refine z_aald (r := (117 + 11 * x1.toNat)) dX8_keep_17 hh0.2.2.2.2.2.1.2.2.1 q2.1 (z_ral (k := (x1).toNat) (by omega)) ?_
    refine z_aload_n 0 dX8_keep_18 rfl rfl ?_
    refine z_getR (r := 1) zfRX8_12 dX8_keep_19 hh0.1 rfl ?_
    refine z_callV (As := [z_r 1]) (rest := []) zmX3_copyFrom znX3_copyFrom zsX3_copyFrom (show z_Cl[3]? = some (RX3, TX3, 12) from rfl) zlRX8_90 ⟨Nat.le_of_ble_eq_true rfl, Nat.le_of_ble_eq_true rfl⟩ dX8_keep_22 (hh0.2.2.2.2.2.1.2.2.2 x1.toNat (by omega)).1 rfl rfl (z_ar z_a0) (Nat.le_of_ble_eq_true rfl) (Nat.le_of_ble_eq_true rfl) ⟨rfl, rfl⟩ (z_CVm h ?_)
    intro w3 h
    show z_Sem mX8_keep (sh.length, 0) 25 [(0, z_r 0), (1, z_i x1)] [] (sh, w3) Q
    refine z_aload_n 0 dX8_keep_25 rfl rfl ?_
    refine z_getR (r := 114) zfRX8_36 dX8_keep_26 hh0.1 rfl ?_
    refine z_getR (r := 116) zfRX8_230 dX8_keep_29 hh0.2.2.2.2.2.1.1 rfl ?_
    refine z_iload_n 1 dX8_keep_32 rfl rfl ?_
    refine z_iconst dX8_keep_33 (by decide) ?_
    obtain ⟨q5, h⟩ := h
    refine z_zast dX8_keep_34 hh0.2.2.2.2.2.1.2.1 q5 (by decide) ?_
    refine z_genw (fun w4 hw4 => ?_)
    replace h := h w4 hw4
    refine z_aload_n 0 dX8_keep_35 rfl rfl ?_
    refine z_getR (r := 1) zfRX8_12 dX8_keep_36 hh0.1 rfl ?_
    refine z_getI (ki := 11) zfRX8_96 dX8_keep_39 hh0.2.1.1 rfl rfl ?_
    exact z_ret (v := some (z_i (w4 1 11))) dX8_keep_42 ⟨rfl, Or.inl rfl⟩ rfl h
  · replace h := h.1 c1
    refine z_iconst dX8_keep_7 (by decide) ?_
    exact z_ret (v := some (z_i (-1))) dX8_keep_8 ⟨rfl, Or.inl rfl⟩ rfl h
set_option maxRecDepth 100000 in
theorem t_X8_restore {sh : List z_C} {w : Nat → Int → Int} {Q : Option z_V → z_S → Prop} {x1 : Int} (hh0 : z_isTG sh 0) (h : (((f_X8_isSlot w x1) = 0 → Q (some (z_i (-1))) (sh, w)) ∧ (¬ (f_X8_isSlot w x1) = 0 → ((0 : Int) ≤ x1 ∧ x1 < 2) ∧ (((w 116 x1) = 0 → Q (some (z_i (-2))) (sh, w)) ∧ (¬ (w 116 x1) = 0 → z_CV mX0_remember [z_r 24, z_r 1] sh w (fun w4 => ((0 : Int) ≤ x1 ∧ x1 < 2) ∧ z_CV mX3_copyFrom [z_r 1, z_r (117 + 11 * x1.toNat)] sh w4 (fun w6 => z_CV mX2_build [z_r 12, z_r 1, z_i (-1)] sh w6 (fun w7 => Q (some (z_i (w7 1 11))) (sh, w7))))))))) : z_Sem mX8_restore (sh.length, 0) 0 [(0, z_r 0), (1, z_i x1)] [] (sh, w) Q := by
  refine z_iload_n 1 dX8_restore_0 rfl rfl ?_
  refine z_callS (As := [z_i x1]) (rest := []) zmX8_isSlot ztX8_isSlot zlRX8_223 ⟨Nat.le_of_ble_eq_true rfl, Nat.le_of_ble_eq_true rfl⟩ dX8_restore_1 rfl rfl (z_ai z_a0) (Nat.le_of_ble_eq_true rfl) (Nat.le_of_ble_eq_true rfl) ⟨rfl, rfl⟩ ?_
  refine t_X8_isSlot  ?_
  show z_Sem mX8_restore (sh.length, 0) 4 [(0, z_r 0), (1, z_i x1)] [z_i (f_X8_isSlot w x1)] (sh, w) Q
  refine z_if_ne (tgt := 9) dX8_restore_4 (by decide) (fun c1 => ?_) (fun c1 => ?_)
  · replace h := h.2 c1
    refine z_aload_n 0 dX8_restore_9 rfl rfl ?_
    refine z_getR (r := 114) zfRX8_36 dX8_restore_10 hh0.1 rfl ?_
    refine z_getR (r := 116) zfRX8_230 dX8_restore_13 hh0.2.2.2.2.2.1.1 rfl ?_
    refine z_iload_n 1 dX8_restore_16 rfl rfl ?_
    obtain ⟨q2, h⟩ := h
    refine z_zald dX8_restore_17 hh0.2.2.2.2.2.1.2.1 q2 ?_
    refine z_if_ne (tgt := 24) dX8_restore_18 (by decide) (fun c3 => ?_) (fun c3 => ?_)
    · replace h := h.2 c3
      refine z_aload_n 0 dX8_restore_24 rfl rfl ?_
      refine z_getR (r := 24) zfRX8_29 dX8_restore_25 hh0.1 rfl ?_
      refine z_aload_n 0 dX8_restore_28 rfl rfl ?_
      refine z_getR (r := 1) zfRX8_12 dX8_restore_29 hh0.1 rfl ?_
      refine z_callV (As := [z_r 1]) (rest := []) zmX0_remember znX0_remember zsX0_remember (show z_Cl[0]? = some (RX0, TX0, 3) from rfl) zlRX8_105 ⟨Nat.le_of_ble_eq_true rfl, Nat.le_of_ble_eq_true rfl⟩ dX8_restore_32 hh0.2.2.2.2.1.1 rfl rfl (z_ar z_a0) (Nat.le_of_ble_eq_true rfl) (Nat.le_of_ble_eq_true rfl) ⟨rfl, rfl⟩ (z_CVm h ?_)
      intro w4 h
      show z_Sem mX8_restore (sh.length, 0) 35 [(0, z_r 0), (1, z_i x1)] [] (sh, w4) Q
      refine z_aload_n 0 dX8_restore_35 rfl rfl ?_
      refine z_getR (r := 1) zfRX8_12 dX8_restore_36 hh0.1 rfl ?_
      refine z_aload_n 0 dX8_restore_39 rfl rfl ?_
      refine z_getR (r := 114) zfRX8_36 dX8_restore_40 hh0.1 rfl ?_
      refine z_getR (r := 115) zfRX8_226 dX8_restore_43 hh0.2.2.2.2.2.1.1 rfl ?_
      refine z_iload_n 1 dX8_restore_46 rfl rfl ?_
      obtain ⟨q5, h⟩ := h
      refine z_aald (r := (117 + 11 * x1.toNat)) dX8_restore_47 hh0.2.2.2.2.2.1.2.2.1 q5.1 (z_ral (k := (x1).toNat) (by omega)) ?_
      refine z_callV (As := [z_r (117 + 11 * x1.toNat)]) (rest := []) zmX3_copyFrom znX3_copyFrom zsX3_copyFrom (show z_Cl[3]? = some (RX3, TX3, 12) from rfl) zlRX8_90 ⟨Nat.le_of_ble_eq_true rfl, Nat.le_of_ble_eq_true rfl⟩ dX8_restore_48 hh0.2.1.1 rfl rfl (z_ar z_a0) (Nat.le_of_ble_eq_true rfl) (Nat.le_of_ble_eq_true rfl) ⟨rfl, rfl⟩ (z_CVm h ?_)
      intro w6 h
      show z_Sem mX8_restore (sh.length, 0) 51 [(0, z_r 0), (1, z_i x1)] [] (sh, w6) Q
      refine z_aload_n 0 dX8_restore_51 rfl rfl ?_
      refine z_getR (r := 12) zfRX8_19 dX8_restore_52 hh0.1 rfl ?_
      refine z_aload_n 0 dX8_restore_55 rfl rfl ?_
      refine z_getR (r := 1) zfRX8_12 dX8_restore_56 hh0.1 rfl ?_
      refine z_iconst dX8_restore_59 (by decide) ?_
      refine z_callV (As := [z_r 1, z_i (-1)]) (rest := []) zmX2_build znX2_build zsX2_build (show z_Cl[2]? = some (RX2, TX2, 7) from rfl) zlRX8_66 ⟨Nat.le_of_ble_eq_true rfl, Nat.le_of_ble_eq_true rfl⟩ dX8_restore_60 hh0.2.2.1.1 rfl rfl (z_ar (z_ai z_a0)) (Nat.le_of_ble_eq_true rfl) (Nat.le_of_ble_eq_true rfl) ⟨rfl, rfl⟩ (z_CVm h ?_)
      intro w7 h
      show z_Sem mX8_restore (sh.length, 0) 63 [(0, z_r 0), (1, z_i x1)] [] (sh, w7) Q
      refine z_aload_n 0 dX8_restore_63 rfl rfl ?_
      refine z_getR (r := 1) zfRX8_12 dX8_restore_64 hh0.1 rfl ?_
      refine z_getI (ki := 11) zfRX8_96 dX8_restore_67 hh0.2.1.1 rfl rfl ?_
      exact z_ret (v := some (z_i (w7 1 11))) dX8_restore_70 ⟨rfl, Or.inl rfl⟩ rfl h
    · replace h := h.1 c3
      refine z_bipush dX8_restore_21 (by decide) (by decide) ?_
      exact z_ret (v := some (z_i (-2))) dX8_restore_23 ⟨rfl, Or.inl rfl⟩ rfl h
  · replace h := h.1 c1
    refine z_iconst dX8_restore_7 (by decide) ?_
    exact z_ret (v := some (z_i (-1))) dX8_restore_8 ⟨rfl, Or.inl rfl⟩ rfl h
set_option maxRecDepth 100000 in
theorem t_X8_undo {sh : List z_C} {w : Nat → Int → Int} {Q : Option z_V → z_S → Prop}  (hh0 : z_isTG sh 0) (h : (((w 24 2) = 0 → Q (some (z_i (-1))) (sh, w)) ∧ (¬ (w 24 2) = 0 → z_CV mX0_bringBack [z_r 24, z_r 1] sh w (fun w2 => z_CV mX2_build [z_r 12, z_r 1, z_i (-1)] sh w2 (fun w3 => Q (some (z_i (w3 24 2))) (sh, w3)))))) : z_Sem mX8_undo (sh.length, 0) 0 [(0, z_r 0)] [] (sh, w) Q := by
  refine z_aload_n 0 dX8_undo_0 rfl rfl ?_
  refine z_getR (r := 24) zfRX8_29 dX8_undo_1 hh0.1 rfl ?_
  refine z_getI (ki := 2) zfRX8_233 dX8_undo_4 hh0.2.2.2.2.1.1 rfl rfl ?_
  refine z_if_ne (tgt := 12) dX8_undo_7 (by decide) (fun c1 => ?_) (fun c1 => ?_)
  · replace h := h.2 c1
    refine z_aload_n 0 dX8_undo_12 rfl rfl ?_
    refine z_getR (r := 24) zfRX8_29 dX8_undo_13 hh0.1 rfl ?_
    refine z_aload_n 0 dX8_undo_16 rfl rfl ?_
    refine z_getR (r := 1) zfRX8_12 dX8_undo_17 hh0.1 rfl ?_
    refine z_callV (As := [z_r 1]) (rest := []) zmX0_bringBack znX0_bringBack zsX0_bringBack (show z_Cl[0]? = some (RX0, TX0, 3) from rfl) zlRX8_236 ⟨Nat.le_of_ble_eq_true rfl, Nat.le_of_ble_eq_true rfl⟩ dX8_undo_20 hh0.2.2.2.2.1.1 rfl rfl (z_ar z_a0) (Nat.le_of_ble_eq_true rfl) (Nat.le_of_ble_eq_true rfl) ⟨rfl, rfl⟩ (z_CVm h ?_)
    intro w2 h
    show z_Sem mX8_undo (sh.length, 0) 23 [(0, z_r 0)] [] (sh, w2) Q
    refine z_aload_n 0 dX8_undo_23 rfl rfl ?_
    refine z_getR (r := 12) zfRX8_19 dX8_undo_24 hh0.1 rfl ?_
    refine z_aload_n 0 dX8_undo_27 rfl rfl ?_
    refine z_getR (r := 1) zfRX8_12 dX8_undo_28 hh0.1 rfl ?_
    refine z_iconst dX8_undo_31 (by decide) ?_
    refine z_callV (As := [z_r 1, z_i (-1)]) (rest := []) zmX2_build znX2_build zsX2_build (show z_Cl[2]? = some (RX2, TX2, 7) from rfl) zlRX8_66 ⟨Nat.le_of_ble_eq_true rfl, Nat.le_of_ble_eq_true rfl⟩ dX8_undo_32 hh0.2.2.1.1 rfl rfl (z_ar (z_ai z_a0)) (Nat.le_of_ble_eq_true rfl) (Nat.le_of_ble_eq_true rfl) ⟨rfl, rfl⟩ (z_CVm h ?_)
    intro w3 h
    show z_Sem mX8_undo (sh.length, 0) 35 [(0, z_r 0)] [] (sh, w3) Q
    refine z_aload_n 0 dX8_undo_35 rfl rfl ?_
    refine z_getR (r := 24) zfRX8_29 dX8_undo_36 hh0.1 rfl ?_
    refine z_getI (ki := 2) zfRX8_233 dX8_undo_39 hh0.2.2.2.2.1.1 rfl rfl ?_
    exact z_ret (v := some (z_i (w3 24 2))) dX8_undo_42 ⟨rfl, Or.inl rfl⟩ rfl h
  · replace h := h.1 c1
    refine z_iconst dX8_undo_10 (by decide) ?_
    exact z_ret (v := some (z_i (-1))) dX8_undo_11 ⟨rfl, Or.inl rfl⟩ rfl h
set_option maxRecDepth 100000 in
theorem t_X8_countTight {sh : List z_C} {w : Nat → Int → Int} {Q : Option z_V → z_S → Prop}  (hh0 : z_isTG sh 0) (h : z_Sem mX8_countTight (sh.length, 0) 4 [(0, z_r 0), (1, z_i 0), (2, z_i 0)] [] (sh, w) Q) : z_Sem mX8_countTight (sh.length, 0) 0 [(0, z_r 0)] [] (sh, w) Q := by
  refine z_iconst dX8_countTight_0 (by decide) ?_
  refine z_istore_n (L' := [(1, z_i 0), (0, z_r 0)]) dX8_countTight_1 rfl (by decide) rfl ?_
  refine z_iconst dX8_countTight_2 (by decide) ?_
  refine z_istore_n (L' := [(2, z_i 0), (1, z_i 0), (0, z_r 0)]) dX8_countTight_3 rfl (by decide) rfl ?_
  refine z_sub (L' := [(0, z_r 0), (1, z_i 0), (2, z_i 0)]) [2, 1, 0] rfl ?_
  exact h
set_option maxRecDepth 100000 in
theorem t_X8_countTight_4 {sh : List z_C} {w : Nat → Int → Int} {Q : Option z_V → z_S → Prop} {x1 : Int} {x2 : Int} (hh0 : z_isTG sh 0) (h : (((w 1 11) ≤ x2 → Q (some (z_i x1)) (sh, w)) ∧ (¬ (w 1 11) ≤ x2 → (s_X8_isTight w x2) ∧ (z_R (x1 + (f_X8_asNumber w (f_X8_isTight w x2)))) ∧ ∀ y4 : Int, y4 = (x1 + (f_X8_asNumber w (f_X8_isTight w x2))) → (z_R (x2 + 1)) ∧ z_Sem mX8_countTight (sh.length, 0) 4 [(0, z_r 0), (1, z_i y4), (2, z_i (x2 + 1))] [] (sh, w) Q))) : z_Sem mX8_countTight (sh.length, 0) 4 [(0, z_r 0), (1, z_i x1), (2, z_i x2)] [] (sh, w) Q := by
  refine z_iload_n 2 dX8_countTight_4 rfl rfl ?_
  refine z_aload_n 0 dX8_countTight_5 rfl rfl ?_
  refine z_getR (r := 1) zfRX8_12 dX8_countTight_6 hh0.1 rfl ?_
  refine z_getI (ki := 11) zfRX8_96 dX8_countTight_9 hh0.2.1.1 rfl rfl ?_
  refine z_icmp_ge (tgt := 32) dX8_countTight_12 (by decide) (fun c1 => ?_) (fun c1 => ?_)
  · replace h := h.1 c1
    refine z_iload_n 1 dX8_countTight_32 rfl rfl ?_
    exact z_ret (v := some (z_i x1)) dX8_countTight_33 ⟨rfl, Or.inl rfl⟩ rfl h
  · replace h := h.2 c1
    refine z_iload_n 1 dX8_countTight_15 rfl rfl ?_
    refine z_aload_n 0 dX8_countTight_16 rfl rfl ?_
    refine z_iload_n 2 dX8_countTight_17 rfl rfl ?_
    obtain ⟨q2, h⟩ := h
    refine z_callV (As := [z_i x2]) (rest := [z_i x1]) zmX8_isTight znX8_isTight zsX8_isTight (show z_Cl[8]? = some (RX8, TX8, 9) from rfl) zlRX8_261 ⟨Nat.le_of_ble_eq_true rfl, Nat.le_of_ble_eq_true rfl⟩ dX8_countTight_18 hh0.1 rfl rfl (z_ai z_a0) (Nat.le_of_ble_eq_true rfl) (Nat.le_of_ble_eq_true rfl) ⟨rfl, rfl⟩ ?_
    refine t_X8_isTight hh0 q2 ?_
    show z_Sem mX8_countTight (sh.length, 0) 21 [(0, z_r 0), (1, z_i x1), (2, z_i x2)] [z_i (f_X8_isTight w x2), z_i x1] (sh, w) Q
    refine z_callS (As := [z_i (f_X8_isTight w x2)]) (rest := [z_i x1]) zmX8_asNumber ztX8_asNumber zlRX8_159 ⟨Nat.le_of_ble_eq_true rfl, Nat.le_of_ble_eq_true rfl⟩ dX8_countTight_21 rfl rfl (z_ai z_a0) (Nat.le_of_ble_eq_true rfl) (Nat.le_of_ble_eq_true rfl) ⟨rfl, rfl⟩ ?_
    refine t_X8_asNumber  ?_
    show z_Sem mX8_countTight (sh.length, 0) 24 [(0, z_r 0), (1, z_i x1), (2, z_i x2)] [z_i (f_X8_asNumber w (f_X8_isTight w x2)), z_i x1] (sh, w) Q
    obtain ⟨q3, h⟩ := h
    refine z_iadd dX8_countTight_24 q3 ?_
    refine z_nam (fun y4 hy4 => ?_)
    replace h := h y4 hy4
    refine z_istore_n (L' := [(1, z_i y4), (0, z_r 0), (2, z_i x2)]) dX8_countTight_25 rfl (by decide) rfl ?_
    obtain ⟨q5, h⟩ := h
    refine z_iinc (L' := [(2, z_i (x2 + 1)), (1, z_i y4), (0, z_r 0)]) 2 dX8_countTight_26 rfl (by decide) rfl q5 ?_
    refine z_goto (tgt := 4) dX8_countTight_29 (by decide) ?_
    refine z_sub (L' := [(0, z_r 0), (1, z_i y4), (2, z_i (x2 + 1))]) [2, 1, 0] rfl ?_
    exact h
set_option maxRecDepth 100000 in
theorem t_X8_countNeeded {sh : List z_C} {w : Nat → Int → Int} {Q : Option z_V → z_S → Prop}  (hh0 : z_isTG sh 0) (h : z_Sem mX8_countNeeded (sh.length, 0) 4 [(0, z_r 0), (1, z_i 0), (2, z_i 0)] [] (sh, w) Q) : z_Sem mX8_countNeeded (sh.length, 0) 0 [(0, z_r 0)] [] (sh, w) Q := by
  refine z_iconst dX8_countNeeded_0 (by decide) ?_
  refine z_istore_n (L' := [(1, z_i 0), (0, z_r 0)]) dX8_countNeeded_1 rfl (by decide) rfl ?_
  refine z_iconst dX8_countNeeded_2 (by decide) ?_
  refine z_istore_n (L' := [(2, z_i 0), (1, z_i 0), (0, z_r 0)]) dX8_countNeeded_3 rfl (by decide) rfl ?_
  refine z_sub (L' := [(0, z_r 0), (1, z_i 0), (2, z_i 0)]) [2, 1, 0] rfl ?_
  exact h
set_option maxRecDepth 100000 in
theorem t_X8_countNeeded_4 {sh : List z_C} {w : Nat → Int → Int} {Q : Option z_V → z_S → Prop} {x1 : Int} {x2 : Int} (hh0 : z_isTG sh 0) (h : (((w 1 11) ≤ x2 → Q (some (z_i x1)) (sh, w)) ∧ (¬ (w 1 11) ≤ x2 → z_CI mX8_isNeeded [z_r 0, z_i x2] sh w (fun y3 w2 => (z_R (x1 + (f_X8_asNumber w2 y3))) ∧ ∀ y5 : Int, y5 = (x1 + (f_X8_asNumber w2 y3)) → (z_R (x2 + 1)) ∧ z_Sem mX8_countNeeded (sh.length, 0) 4 [(0, z_r 0), (1, z_i y5), (2, z_i (x2 + 1))] [] (sh, w2) Q)))) : z_Sem mX8_countNeeded (sh.length, 0) 4 [(0, z_r 0), (1, z_i x1), (2, z_i x2)] [] (sh, w) Q := by
  refine z_iload_n 2 dX8_countNeeded_4 rfl rfl ?_
  refine z_aload_n 0 dX8_countNeeded_5 rfl rfl ?_
  refine z_getR (r := 1) zfRX8_12 dX8_countNeeded_6 hh0.1 rfl ?_
  refine z_getI (ki := 11) zfRX8_96 dX8_countNeeded_9 hh0.2.1.1 rfl rfl ?_
  refine z_icmp_ge (tgt := 32) dX8_countNeeded_12 (by decide) (fun c1 => ?_) (fun c1 => ?_)
  · replace h := h.1 c1
    refine z_iload_n 1 dX8_countNeeded_32 rfl rfl ?_
    exact z_ret (v := some (z_i x1)) dX8_countNeeded_33 ⟨rfl, Or.inl rfl⟩ rfl h
  · replace h := h.2 c1
    refine z_iload_n 1 dX8_countNeeded_15 rfl rfl ?_
    refine z_aload_n 0 dX8_countNeeded_16 rfl rfl ?_
    refine z_iload_n 2 dX8_countNeeded_17 rfl rfl ?_
    refine z_callV (As := [z_i x2]) (rest := [z_i x1]) zmX8_isNeeded znX8_isNeeded zsX8_isNeeded (show z_Cl[8]? = some (RX8, TX8, 9) from rfl) zlRX8_264 ⟨Nat.le_of_ble_eq_true rfl, Nat.le_of_ble_eq_true rfl⟩ dX8_countNeeded_18 hh0.1 rfl rfl (z_ai z_a0) (Nat.le_of_ble_eq_true rfl) (Nat.le_of_ble_eq_true rfl) ⟨rfl, rfl⟩ (z_CIm h ?_)
    intro y3 w2 h
    show z_Sem mX8_countNeeded (sh.length, 0) 21 [(0, z_r 0), (1, z_i x1), (2, z_i x2)] [z_i y3, z_i x1] (sh, w2) Q
    refine z_callS (As := [z_i y3]) (rest := [z_i x1]) zmX8_asNumber ztX8_asNumber zlRX8_159 ⟨Nat.le_of_ble_eq_true rfl, Nat.le_of_ble_eq_true rfl⟩ dX8_countNeeded_21 rfl rfl (z_ai z_a0) (Nat.le_of_ble_eq_true rfl) (Nat.le_of_ble_eq_true rfl) ⟨rfl, rfl⟩ ?_
    refine t_X8_asNumber  ?_
    show z_Sem mX8_countNeeded (sh.length, 0) 24 [(0, z_r 0), (1, z_i x1), (2, z_i x2)] [z_i (f_X8_asNumber w2 y3), z_i x1] (sh, w2) Q
    obtain ⟨q4, h⟩ := h
    refine z_iadd dX8_countNeeded_24 q4 ?_
    refine z_nam (fun y5 hy5 => ?_)
    replace h := h y5 hy5
    refine z_istore_n (L' := [(1, z_i y5), (0, z_r 0), (2, z_i x2)]) dX8_countNeeded_25 rfl (by decide) rfl ?_
    obtain ⟨q6, h⟩ := h
    refine z_iinc (L' := [(2, z_i (x2 + 1)), (1, z_i y5), (0, z_r 0)]) 2 dX8_countNeeded_26 rfl (by decide) rfl q6 ?_
    refine z_goto (tgt := 4) dX8_countNeeded_29 (by decide) ?_
    refine z_sub (L' := [(0, z_r 0), (1, z_i y5), (2, z_i (x2 + 1))]) [2, 1, 0] rfl ?_
    exact h
set_option maxRecDepth 100000 in
theorem t_X8_value {sh : List z_C} {w : Nat → Int → Int} {Q : Option z_V → z_S → Prop} {x1 : Int} (hh0 : z_isTG sh 0) (h : ((x1 = 0 → Q (some (z_i (w 1 9))) (sh, w)) ∧ (x1 = 1 → Q (some (z_i (w 1 10))) (sh, w)) ∧ (x1 = 2 → Q (some (z_i (w 1 11))) (sh, w)) ∧ (x1 = 3 → z_CI mX3_countOn [z_r 1] sh w (fun y3 w2 => Q (some (z_i y3)) (sh, w2))) ∧ (x1 = 4 → z_CI mX3_countPinned [z_r 1] sh w (fun y5 w4 => Q (some (z_i y5)) (sh, w4))) ∧ (x1 = 5 → Q (some (z_i (w 12 5))) (sh, w)) ∧ (x1 = 6 → z_CI mX8_countTight [z_r 0] sh w (fun y7 w6 => Q (some (z_i y7)) (sh, w6))) ∧ (x1 = 7 → z_CI mX8_countNeeded [z_r 0] sh w (fun y9 w8 => Q (some (z_i y9)) (sh, w8))) ∧ (x1 = 8 → z_CI mX2_countSettled [z_r 12] sh w (fun y11 w10 => Q (some (z_i y11)) (sh, w10))) ∧ (x1 = 9 → z_CI mX2_greatestEarliest [z_r 12] sh w (fun y13 w12 => Q (some (z_i y13)) (sh, w12))) ∧ (x1 = 10 → z_CI mX2_room [z_r 12] sh w (fun y15 w14 => Q (some (z_i y15)) (sh, w14))) ∧ (x1 = 11 → Q (some (z_i (w 10 2))) (sh, w)) ∧ (x1 = 12 → Q (some (z_i (w 24 2))) (sh, w)) ∧ (x1 < 0 ∨ 12 < x1 → Q (some (z_i (-1))) (sh, w)))) : z_Sem mX8_value (sh.length, 0) 0 [(0, z_r 0), (1, z_i x1)] [] (sh, w) Q := by
  refine z_iload_n 1 dX8_value_0 rfl rfl ?_
  refine z_tab (tgd := 169) dX8_value_1 (by decide) (fun c1a c1b => ?_) (fun c1 => ?_)
  · rcases (show x1 = 0 ∨ x1 = 1 ∨ x1 = 2 ∨ x1 = 3 ∨ x1 = 4 ∨ x1 = 5 ∨ x1 = 6 ∨ x1 = 7 ∨ x1 = 8 ∨ x1 = 9 ∨ x1 = 10 ∨ x1 = 11 ∨ x1 = 12 by omega) with c1 | c1 | c1 | c1 | c1 | c1 | c1 | c1 | c1 | c1 | c1 | c1 | c1
    · replace h := h.1 c1
      refine ⟨67, 68, by rw [c1]; rfl, by decide, ?_⟩
      refine z_aload_n 0 dX8_value_68 rfl rfl ?_
      refine z_getR (r := 1) zfRX8_12 dX8_value_69 hh0.1 rfl ?_
      refine z_getI (ki := 9) zfRX8_185 dX8_value_72 hh0.2.1.1 rfl rfl ?_
      exact z_ret (v := some (z_i (w 1 9))) dX8_value_75 ⟨rfl, Or.inl rfl⟩ rfl h
    · replace h := h.2.1 c1
      refine ⟨75, 76, by rw [c1]; rfl, by decide, ?_⟩
      refine z_aload_n 0 dX8_value_76 rfl rfl ?_
      refine z_getR (r := 1) zfRX8_12 dX8_value_77 hh0.1 rfl ?_
      refine z_getI (ki := 10) zfRX8_102 dX8_value_80 hh0.2.1.1 rfl rfl ?_
      exact z_ret (v := some (z_i (w 1 10))) dX8_value_83 ⟨rfl, Or.inl rfl⟩ rfl h
    · replace h := h.2.2.1 c1
      refine ⟨83, 84, by rw [c1]; rfl, by decide, ?_⟩
      refine z_aload_n 0 dX8_value_84 rfl rfl ?_
      refine z_getR (r := 1) zfRX8_12 dX8_value_85 hh0.1 rfl ?_
      refine z_getI (ki := 11) zfRX8_96 dX8_value_88 hh0.2.1.1 rfl rfl ?_
      exact z_ret (v := some (z_i (w 1 11))) dX8_value_91 ⟨rfl, Or.inl rfl⟩ rfl h
    · replace h := h.2.2.2.1 c1
      refine ⟨91, 92, by rw [c1]; rfl, by decide, ?_⟩
      refine z_aload_n 0 dX8_value_92 rfl rfl ?_
      refine z_getR (r := 1) zfRX8_12 dX8_value_93 hh0.1 rfl ?_
      refine z_callV (As := []) (rest := []) zmX3_countOn znX3_countOn zsX3_countOn (show z_Cl[3]? = some (RX3, TX3, 12) from rfl) zlRX8_239 ⟨Nat.le_of_ble_eq_true rfl, Nat.le_of_ble_eq_true rfl⟩ dX8_value_96 hh0.2.1.1 rfl rfl z_a0 (Nat.le_of_ble_eq_true rfl) (Nat.le_of_ble_eq_true rfl) ⟨rfl, rfl⟩ (z_CIm h ?_)
      intro y3 w2 h
      show z_Sem mX8_value (sh.length, 0) 99 [(0, z_r 0), (1, z_i x1)] [z_i y3] (sh, w2) Q
      exact z_ret (v := some (z_i y3)) dX8_value_99 ⟨rfl, Or.inl rfl⟩ rfl h
    · replace h := h.2.2.2.2.1 c1
      refine ⟨99, 100, by rw [c1]; rfl, by decide, ?_⟩
      refine z_aload_n 0 dX8_value_100 rfl rfl ?_
      refine z_getR (r := 1) zfRX8_12 dX8_value_101 hh0.1 rfl ?_
      refine z_callV (As := []) (rest := []) zmX3_countPinned znX3_countPinned zsX3_countPinned (show z_Cl[3]? = some (RX3, TX3, 12) from rfl) zlRX8_179 ⟨Nat.le_of_ble_eq_true rfl, Nat.le_of_ble_eq_true rfl⟩ dX8_value_104 hh0.2.1.1 rfl rfl z_a0 (Nat.le_of_ble_eq_true rfl) (Nat.le_of_ble_eq_true rfl) ⟨rfl, rfl⟩ (z_CIm h ?_)
      intro y5 w4 h
      show z_Sem mX8_value (sh.length, 0) 107 [(0, z_r 0), (1, z_i x1)] [z_i y5] (sh, w4) Q
      exact z_ret (v := some (z_i y5)) dX8_value_107 ⟨rfl, Or.inl rfl⟩ rfl h
    · replace h := h.2.2.2.2.2.1 c1
      refine ⟨107, 108, by rw [c1]; rfl, by decide, ?_⟩
      refine z_aload_n 0 dX8_value_108 rfl rfl ?_
      refine z_getR (r := 12) zfRX8_19 dX8_value_109 hh0.1 rfl ?_
      refine z_getI (ki := 5) zfRX8_242 dX8_value_112 hh0.2.2.1.1 rfl rfl ?_
      exact z_ret (v := some (z_i (w 12 5))) dX8_value_115 ⟨rfl, Or.inl rfl⟩ rfl h
    · replace h := h.2.2.2.2.2.2.1 c1
      refine ⟨115, 116, by rw [c1]; rfl, by decide, ?_⟩
      refine z_aload_n 0 dX8_value_116 rfl rfl ?_
      refine z_callV (As := []) (rest := []) zmX8_countTight znX8_countTight zsX8_countTight (show z_Cl[8]? = some (RX8, TX8, 9) from rfl) zlRX8_245 ⟨Nat.le_of_ble_eq_true rfl, Nat.le_of_ble_eq_true rfl⟩ dX8_value_117 hh0.1 rfl rfl z_a0 (Nat.le_of_ble_eq_true rfl) (Nat.le_of_ble_eq_true rfl) ⟨rfl, rfl⟩ (z_CIm h ?_)
      intro y7 w6 h
      show z_Sem mX8_value (sh.length, 0) 120 [(0, z_r 0), (1, z_i x1)] [z_i y7] (sh, w6) Q
      exact z_ret (v := some (z_i y7)) dX8_value_120 ⟨rfl, Or.inl rfl⟩ rfl h
    · replace h := h.2.2.2.2.2.2.2.1 c1
      refine ⟨120, 121, by rw [c1]; rfl, by decide, ?_⟩
      refine z_aload_n 0 dX8_value_121 rfl rfl ?_
      refine z_callV (As := []) (rest := []) zmX8_countNeeded znX8_countNeeded zsX8_countNeeded (show z_Cl[8]? = some (RX8, TX8, 9) from rfl) zlRX8_248 ⟨Nat.le_of_ble_eq_true rfl, Nat.le_of_ble_eq_true rfl⟩ dX8_value_122 hh0.1 rfl rfl z_a0 (Nat.le_of_ble_eq_true rfl) (Nat.le_of_ble_eq_true rfl) ⟨rfl, rfl⟩ (z_CIm h ?_)
      intro y9 w8 h
      show z_Sem mX8_value (sh.length, 0) 125 [(0, z_r 0), (1, z_i x1)] [z_i y9] (sh, w8) Q
      exact z_ret (v := some (z_i y9)) dX8_value_125 ⟨rfl, Or.inl rfl⟩ rfl h
    · replace h := h.2.2.2.2.2.2.2.2.1 c1
      refine ⟨125, 126, by rw [c1]; rfl, by decide, ?_⟩
      refine z_aload_n 0 dX8_value_126 rfl rfl ?_
      refine z_getR (r := 12) zfRX8_19 dX8_value_127 hh0.1 rfl ?_
      refine z_callV (As := []) (rest := []) zmX2_countSettled znX2_countSettled zsX2_countSettled (show z_Cl[2]? = some (RX2, TX2, 7) from rfl) zlRX8_251 ⟨Nat.le_of_ble_eq_true rfl, Nat.le_of_ble_eq_true rfl⟩ dX8_value_130 hh0.2.2.1.1 rfl rfl z_a0 (Nat.le_of_ble_eq_true rfl) (Nat.le_of_ble_eq_true rfl) ⟨rfl, rfl⟩ (z_CIm h ?_)
      intro y11 w10 h
      show z_Sem mX8_value (sh.length, 0) 133 [(0, z_r 0), (1, z_i x1)] [z_i y11] (sh, w10) Q
      exact z_ret (v := some (z_i y11)) dX8_value_133 ⟨rfl, Or.inl rfl⟩ rfl h
    · replace h := h.2.2.2.2.2.2.2.2.2.1 c1
      refine ⟨133, 134, by rw [c1]; rfl, by decide, ?_⟩
      refine z_aload_n 0 dX8_value_134 rfl rfl ?_
      refine z_getR (r := 12) zfRX8_19 dX8_value_135 hh0.1 rfl ?_
      refine z_callV (As := []) (rest := []) zmX2_greatestEarliest znX2_greatestEarliest zsX2_greatestEarliest (show z_Cl[2]? = some (RX2, TX2, 7) from rfl) zlRX8_188 ⟨Nat.le_of_ble_eq_true rfl, Nat.le_of_ble_eq_true rfl⟩ dX8_value_138 hh0.2.2.1.1 rfl rfl z_a0 (Nat.le_of_ble_eq_true rfl) (Nat.le_of_ble_eq_true rfl) ⟨rfl, rfl⟩ (z_CIm h ?_)
      intro y13 w12 h
      show z_Sem mX8_value (sh.length, 0) 141 [(0, z_r 0), (1, z_i x1)] [z_i y13] (sh, w12) Q
      exact z_ret (v := some (z_i y13)) dX8_value_141 ⟨rfl, Or.inl rfl⟩ rfl h
    · replace h := h.2.2.2.2.2.2.2.2.2.2.1 c1
      refine ⟨141, 142, by rw [c1]; rfl, by decide, ?_⟩
      refine z_aload_n 0 dX8_value_142 rfl rfl ?_
      refine z_getR (r := 12) zfRX8_19 dX8_value_143 hh0.1 rfl ?_
      refine z_callV (As := []) (rest := []) zmX2_room znX2_room zsX2_room (show z_Cl[2]? = some (RX2, TX2, 7) from rfl) zlRX8_214 ⟨Nat.le_of_ble_eq_true rfl, Nat.le_of_ble_eq_true rfl⟩ dX8_value_146 hh0.2.2.1.1 rfl rfl z_a0 (Nat.le_of_ble_eq_true rfl) (Nat.le_of_ble_eq_true rfl) ⟨rfl, rfl⟩ (z_CIm h ?_)
      intro y15 w14 h
      show z_Sem mX8_value (sh.length, 0) 149 [(0, z_r 0), (1, z_i x1)] [z_i y15] (sh, w14) Q
      exact z_ret (v := some (z_i y15)) dX8_value_149 ⟨rfl, Or.inl rfl⟩ rfl h
    · replace h := h.2.2.2.2.2.2.2.2.2.2.2.1 c1
      refine ⟨149, 150, by rw [c1]; rfl, by decide, ?_⟩
      refine z_aload_n 0 dX8_value_150 rfl rfl ?_
      refine z_getR (r := 1) zfRX8_12 dX8_value_151 hh0.1 rfl ?_
      refine z_getR (r := 10) zfRX8_124 dX8_value_154 hh0.2.1.1 rfl ?_
      refine z_getI (ki := 2) zfRX8_254 dX8_value_157 hh0.2.1.2.2.2.2.2.2.2.2.2.1 rfl rfl ?_
      exact z_ret (v := some (z_i (w 10 2))) dX8_value_160 ⟨rfl, Or.inl rfl⟩ rfl h
    · replace h := h.2.2.2.2.2.2.2.2.2.2.2.2.1 c1
      refine ⟨160, 161, by rw [c1]; rfl, by decide, ?_⟩
      refine z_aload_n 0 dX8_value_161 rfl rfl ?_
      refine z_getR (r := 24) zfRX8_29 dX8_value_162 hh0.1 rfl ?_
      refine z_getI (ki := 2) zfRX8_233 dX8_value_165 hh0.2.2.2.2.1.1 rfl rfl ?_
      exact z_ret (v := some (z_i (w 24 2))) dX8_value_168 ⟨rfl, Or.inl rfl⟩ rfl h
  · replace h := h.2.2.2.2.2.2.2.2.2.2.2.2.2 c1
    refine z_iconst dX8_value_169 (by decide) ?_
    exact z_ret (v := some (z_i (-1))) dX8_value_170 ⟨rfl, Or.inl rfl⟩ rfl h
def f_X8_letter (w : Nat → Int → Int) (x1 : Int) (x2 : Int) : Int := if (f_X8_isEvent w x1) = 0 then -1 else if 0 ≤ x2 then (if x2 < (w 3 x1) then ((f_X3_letterOf w 1 x1 x2) - 97) + 1 else -2) else -1
def s_X8_letter (w : Nat → Int → Int) (x1 : Int) (x2 : Int) : Prop := (¬ (f_X8_isEvent w x1) = 0 → (0 ≤ x2 → ((0 : Int) ≤ x1 ∧ x1 < 10) ∧ (x2 < (w 3 x1) → (s_X3_letterOf w 1 x1 x2) ∧ (z_R ((f_X3_letterOf w 1 x1 x2) - 97)) ∧ (z_R (((f_X3_letterOf w 1 x1 x2) - 97) + 1)) ∧ True) ∧ True) ∧ True) ∧ True
set_option maxRecDepth 100000 in
theorem t_X8_letter {sh : List z_C} {w : Nat → Int → Int} {Q : Option z_V → z_S → Prop} {x1 : Int} {x2 : Int} (hh0 : z_isTG sh 0) (hs : s_X8_letter w x1 x2) (h : Q (some (z_i (f_X8_letter w x1 x2))) (sh, w)) : z_Sem mX8_letter (sh.length, 0) 0 [(0, z_r 0), (1, z_i x1), (2, z_i x2)] [] (sh, w) Q := by
  unfold f_X8_letter at h
  unfold s_X8_letter at hs
  refine z_aload_n 0 dX8_letter_0 rfl rfl ?_
  refine z_iload_n 1 dX8_letter_1 rfl rfl ?_
  refine z_callV (As := [z_i x1]) (rest := []) zmX8_isEvent znX8_isEvent zsX8_isEvent (show z_Cl[8]? = some (RX8, TX8, 9) from rfl) zlRX8_163 ⟨Nat.le_of_ble_eq_true rfl, Nat.le_of_ble_eq_true rfl⟩ dX8_letter_2 hh0.1 rfl rfl (z_ai z_a0) (Nat.le_of_ble_eq_true rfl) (Nat.le_of_ble_eq_true rfl) ⟨rfl, rfl⟩ ?_
  refine t_X8_isEvent hh0 ?_
  show z_Sem mX8_letter (sh.length, 0) 5 [(0, z_r 0), (1, z_i x1), (2, z_i x2)] [z_i (f_X8_isEvent w x1)] (sh, w) Q
  obtain ⟨m10, hs⟩ := hs
  refine z_if_eq (tgt := 12) dX8_letter_5 (by decide) (fun c1 => ?_) (fun c1 => ?_)
  · skip
    rw [if_pos c1] at h
    refine z_iconst dX8_letter_12 (by decide) ?_
    exact z_ret (v := some (z_i (-1))) dX8_letter_13 ⟨rfl, Or.inl rfl⟩ rfl h
  · skip
    rw [if_neg c1] at h
    replace hs := m10 c1
    refine z_iload_n 2 dX8_letter_8 rfl rfl ?_
    obtain ⟨m9, hs⟩ := hs
    refine z_if_ge (tgt := 14) dX8_letter_9 (by decide) (fun c2 => ?_) (fun c2 => ?_)
    · skip
      rw [if_pos c2] at h
      replace hs := m9 c2
      refine z_iload_n 2 dX8_letter_14 rfl rfl ?_
      refine z_aload_n 0 dX8_letter_15 rfl rfl ?_
      refine z_getR (r := 1) zfRX8_12 dX8_letter_16 hh0.1 rfl ?_
      refine z_getR (r := 3) zfRX8_255 dX8_letter_19 hh0.2.1.1 rfl ?_
      refine z_iload_n 1 dX8_letter_22 rfl rfl ?_
      obtain ⟨q3, hs⟩ := hs
      refine z_iald dX8_letter_23 hh0.2.1.2.2.1 q3 ?_
      obtain ⟨m8, hs⟩ := hs
      refine z_icmp_lt (tgt := 30) dX8_letter_24 (by decide) (fun c4 => ?_) (fun c4 => ?_)
      · skip
        rw [if_pos c4] at h
        replace hs := m8 c4
        refine z_aload_n 0 dX8_letter_30 rfl rfl ?_
        refine z_getR (r := 1) zfRX8_12 dX8_letter_31 hh0.1 rfl ?_
        refine z_iload_n 1 dX8_letter_34 rfl rfl ?_
        refine z_iload_n 2 dX8_letter_35 rfl rfl ?_
        obtain ⟨q5, hs⟩ := hs
        refine z_callV (As := [z_i x1, z_i x2]) (rest := []) zmX3_letterOf znX3_letterOf zsX3_letterOf (show z_Cl[3]? = some (RX3, TX3, 12) from rfl) zlRX8_258 ⟨Nat.le_of_ble_eq_true rfl, Nat.le_of_ble_eq_true rfl⟩ dX8_letter_36 hh0.2.1.1 rfl rfl (z_ai (z_ai z_a0)) (Nat.le_of_ble_eq_true rfl) (Nat.le_of_ble_eq_true rfl) ⟨rfl, rfl⟩ ?_
        refine t_X3_letterOf hh0.2.1 q5 ?_
        show z_Sem mX8_letter (sh.length, 0) 39 [(0, z_r 0), (1, z_i x1), (2, z_i x2)] [z_i (f_X3_letterOf w 1 x1 x2)] (sh, w) Q
        refine z_bipush dX8_letter_39 (by decide) (by decide) ?_
        obtain ⟨q6, hs⟩ := hs
        refine z_isub dX8_letter_41 q6 ?_
        refine z_iconst dX8_letter_42 (by decide) ?_
        obtain ⟨q7, hs⟩ := hs
        refine z_iadd dX8_letter_43 q7 ?_
        exact z_ret (v := some (z_i (((f_X3_letterOf w 1 x1 x2) - 97) + 1))) dX8_letter_44 ⟨rfl, Or.inl rfl⟩ rfl h
      · skip
        rw [if_neg c4] at h
        refine z_bipush dX8_letter_27 (by decide) (by decide) ?_
        exact z_ret (v := some (z_i (-2))) dX8_letter_29 ⟨rfl, Or.inl rfl⟩ rfl h
    · skip
      rw [if_neg c2] at h
      refine z_iconst dX8_letter_12 (by decide) ?_
      exact z_ret (v := some (z_i (-1))) dX8_letter_13 ⟨rfl, Or.inl rfl⟩ rfl h
set_option maxRecDepth 100000 in
theorem t_X8_gap {sh : List z_C} {w : Nat → Int → Int} {Q : Option z_V → z_S → Prop} {x1 : Int} {x2 : Int} (hh0 : z_isTG sh 0) (h : (((f_X8_isGap w x1) = 0 → Q (some (z_i (-1))) (sh, w)) ∧ (¬ (f_X8_isGap w x1) = 0 → ((x2 = 0 → ((0 : Int) ≤ x1 ∧ x1 < 24) ∧ Q (some (z_i (w 5 x1))) (sh, w)) ∧ (x2 = 1 → ((0 : Int) ≤ x1 ∧ x1 < 24) ∧ Q (some (z_i (w 6 x1))) (sh, w)) ∧ (x2 = 2 → ((0 : Int) ≤ x1 ∧ x1 < 24) ∧ Q (some (z_i (w 7 x1))) (sh, w)) ∧ (x2 = 3 → ((0 : Int) ≤ x1 ∧ x1 < 24) ∧ Q (some (z_i (w 8 x1))) (sh, w)) ∧ (x2 = 4 → ((0 : Int) ≤ x1 ∧ x1 < 24) ∧ Q (some (z_i (f_X8_asNumber w (w 9 x1)))) (sh, w)) ∧ (x2 = 5 → (s_X8_isTight w x1) ∧ Q (some (z_i (f_X8_asNumber w (f_X8_isTight w x1)))) (sh, w)) ∧ (x2 = 6 → z_CI mX8_isNeeded [z_r 0, z_i x1] sh w (fun y10 w9 => Q (some (z_i (f_X8_asNumber w9 y10))) (sh, w9))) ∧ (x2 = 7 → ((0 : Int) ≤ x1 ∧ x1 < 24) ∧ (¬ (w 9 x1) = 0 → (s_X8_lengthOf w x1) ∧ (s_X8_boundOf w x1) ∧ (z_R ((f_X8_lengthOf w x1) - (f_X8_boundOf w x1))) ∧ True) ∧ Q (some (z_i (if (w 9 x1) = 0 then 0 else (f_X8_lengthOf w x1) - (f_X8_boundOf w x1)))) (sh, w)) ∧ (x2 < 0 ∨ 7 < x2 → Q (some (z_i (-1))) (sh, w)))))) : z_Sem mX8_gap (sh.length, 0) 0 [(0, z_r 0), (1, z_i x1), (2, z_i x2)] [] (sh, w) Q := by
  refine z_aload_n 0 dX8_gap_0 rfl rfl ?_
  refine z_iload_n 1 dX8_gap_1 rfl rfl ?_
  refine z_callV (As := [z_i x1]) (rest := []) zmX8_isGap znX8_isGap zsX8_isGap (show z_Cl[8]? = some (RX8, TX8, 9) from rfl) zlRX8_137 ⟨Nat.le_of_ble_eq_true rfl, Nat.le_of_ble_eq_true rfl⟩ dX8_gap_2 hh0.1 rfl rfl (z_ai z_a0) (Nat.le_of_ble_eq_true rfl) (Nat.le_of_ble_eq_true rfl) ⟨rfl, rfl⟩ ?_
  refine t_X8_isGap hh0 ?_
  show z_Sem mX8_gap (sh.length, 0) 5 [(0, z_r 0), (1, z_i x1), (2, z_i x2)] [z_i (f_X8_isGap w x1)] (sh, w) Q
  refine z_if_ne (tgt := 10) dX8_gap_5 (by decide) (fun c1 => ?_) (fun c1 => ?_)
  · replace h := h.2 c1
    refine z_iload_n 2 dX8_gap_10 rfl rfl ?_
    refine z_tab (tgd := 155) dX8_gap_11 (by decide) (fun c2a c2b => ?_) (fun c2 => ?_)
    · rcases (show x2 = 0 ∨ x2 = 1 ∨ x2 = 2 ∨ x2 = 3 ∨ x2 = 4 ∨ x2 = 5 ∨ x2 = 6 ∨ x2 = 7 by omega) with c2 | c2 | c2 | c2 | c2 | c2 | c2 | c2
      · replace h := h.1 c2
        refine ⟨45, 56, by rw [c2]; rfl, by decide, ?_⟩
        refine z_aload_n 0 dX8_gap_56 rfl rfl ?_
        refine z_getR (r := 1) zfRX8_12 dX8_gap_57 hh0.1 rfl ?_
        refine z_getR (r := 5) zfRX8_195 dX8_gap_60 hh0.2.1.1 rfl ?_
        refine z_iload_n 1 dX8_gap_63 rfl rfl ?_
        obtain ⟨q3, h⟩ := h
        refine z_iald dX8_gap_64 hh0.2.1.2.2.2.2.1 q3 ?_
        exact z_ret (v := some (z_i (w 5 x1))) dX8_gap_65 ⟨rfl, Or.inl rfl⟩ rfl h
      · replace h := h.2.1 c2
        refine ⟨55, 66, by rw [c2]; rfl, by decide, ?_⟩
        refine z_aload_n 0 dX8_gap_66 rfl rfl ?_
        refine z_getR (r := 1) zfRX8_12 dX8_gap_67 hh0.1 rfl ?_
        refine z_getR (r := 6) zfRX8_198 dX8_gap_70 hh0.2.1.1 rfl ?_
        refine z_iload_n 1 dX8_gap_73 rfl rfl ?_
        obtain ⟨q4, h⟩ := h
        refine z_iald dX8_gap_74 hh0.2.1.2.2.2.2.2.1 q4 ?_
        exact z_ret (v := some (z_i (w 6 x1))) dX8_gap_75 ⟨rfl, Or.inl rfl⟩ rfl h
      · replace h := h.2.2.1 c2
        refine ⟨65, 76, by rw [c2]; rfl, by decide, ?_⟩
        refine z_aload_n 0 dX8_gap_76 rfl rfl ?_
        refine z_getR (r := 1) zfRX8_12 dX8_gap_77 hh0.1 rfl ?_
        refine z_getR (r := 7) zfRX8_204 dX8_gap_80 hh0.2.1.1 rfl ?_
        refine z_iload_n 1 dX8_gap_83 rfl rfl ?_
        obtain ⟨q5, h⟩ := h
        refine z_iald dX8_gap_84 hh0.2.1.2.2.2.2.2.2.1 q5 ?_
        exact z_ret (v := some (z_i (w 7 x1))) dX8_gap_85 ⟨rfl, Or.inl rfl⟩ rfl h
      · replace h := h.2.2.2.1 c2
        refine ⟨75, 86, by rw [c2]; rfl, by decide, ?_⟩
        refine z_aload_n 0 dX8_gap_86 rfl rfl ?_
        refine z_getR (r := 1) zfRX8_12 dX8_gap_87 hh0.1 rfl ?_
        refine z_getR (r := 8) zfRX8_141 dX8_gap_90 hh0.2.1.1 rfl ?_
        refine z_iload_n 1 dX8_gap_93 rfl rfl ?_
        obtain ⟨q6, h⟩ := h
        refine z_iald dX8_gap_94 hh0.2.1.2.2.2.2.2.2.2.1 q6 ?_
        exact z_ret (v := some (z_i (w 8 x1))) dX8_gap_95 ⟨rfl, Or.inl rfl⟩ rfl h
      · replace h := h.2.2.2.2.1 c2
        refine ⟨85, 96, by rw [c2]; rfl, by decide, ?_⟩
        refine z_aload_n 0 dX8_gap_96 rfl rfl ?_
        refine z_getR (r := 1) zfRX8_12 dX8_gap_97 hh0.1 rfl ?_
        refine z_getR (r := 9) zfRX8_151 dX8_gap_100 hh0.2.1.1 rfl ?_
        refine z_iload_n 1 dX8_gap_103 rfl rfl ?_
        obtain ⟨q7, h⟩ := h
        refine z_zald dX8_gap_104 hh0.2.1.2.2.2.2.2.2.2.2.1 q7 ?_
        refine z_callS (As := [z_i (w 9 x1)]) (rest := []) zmX8_asNumber ztX8_asNumber zlRX8_159 ⟨Nat.le_of_ble_eq_true rfl, Nat.le_of_ble_eq_true rfl⟩ dX8_gap_105 rfl rfl (z_ai z_a0) (Nat.le_of_ble_eq_true rfl) (Nat.le_of_ble_eq_true rfl) ⟨rfl, rfl⟩ ?_
        refine t_X8_asNumber  ?_
        show z_Sem mX8_gap (sh.length, 0) 108 [(0, z_r 0), (1, z_i x1), (2, z_i x2)] [z_i (f_X8_asNumber w (w 9 x1))] (sh, w) Q
        exact z_ret (v := some (z_i (f_X8_asNumber w (w 9 x1)))) dX8_gap_108 ⟨rfl, Or.inl rfl⟩ rfl h
      · replace h := h.2.2.2.2.2.1 c2
        refine ⟨98, 109, by rw [c2]; rfl, by decide, ?_⟩
        refine z_aload_n 0 dX8_gap_109 rfl rfl ?_
        refine z_iload_n 1 dX8_gap_110 rfl rfl ?_
        obtain ⟨q8, h⟩ := h
        refine z_callV (As := [z_i x1]) (rest := []) zmX8_isTight znX8_isTight zsX8_isTight (show z_Cl[8]? = some (RX8, TX8, 9) from rfl) zlRX8_261 ⟨Nat.le_of_ble_eq_true rfl, Nat.le_of_ble_eq_true rfl⟩ dX8_gap_111 hh0.1 rfl rfl (z_ai z_a0) (Nat.le_of_ble_eq_true rfl) (Nat.le_of_ble_eq_true rfl) ⟨rfl, rfl⟩ ?_
        refine t_X8_isTight hh0 q8 ?_
        show z_Sem mX8_gap (sh.length, 0) 114 [(0, z_r 0), (1, z_i x1), (2, z_i x2)] [z_i (f_X8_isTight w x1)] (sh, w) Q
        refine z_callS (As := [z_i (f_X8_isTight w x1)]) (rest := []) zmX8_asNumber ztX8_asNumber zlRX8_159 ⟨Nat.le_of_ble_eq_true rfl, Nat.le_of_ble_eq_true rfl⟩ dX8_gap_114 rfl rfl (z_ai z_a0) (Nat.le_of_ble_eq_true rfl) (Nat.le_of_ble_eq_true rfl) ⟨rfl, rfl⟩ ?_
        refine t_X8_asNumber  ?_
        show z_Sem mX8_gap (sh.length, 0) 117 [(0, z_r 0), (1, z_i x1), (2, z_i x2)] [z_i (f_X8_asNumber w (f_X8_isTight w x1))] (sh, w) Q
        exact z_ret (v := some (z_i (f_X8_asNumber w (f_X8_isTight w x1)))) dX8_gap_117 ⟨rfl, Or.inl rfl⟩ rfl h
      · replace h := h.2.2.2.2.2.2.1 c2
        refine ⟨107, 118, by rw [c2]; rfl, by decide, ?_⟩
        refine z_aload_n 0 dX8_gap_118 rfl rfl ?_
        refine z_iload_n 1 dX8_gap_119 rfl rfl ?_
        refine z_callV (As := [z_i x1]) (rest := []) zmX8_isNeeded znX8_isNeeded zsX8_isNeeded (show z_Cl[8]? = some (RX8, TX8, 9) from rfl) zlRX8_264 ⟨Nat.le_of_ble_eq_true rfl, Nat.le_of_ble_eq_true rfl⟩ dX8_gap_120 hh0.1 rfl rfl (z_ai z_a0) (Nat.le_of_ble_eq_true rfl) (Nat.le_of_ble_eq_true rfl) ⟨rfl, rfl⟩ (z_CIm h ?_)
        intro y10 w9 h
        show z_Sem mX8_gap (sh.length, 0) 123 [(0, z_r 0), (1, z_i x1), (2, z_i x2)] [z_i y10] (sh, w9) Q
        refine z_callS (As := [z_i y10]) (rest := []) zmX8_asNumber ztX8_asNumber zlRX8_159 ⟨Nat.le_of_ble_eq_true rfl, Nat.le_of_ble_eq_true rfl⟩ dX8_gap_123 rfl rfl (z_ai z_a0) (Nat.le_of_ble_eq_true rfl) (Nat.le_of_ble_eq_true rfl) ⟨rfl, rfl⟩ ?_
        refine t_X8_asNumber  ?_
        show z_Sem mX8_gap (sh.length, 0) 126 [(0, z_r 0), (1, z_i x1), (2, z_i x2)] [z_i (f_X8_asNumber w9 y10)] (sh, w9) Q
        exact z_ret (v := some (z_i (f_X8_asNumber w9 y10))) dX8_gap_126 ⟨rfl, Or.inl rfl⟩ rfl h
      · replace h := h.2.2.2.2.2.2.2.1 c2
        refine ⟨116, 127, by rw [c2]; rfl, by decide, ?_⟩
        refine z_aload_n 0 dX8_gap_127 rfl rfl ?_
        refine z_getR (r := 1) zfRX8_12 dX8_gap_128 hh0.1 rfl ?_
        refine z_getR (r := 9) zfRX8_151 dX8_gap_131 hh0.2.1.1 rfl ?_
        refine z_iload_n 1 dX8_gap_134 rfl rfl ?_
        obtain ⟨q11, h⟩ := h
        refine z_zald dX8_gap_135 hh0.2.1.2.2.2.2.2.2.2.2.1 q11 ?_
        obtain ⟨m14, h⟩ := h
        suffices hJ12 : z_Sem mX8_gap (sh.length, 0) 154 [] [z_i (if (w 9 x1) = 0 then 0 else (f_X8_lengthOf w x1) - (f_X8_boundOf w x1))] (sh, w) Q by
          refine z_if_eq (tgt := 153) dX8_gap_136 (by decide) (fun c13 => ?_) (fun c13 => ?_)
          · skip
            refine z_iconst dX8_gap_153 (by decide) ?_
            refine z_sub (L' := []) [] rfl ?_
            simp only [if_pos c13] at hJ12
            exact hJ12
          · skip
            have ho16 := m14 c13
            refine z_aload_n 0 dX8_gap_139 rfl rfl ?_
            refine z_iload_n 1 dX8_gap_140 rfl rfl ?_
            obtain ⟨q17, ho16⟩ := ho16
            refine z_callV (As := [z_i x1]) (rest := []) zmX8_lengthOf znX8_lengthOf zsX8_lengthOf (show z_Cl[8]? = some (RX8, TX8, 9) from rfl) zlRX8_267 ⟨Nat.le_of_ble_eq_true rfl, Nat.le_of_ble_eq_true rfl⟩ dX8_gap_141 hh0.1 rfl rfl (z_ai z_a0) (Nat.le_of_ble_eq_true rfl) (Nat.le_of_ble_eq_true rfl) ⟨rfl, rfl⟩ ?_
            refine t_X8_lengthOf hh0 q17 ?_
            show z_Sem mX8_gap (sh.length, 0) 144 [(0, z_r 0), (1, z_i x1), (2, z_i x2)] [z_i (f_X8_lengthOf w x1)] (sh, w) Q
            refine z_aload_n 0 dX8_gap_144 rfl rfl ?_
            refine z_iload_n 1 dX8_gap_145 rfl rfl ?_
            obtain ⟨q18, ho16⟩ := ho16
            refine z_callV (As := [z_i x1]) (rest := [z_i (f_X8_lengthOf w x1)]) zmX8_boundOf znX8_boundOf zsX8_boundOf (show z_Cl[8]? = some (RX8, TX8, 9) from rfl) zlRX8_270 ⟨Nat.le_of_ble_eq_true rfl, Nat.le_of_ble_eq_true rfl⟩ dX8_gap_146 hh0.1 rfl rfl (z_ai z_a0) (Nat.le_of_ble_eq_true rfl) (Nat.le_of_ble_eq_true rfl) ⟨rfl, rfl⟩ ?_
            refine t_X8_boundOf hh0 q18 ?_
            show z_Sem mX8_gap (sh.length, 0) 149 [(0, z_r 0), (1, z_i x1), (2, z_i x2)] [z_i (f_X8_boundOf w x1), z_i (f_X8_lengthOf w x1)] (sh, w) Q
            obtain ⟨q19, ho16⟩ := ho16
            refine z_isub dX8_gap_149 q19 ?_
            refine z_goto (tgt := 154) dX8_gap_150 (by decide) ?_
            refine z_sub (L' := []) [] rfl ?_
            simp only [if_neg c13] at hJ12
            exact hJ12
        exact z_ret (v := some (z_i (if (w 9 x1) = 0 then 0 else (f_X8_lengthOf w x1) - (f_X8_boundOf w x1)))) dX8_gap_154 ⟨rfl, Or.inl rfl⟩ rfl h
    · replace h := h.2.2.2.2.2.2.2.2 c2
      refine z_iconst dX8_gap_155 (by decide) ?_
      exact z_ret (v := some (z_i (-1))) dX8_gap_156 ⟨rfl, Or.inl rfl⟩ rfl h
  · replace h := h.1 c1
    refine z_iconst dX8_gap_8 (by decide) ?_
    exact z_ret (v := some (z_i (-1))) dX8_gap_9 ⟨rfl, Or.inl rfl⟩ rfl h
set_option maxRecDepth 100000 in
theorem t_X8_event {sh : List z_C} {w : Nat → Int → Int} {Q : Option z_V → z_S → Prop} {x1 : Int} {x2 : Int} (hh0 : z_isTG sh 0) (h : (((f_X8_isEvent w x1) = 0 → Q (some (z_i (-1))) (sh, w)) ∧ (¬ (f_X8_isEvent w x1) = 0 → ((x2 = 0 → (s_X2_earliest w 12 x1) ∧ Q (some (z_i (f_X2_earliest w 12 x1))) (sh, w)) ∧ (x2 = 1 → (s_X2_latest w 12 x1) ∧ Q (some (z_i (f_X2_latest w 12 x1))) (sh, w)) ∧ (x2 = 2 → (s_X2_possibleTimes w 12 x1) ∧ Q (some (z_i (f_X2_possibleTimes w 12 x1))) (sh, w)) ∧ (x2 = 3 → (s_X3_isPinned w 1 x1) ∧ (¬ (f_X3_isPinned w 1 x1) = 0 → ((0 : Int) ≤ x1 ∧ x1 < 10) ∧ True) ∧ Q (some (z_i (if (f_X3_isPinned w 1 x1) = 0 then -2 else w 4 x1))) (sh, w)) ∧ (x2 = 4 → z_CI mX3_countOnOf [z_r 1, z_i x1] sh w (fun y14 w13 => Q (some (z_i y14)) (sh, w13))) ∧ (x2 < 0 ∨ 4 < x2 → Q (some (z_i (-1))) (sh, w)))))) : z_Sem mX8_event (sh.length, 0) 0 [(0, z_r 0), (1, z_i x1), (2, z_i x2)] [] (sh, w) Q := by
  refine z_aload_n 0 dX8_event_0 rfl rfl ?_
  refine z_iload_n 1 dX8_event_1 rfl rfl ?_
  refine z_callV (As := [z_i x1]) (rest := []) zmX8_isEvent znX8_isEvent zsX8_isEvent (show z_Cl[8]? = some (RX8, TX8, 9) from rfl) zlRX8_163 ⟨Nat.le_of_ble_eq_true rfl, Nat.le_of_ble_eq_true rfl⟩ dX8_event_2 hh0.1 rfl rfl (z_ai z_a0) (Nat.le_of_ble_eq_true rfl) (Nat.le_of_ble_eq_true rfl) ⟨rfl, rfl⟩ ?_
  refine t_X8_isEvent hh0 ?_
  show z_Sem mX8_event (sh.length, 0) 5 [(0, z_r 0), (1, z_i x1), (2, z_i x2)] [z_i (f_X8_isEvent w x1)] (sh, w) Q
  refine z_if_ne (tgt := 10) dX8_event_5 (by decide) (fun c1 => ?_) (fun c1 => ?_)
  · replace h := h.2 c1
    refine z_iload_n 2 dX8_event_10 rfl rfl ?_
    refine z_tab (tgd := 106) dX8_event_11 (by decide) (fun c2a c2b => ?_) (fun c2 => ?_)
    · rcases (show x2 = 0 ∨ x2 = 1 ∨ x2 = 2 ∨ x2 = 3 ∨ x2 = 4 by omega) with c2 | c2 | c2 | c2 | c2
      · replace h := h.1 c2
        refine ⟨33, 44, by rw [c2]; rfl, by decide, ?_⟩
        refine z_aload_n 0 dX8_event_44 rfl rfl ?_
        refine z_getR (r := 12) zfRX8_19 dX8_event_45 hh0.1 rfl ?_
        refine z_iload_n 1 dX8_event_48 rfl rfl ?_
        obtain ⟨q3, h⟩ := h
        refine z_callV (As := [z_i x1]) (rest := []) zmX2_earliest znX2_earliest zsX2_earliest (show z_Cl[2]? = some (RX2, TX2, 7) from rfl) zlRX8_220 ⟨Nat.le_of_ble_eq_true rfl, Nat.le_of_ble_eq_true rfl⟩ dX8_event_49 hh0.2.2.1.1 rfl rfl (z_ai z_a0) (Nat.le_of_ble_eq_true rfl) (Nat.le_of_ble_eq_true rfl) ⟨rfl, rfl⟩ ?_
        refine t_X2_earliest hh0.2.2.1 q3 ?_
        show z_Sem mX8_event (sh.length, 0) 52 [(0, z_r 0), (1, z_i x1), (2, z_i x2)] [z_i (f_X2_earliest w 12 x1)] (sh, w) Q
        exact z_ret (v := some (z_i (f_X2_earliest w 12 x1))) dX8_event_52 ⟨rfl, Or.inl rfl⟩ rfl h
      · replace h := h.2.1 c2
        refine ⟨42, 53, by rw [c2]; rfl, by decide, ?_⟩
        refine z_aload_n 0 dX8_event_53 rfl rfl ?_
        refine z_getR (r := 12) zfRX8_19 dX8_event_54 hh0.1 rfl ?_
        refine z_iload_n 1 dX8_event_57 rfl rfl ?_
        obtain ⟨q4, h⟩ := h
        refine z_callV (As := [z_i x1]) (rest := []) zmX2_latest znX2_latest zsX2_latest (show z_Cl[2]? = some (RX2, TX2, 7) from rfl) zlRX8_273 ⟨Nat.le_of_ble_eq_true rfl, Nat.le_of_ble_eq_true rfl⟩ dX8_event_58 hh0.2.2.1.1 rfl rfl (z_ai z_a0) (Nat.le_of_ble_eq_true rfl) (Nat.le_of_ble_eq_true rfl) ⟨rfl, rfl⟩ ?_
        refine t_X2_latest hh0.2.2.1 q4 ?_
        show z_Sem mX8_event (sh.length, 0) 61 [(0, z_r 0), (1, z_i x1), (2, z_i x2)] [z_i (f_X2_latest w 12 x1)] (sh, w) Q
        exact z_ret (v := some (z_i (f_X2_latest w 12 x1))) dX8_event_61 ⟨rfl, Or.inl rfl⟩ rfl h
      · replace h := h.2.2.1 c2
        refine ⟨51, 62, by rw [c2]; rfl, by decide, ?_⟩
        refine z_aload_n 0 dX8_event_62 rfl rfl ?_
        refine z_getR (r := 12) zfRX8_19 dX8_event_63 hh0.1 rfl ?_
        refine z_iload_n 1 dX8_event_66 rfl rfl ?_
        obtain ⟨q5, h⟩ := h
        refine z_callV (As := [z_i x1]) (rest := []) zmX2_possibleTimes znX2_possibleTimes zsX2_possibleTimes (show z_Cl[2]? = some (RX2, TX2, 7) from rfl) zlRX8_276 ⟨Nat.le_of_ble_eq_true rfl, Nat.le_of_ble_eq_true rfl⟩ dX8_event_67 hh0.2.2.1.1 rfl rfl (z_ai z_a0) (Nat.le_of_ble_eq_true rfl) (Nat.le_of_ble_eq_true rfl) ⟨rfl, rfl⟩ ?_
        refine t_X2_possibleTimes hh0.2.2.1 q5 ?_
        show z_Sem mX8_event (sh.length, 0) 70 [(0, z_r 0), (1, z_i x1), (2, z_i x2)] [z_i (f_X2_possibleTimes w 12 x1)] (sh, w) Q
        exact z_ret (v := some (z_i (f_X2_possibleTimes w 12 x1))) dX8_event_70 ⟨rfl, Or.inl rfl⟩ rfl h
      · replace h := h.2.2.2.1 c2
        refine ⟨60, 71, by rw [c2]; rfl, by decide, ?_⟩
        refine z_aload_n 0 dX8_event_71 rfl rfl ?_
        refine z_getR (r := 1) zfRX8_12 dX8_event_72 hh0.1 rfl ?_
        refine z_iload_n 1 dX8_event_75 rfl rfl ?_
        obtain ⟨q6, h⟩ := h
        refine z_callV (As := [z_i x1]) (rest := []) zmX3_isPinned znX3_isPinned zsX3_isPinned (show z_Cl[3]? = some (RX3, TX3, 12) from rfl) zlRX8_182 ⟨Nat.le_of_ble_eq_true rfl, Nat.le_of_ble_eq_true rfl⟩ dX8_event_76 hh0.2.1.1 rfl rfl (z_ai z_a0) (Nat.le_of_ble_eq_true rfl) (Nat.le_of_ble_eq_true rfl) ⟨rfl, rfl⟩ ?_
        refine t_X3_isPinned hh0.2.1 q6 ?_
        show z_Sem mX8_event (sh.length, 0) 79 [(0, z_r 0), (1, z_i x1), (2, z_i x2)] [z_i (f_X3_isPinned w 1 x1)] (sh, w) Q
        obtain ⟨m9, h⟩ := h
        suffices hJ7 : z_Sem mX8_event (sh.length, 0) 96 [] [z_i (if (f_X3_isPinned w 1 x1) = 0 then -2 else w 4 x1)] (sh, w) Q by
          refine z_if_eq (tgt := 94) dX8_event_79 (by decide) (fun c8 => ?_) (fun c8 => ?_)
          · skip
            refine z_bipush dX8_event_94 (by decide) (by decide) ?_
            refine z_sub (L' := []) [] rfl ?_
            simp only [if_pos c8] at hJ7
            exact hJ7
          · skip
            have ho11 := m9 c8
            refine z_aload_n 0 dX8_event_82 rfl rfl ?_
            refine z_getR (r := 1) zfRX8_12 dX8_event_83 hh0.1 rfl ?_
            refine z_getR (r := 4) zfRX8_176 dX8_event_86 hh0.2.1.1 rfl ?_
            refine z_iload_n 1 dX8_event_89 rfl rfl ?_
            obtain ⟨q12, ho11⟩ := ho11
            refine z_iald dX8_event_90 hh0.2.1.2.2.2.1 q12 ?_
            refine z_goto (tgt := 96) dX8_event_91 (by decide) ?_
            refine z_sub (L' := []) [] rfl ?_
            simp only [if_neg c8] at hJ7
            exact hJ7
        exact z_ret (v := some (z_i (if (f_X3_isPinned w 1 x1) = 0 then -2 else w 4 x1))) dX8_event_96 ⟨rfl, Or.inl rfl⟩ rfl h
      · replace h := h.2.2.2.2.1 c2
        refine ⟨86, 97, by rw [c2]; rfl, by decide, ?_⟩
        refine z_aload_n 0 dX8_event_97 rfl rfl ?_
        refine z_getR (r := 1) zfRX8_12 dX8_event_98 hh0.1 rfl ?_
        refine z_iload_n 1 dX8_event_101 rfl rfl ?_
        refine z_callV (As := [z_i x1]) (rest := []) zmX3_countOnOf znX3_countOnOf zsX3_countOnOf (show z_Cl[3]? = some (RX3, TX3, 12) from rfl) zlRX8_279 ⟨Nat.le_of_ble_eq_true rfl, Nat.le_of_ble_eq_true rfl⟩ dX8_event_102 hh0.2.1.1 rfl rfl (z_ai z_a0) (Nat.le_of_ble_eq_true rfl) (Nat.le_of_ble_eq_true rfl) ⟨rfl, rfl⟩ (z_CIm h ?_)
        intro y14 w13 h
        show z_Sem mX8_event (sh.length, 0) 105 [(0, z_r 0), (1, z_i x1), (2, z_i x2)] [z_i y14] (sh, w13) Q
        exact z_ret (v := some (z_i y14)) dX8_event_105 ⟨rfl, Or.inl rfl⟩ rfl h
    · replace h := h.2.2.2.2.2 c2
      refine z_iconst dX8_event_106 (by decide) ?_
      exact z_ret (v := some (z_i (-1))) dX8_event_107 ⟨rfl, Or.inl rfl⟩ rfl h
  · replace h := h.1 c1
    refine z_iconst dX8_event_8 (by decide) ?_
    exact z_ret (v := some (z_i (-1))) dX8_event_9 ⟨rfl, Or.inl rfl⟩ rfl h
def f_X8_bound (w : Nat → Int → Int) (x1 : Int) (x2 : Int) : Int := if (f_X8_isEvent w x1) = 0 then -100000 else if (f_X8_isEvent w x2) = 0 then -100000 else f_X2_between w 12 x1 x2
def s_X8_bound (w : Nat → Int → Int) (x1 : Int) (x2 : Int) : Prop := (¬ (f_X8_isEvent w x1) = 0 → (¬ (f_X8_isEvent w x2) = 0 → (s_X2_between w 12 x1 x2) ∧ True) ∧ True) ∧ True
set_option maxRecDepth 100000 in
theorem t_X8_bound {sh : List z_C} {w : Nat → Int → Int} {Q : Option z_V → z_S → Prop} {x1 : Int} {x2 : Int} (hh0 : z_isTG sh 0) (hs : s_X8_bound w x1 x2) (h : Q (some (z_i (f_X8_bound w x1 x2))) (sh, w)) : z_Sem mX8_bound (sh.length, 0) 0 [(0, z_r 0), (1, z_i x1), (2, z_i x2)] [] (sh, w) Q := by
  unfold f_X8_bound at h
  unfold s_X8_bound at hs
  refine z_aload_n 0 dX8_bound_0 rfl rfl ?_
  refine z_iload_n 1 dX8_bound_1 rfl rfl ?_
  refine z_callV (As := [z_i x1]) (rest := []) zmX8_isEvent znX8_isEvent zsX8_isEvent (show z_Cl[8]? = some (RX8, TX8, 9) from rfl) zlRX8_163 ⟨Nat.le_of_ble_eq_true rfl, Nat.le_of_ble_eq_true rfl⟩ dX8_bound_2 hh0.1 rfl rfl (z_ai z_a0) (Nat.le_of_ble_eq_true rfl) (Nat.le_of_ble_eq_true rfl) ⟨rfl, rfl⟩ ?_
  refine t_X8_isEvent hh0 ?_
  show z_Sem mX8_bound (sh.length, 0) 5 [(0, z_r 0), (1, z_i x1), (2, z_i x2)] [z_i (f_X8_isEvent w x1)] (sh, w) Q
  obtain ⟨m3, hs⟩ := hs
  suffices hJ1 : z_Sem mX8_bound (sh.length, 0) 31 [] [z_i (if (f_X8_isEvent w x1) = 0 then -100000 else if (f_X8_isEvent w x2) = 0 then -100000 else f_X2_between w 12 x1 x2)] (sh, w) Q by
    refine z_if_eq (tgt := 28) dX8_bound_5 (by decide) (fun c2 => ?_) (fun c2 => ?_)
    · skip
      refine z_ldcw (n := -100000) zkRX8_285 dX8_bound_28 (by decide) (by decide) ?_
      refine z_sub (L' := []) [] rfl ?_
      simp only [if_pos c2] at hJ1
      exact hJ1
    · skip
      have ho5 := m3 c2
      refine z_aload_n 0 dX8_bound_8 rfl rfl ?_
      refine z_iload_n 2 dX8_bound_9 rfl rfl ?_
      refine z_callV (As := [z_i x2]) (rest := []) zmX8_isEvent znX8_isEvent zsX8_isEvent (show z_Cl[8]? = some (RX8, TX8, 9) from rfl) zlRX8_163 ⟨Nat.le_of_ble_eq_true rfl, Nat.le_of_ble_eq_true rfl⟩ dX8_bound_10 hh0.1 rfl rfl (z_ai z_a0) (Nat.le_of_ble_eq_true rfl) (Nat.le_of_ble_eq_true rfl) ⟨rfl, rfl⟩ ?_
      refine t_X8_isEvent hh0 ?_
      show z_Sem mX8_bound (sh.length, 0) 13 [(0, z_r 0), (1, z_i x1), (2, z_i x2)] [z_i (f_X8_isEvent w x2)] (sh, w) Q
      obtain ⟨m8, ho5⟩ := ho5
      suffices hJ6 : z_Sem mX8_bound (sh.length, 0) 31 [] [z_i (if (f_X8_isEvent w x2) = 0 then -100000 else f_X2_between w 12 x1 x2)] (sh, w) Q by
        refine z_if_eq (tgt := 28) dX8_bound_13 (by decide) (fun c7 => ?_) (fun c7 => ?_)
        · skip
          refine z_ldcw (n := -100000) zkRX8_285 dX8_bound_28 (by decide) (by decide) ?_
          refine z_sub (L' := []) [] rfl ?_
          simp only [if_pos c7] at hJ6
          exact hJ6
        · skip
          have ho10 := m8 c7
          refine z_aload_n 0 dX8_bound_16 rfl rfl ?_
          refine z_getR (r := 12) zfRX8_19 dX8_bound_17 hh0.1 rfl ?_
          refine z_iload_n 1 dX8_bound_20 rfl rfl ?_
          refine z_iload_n 2 dX8_bound_21 rfl rfl ?_
          obtain ⟨q11, ho10⟩ := ho10
          refine z_callV (As := [z_i x1, z_i x2]) (rest := []) zmX2_between znX2_between zsX2_between (show z_Cl[2]? = some (RX2, TX2, 7) from rfl) zlRX8_282 ⟨Nat.le_of_ble_eq_true rfl, Nat.le_of_ble_eq_true rfl⟩ dX8_bound_22 hh0.2.2.1.1 rfl rfl (z_ai (z_ai z_a0)) (Nat.le_of_ble_eq_true rfl) (Nat.le_of_ble_eq_true rfl) ⟨rfl, rfl⟩ ?_
          refine t_X2_between hh0.2.2.1 q11 ?_
          show z_Sem mX8_bound (sh.length, 0) 25 [(0, z_r 0), (1, z_i x1), (2, z_i x2)] [z_i (f_X2_between w 12 x1 x2)] (sh, w) Q
          refine z_goto (tgt := 31) dX8_bound_25 (by decide) ?_
          refine z_sub (L' := []) [] rfl ?_
          simp only [if_neg c7] at hJ6
          exact hJ6
      simp only [if_neg c2] at hJ1
      exact hJ1
  exact z_ret (v := some (z_i (if (f_X8_isEvent w x1) = 0 then -100000 else if (f_X8_isEvent w x2) = 0 then -100000 else f_X2_between w 12 x1 x2))) dX8_bound_31 ⟨rfl, Or.inl rfl⟩ rfl h
set_option maxRecDepth 100000 in
theorem t_X8_way {sh : List z_C} {w : Nat → Int → Int} {Q : Option z_V → z_S → Prop} {x1 : Int} {x2 : Int} {x3 : Int} (hh0 : z_isTG sh 0) (h : (((f_X8_areTwoEvents w x1 x2) = 0 → Q (some (z_i (-1))) (sh, w)) ∧ (¬ (f_X8_areTwoEvents w x1 x2) = 0 → ((0 ≤ x3 → z_CI mX2_stepOfWay [z_r 12, z_i x1, z_i x2, z_i x3] sh w (fun y4 w3 => Q (some (z_i y4)) (sh, w3))) ∧ (¬ 0 ≤ x3 → Q (some (z_i (-1))) (sh, w)))))) : z_Sem mX8_way (sh.length, 0) 0 [(0, z_r 0), (1, z_i x1), (2, z_i x2), (3, z_i x3)] [] (sh, w) Q := by
  refine z_aload_n 0 dX8_way_0 rfl rfl ?_
  refine z_iload_n 1 dX8_way_1 rfl rfl ?_
  refine z_iload_n 2 dX8_way_2 rfl rfl ?_
  refine z_callV (As := [z_i x1, z_i x2]) (rest := []) zmX8_areTwoEvents znX8_areTwoEvents zsX8_areTwoEvents (show z_Cl[8]? = some (RX8, TX8, 9) from rfl) zlRX8_286 ⟨Nat.le_of_ble_eq_true rfl, Nat.le_of_ble_eq_true rfl⟩ dX8_way_3 hh0.1 rfl rfl (z_ai (z_ai z_a0)) (Nat.le_of_ble_eq_true rfl) (Nat.le_of_ble_eq_true rfl) ⟨rfl, rfl⟩ ?_
  refine t_X8_areTwoEvents hh0 ?_
  show z_Sem mX8_way (sh.length, 0) 6 [(0, z_r 0), (1, z_i x1), (2, z_i x2), (3, z_i x3)] [z_i (f_X8_areTwoEvents w x1 x2)] (sh, w) Q
  refine z_if_eq (tgt := 13) dX8_way_6 (by decide) (fun c1 => ?_) (fun c1 => ?_)
  · replace h := h.1 c1
    refine z_iconst dX8_way_13 (by decide) ?_
    exact z_ret (v := some (z_i (-1))) dX8_way_14 ⟨rfl, Or.inl rfl⟩ rfl h
  · replace h := h.2 c1
    refine z_iload_n 3 dX8_way_9 rfl rfl ?_
    refine z_if_ge (tgt := 15) dX8_way_10 (by decide) (fun c2 => ?_) (fun c2 => ?_)
    · replace h := h.1 c2
      refine z_aload_n 0 dX8_way_15 rfl rfl ?_
      refine z_getR (r := 12) zfRX8_19 dX8_way_16 hh0.1 rfl ?_
      refine z_iload_n 1 dX8_way_19 rfl rfl ?_
      refine z_iload_n 2 dX8_way_20 rfl rfl ?_
      refine z_iload_n 3 dX8_way_21 rfl rfl ?_
      refine z_callV (As := [z_i x1, z_i x2, z_i x3]) (rest := []) zmX2_stepOfWay znX2_stepOfWay zsX2_stepOfWay (show z_Cl[2]? = some (RX2, TX2, 7) from rfl) zlRX8_289 ⟨Nat.le_of_ble_eq_true rfl, Nat.le_of_ble_eq_true rfl⟩ dX8_way_22 hh0.2.2.1.1 rfl rfl (z_ai (z_ai (z_ai z_a0))) (Nat.le_of_ble_eq_true rfl) (Nat.le_of_ble_eq_true rfl) ⟨rfl, rfl⟩ (z_CIm h ?_)
      intro y4 w3 h
      show z_Sem mX8_way (sh.length, 0) 25 [(0, z_r 0), (1, z_i x1), (2, z_i x2), (3, z_i x3)] [z_i y4] (sh, w3) Q
      exact z_ret (v := some (z_i y4)) dX8_way_25 ⟨rfl, Or.inl rfl⟩ rfl h
    · replace h := h.2 c2
      refine z_iconst dX8_way_13 (by decide) ?_
      exact z_ret (v := some (z_i (-1))) dX8_way_14 ⟨rfl, Or.inl rfl⟩ rfl h
def f_X8_wayLength (w : Nat → Int → Int) (x1 : Int) (x2 : Int) : Int := if (f_X8_areTwoEvents w x1 x2) = 0 then -1 else f_X2_stepsBetween w 12 x1 x2
def s_X8_wayLength (w : Nat → Int → Int) (x1 : Int) (x2 : Int) : Prop := (¬ (f_X8_areTwoEvents w x1 x2) = 0 → (s_X2_stepsBetween w 12 x1 x2) ∧ True) ∧ True
set_option maxRecDepth 100000 in
theorem t_X8_wayLength {sh : List z_C} {w : Nat → Int → Int} {Q : Option z_V → z_S → Prop} {x1 : Int} {x2 : Int} (hh0 : z_isTG sh 0) (hs : s_X8_wayLength w x1 x2) (h : Q (some (z_i (f_X8_wayLength w x1 x2))) (sh, w)) : z_Sem mX8_wayLength (sh.length, 0) 0 [(0, z_r 0), (1, z_i x1), (2, z_i x2)] [] (sh, w) Q := by
  unfold f_X8_wayLength at h
  unfold s_X8_wayLength at hs
  refine z_aload_n 0 dX8_wayLength_0 rfl rfl ?_
  refine z_iload_n 1 dX8_wayLength_1 rfl rfl ?_
  refine z_iload_n 2 dX8_wayLength_2 rfl rfl ?_
  refine z_callV (As := [z_i x1, z_i x2]) (rest := []) zmX8_areTwoEvents znX8_areTwoEvents zsX8_areTwoEvents (show z_Cl[8]? = some (RX8, TX8, 9) from rfl) zlRX8_286 ⟨Nat.le_of_ble_eq_true rfl, Nat.le_of_ble_eq_true rfl⟩ dX8_wayLength_3 hh0.1 rfl rfl (z_ai (z_ai z_a0)) (Nat.le_of_ble_eq_true rfl) (Nat.le_of_ble_eq_true rfl) ⟨rfl, rfl⟩ ?_
  refine t_X8_areTwoEvents hh0 ?_
  show z_Sem mX8_wayLength (sh.length, 0) 6 [(0, z_r 0), (1, z_i x1), (2, z_i x2)] [z_i (f_X8_areTwoEvents w x1 x2)] (sh, w) Q
  obtain ⟨m3, hs⟩ := hs
  suffices hJ1 : z_Sem mX8_wayLength (sh.length, 0) 22 [] [z_i (if (f_X8_areTwoEvents w x1 x2) = 0 then -1 else f_X2_stepsBetween w 12 x1 x2)] (sh, w) Q by
    refine z_if_eq (tgt := 21) dX8_wayLength_6 (by decide) (fun c2 => ?_) (fun c2 => ?_)
    · skip
      refine z_iconst dX8_wayLength_21 (by decide) ?_
      refine z_sub (L' := []) [] rfl ?_
      simp only [if_pos c2] at hJ1
      exact hJ1
    · skip
      have ho5 := m3 c2
      refine z_aload_n 0 dX8_wayLength_9 rfl rfl ?_
      refine z_getR (r := 12) zfRX8_19 dX8_wayLength_10 hh0.1 rfl ?_
      refine z_iload_n 1 dX8_wayLength_13 rfl rfl ?_
      refine z_iload_n 2 dX8_wayLength_14 rfl rfl ?_
      obtain ⟨q6, ho5⟩ := ho5
      refine z_callV (As := [z_i x1, z_i x2]) (rest := []) zmX2_stepsBetween znX2_stepsBetween zsX2_stepsBetween (show z_Cl[2]? = some (RX2, TX2, 7) from rfl) zlRX8_293 ⟨Nat.le_of_ble_eq_true rfl, Nat.le_of_ble_eq_true rfl⟩ dX8_wayLength_15 hh0.2.2.1.1 rfl rfl (z_ai (z_ai z_a0)) (Nat.le_of_ble_eq_true rfl) (Nat.le_of_ble_eq_true rfl) ⟨rfl, rfl⟩ ?_
      refine t_X2_stepsBetween hh0.2.2.1 q6 ?_
      show z_Sem mX8_wayLength (sh.length, 0) 18 [(0, z_r 0), (1, z_i x1), (2, z_i x2)] [z_i (f_X2_stepsBetween w 12 x1 x2)] (sh, w) Q
      refine z_goto (tgt := 22) dX8_wayLength_18 (by decide) ?_
      refine z_sub (L' := []) [] rfl ?_
      simp only [if_neg c2] at hJ1
      exact hJ1
  exact z_ret (v := some (z_i (if (f_X8_areTwoEvents w x1 x2) = 0 then -1 else f_X2_stepsBetween w 12 x1 x2))) dX8_wayLength_22 ⟨rfl, Or.inl rfl⟩ rfl h
def f_X8_relationOf (w : Nat → Int → Int) (x1 : Int) (x2 : Int) : Int := if (-(f_X2_between w 12 x2 x1)) = 0 then (if (f_X2_between w 12 x1 x2) = 0 then 0 else if (-(f_X2_between w 12 x2 x1)) ≤ 0 then (if 0 ≤ (f_X2_between w 12 x1 x2) then (if (-(f_X2_between w 12 x2 x1)) = 0 then 3 else if (f_X2_between w 12 x1 x2) = 0 then 4 else 5) else 2) else 1) else if (-(f_X2_between w 12 x2 x1)) ≤ 0 then (if 0 ≤ (f_X2_between w 12 x1 x2) then (if (-(f_X2_between w 12 x2 x1)) = 0 then 3 else if (f_X2_between w 12 x1 x2) = 0 then 4 else 5) else 2) else 1
def s_X8_relationOf (w : Nat → Int → Int) (x1 : Int) (x2 : Int) : Prop := (s_X2_between w 12 x1 x2) ∧ (s_X2_between w 12 x2 x1) ∧ (z_R (-(f_X2_between w 12 x2 x1))) ∧ True
set_option maxRecDepth 100000 in
theorem t_X8_relationOf {sh : List z_C} {w : Nat → Int → Int} {Q : Option z_V → z_S → Prop} {x1 : Int} {x2 : Int} (hh0 : z_isTG sh 0) (hs : s_X8_relationOf w x1 x2) (h : Q (some (z_i (f_X8_relationOf w x1 x2))) (sh, w)) : z_Sem mX8_relationOf (sh.length, 0) 0 [(0, z_r 0), (1, z_i x1), (2, z_i x2)] [] (sh, w) Q := by
  unfold f_X8_relationOf at h
  unfold s_X8_relationOf at hs
  refine z_aload_n 0 dX8_relationOf_0 rfl rfl ?_
  refine z_getR (r := 12) zfRX8_19 dX8_relationOf_1 hh0.1 rfl ?_
  refine z_iload_n 1 dX8_relationOf_4 rfl rfl ?_
  refine z_iload_n 2 dX8_relationOf_5 rfl rfl ?_
  obtain ⟨q1, hs⟩ := hs
  refine z_callV (As := [z_i x1, z_i x2]) (rest := []) zmX2_between znX2_between zsX2_between (show z_Cl[2]? = some (RX2, TX2, 7) from rfl) zlRX8_282 ⟨Nat.le_of_ble_eq_true rfl, Nat.le_of_ble_eq_true rfl⟩ dX8_relationOf_6 hh0.2.2.1.1 rfl rfl (z_ai (z_ai z_a0)) (Nat.le_of_ble_eq_true rfl) (Nat.le_of_ble_eq_true rfl) ⟨rfl, rfl⟩ ?_
  refine t_X2_between hh0.2.2.1 q1 ?_
  show z_Sem mX8_relationOf (sh.length, 0) 9 [(0, z_r 0), (1, z_i x1), (2, z_i x2)] [z_i (f_X2_between w 12 x1 x2)] (sh, w) Q
  refine z_istore_n (L' := [(3, z_i (f_X2_between w 12 x1 x2)), (0, z_r 0), (1, z_i x1), (2, z_i x2)]) dX8_relationOf_9 rfl (by decide) rfl ?_
  refine z_aload_n 1 dX8_relationOf_10 rfl rfl ?_
  refine z_getR (r := 12) zfRX8_19 dX8_relationOf_11 hh0.1 rfl ?_
  refine z_iload_n 3 dX8_relationOf_14 rfl rfl ?_
  refine z_iload_n 2 dX8_relationOf_15 rfl rfl ?_
  obtain ⟨q2, hs⟩ := hs
  refine z_callV (As := [z_i x2, z_i x1]) (rest := []) zmX2_between znX2_between zsX2_between (show z_Cl[2]? = some (RX2, TX2, 7) from rfl) zlRX8_282 ⟨Nat.le_of_ble_eq_true rfl, Nat.le_of_ble_eq_true rfl⟩ dX8_relationOf_16 hh0.2.2.1.1 rfl rfl (z_ai (z_ai z_a0)) (Nat.le_of_ble_eq_true rfl) (Nat.le_of_ble_eq_true rfl) ⟨rfl, rfl⟩ ?_
  refine t_X2_between hh0.2.2.1 q2 ?_
  show z_Sem mX8_relationOf (sh.length, 0) 19 [(3, z_i (f_X2_between w 12 x1 x2)), (0, z_r 0), (1, z_i x1), (2, z_i x2)] [z_i (f_X2_between w 12 x2 x1)] (sh, w) Q
  obtain ⟨q3, hs⟩ := hs
  refine z_ineg dX8_relationOf_19 q3 ?_
  refine z_istore (L' := [(4, z_i (-(f_X2_between w 12 x2 x1))), (3, z_i (f_X2_between w 12 x1 x2)), (0, z_r 0), (1, z_i x1), (2, z_i x2)]) dX8_relationOf_20 (by decide) rfl ?_
  refine z_iload 0 dX8_relationOf_22 rfl ?_
  refine z_if_ne (tgt := 33) dX8_relationOf_24 (by decide) (fun c4 => ?_) (fun c4 => ?_)
  · skip
    rw [if_neg c4] at h
    refine z_iload 0 dX8_relationOf_33 rfl ?_
    refine z_if_le (tgt := 40) dX8_relationOf_35 (by decide) (fun c5 => ?_) (fun c5 => ?_)
    · skip
      rw [if_pos c5] at h
      refine z_iload_n 1 dX8_relationOf_40 rfl rfl ?_
      refine z_if_ge (tgt := 46) dX8_relationOf_41 (by decide) (fun c6 => ?_) (fun c6 => ?_)
      · skip
        rw [if_pos c6] at h
        refine z_iload 0 dX8_relationOf_46 rfl ?_
        refine z_if_ne (tgt := 53) dX8_relationOf_48 (by decide) (fun c7 => ?_) (fun c7 => ?_)
        · skip
          rw [if_neg c7] at h
          refine z_iload_n 1 dX8_relationOf_53 rfl rfl ?_
          suffices hJ8 : z_Sem mX8_relationOf (sh.length, 0) 62 [] [z_i (if (f_X2_between w 12 x1 x2) = 0 then 4 else 5)] (sh, w) Q by
            refine z_if_ne (tgt := 61) dX8_relationOf_54 (by decide) (fun c9 => ?_) (fun c9 => ?_)
            · skip
              refine z_iconst dX8_relationOf_61 (by decide) ?_
              refine z_sub (L' := []) [] rfl ?_
              simp only [if_neg c9] at hJ8
              exact hJ8
            · skip
              refine z_iconst dX8_relationOf_57 (by decide) ?_
              refine z_goto (tgt := 62) dX8_relationOf_58 (by decide) ?_
              refine z_sub (L' := []) [] rfl ?_
              simp only [if_pos c9] at hJ8
              exact hJ8
          exact z_ret (v := some (z_i (if (f_X2_between w 12 x1 x2) = 0 then 4 else 5))) dX8_relationOf_62 ⟨rfl, Or.inl rfl⟩ rfl h
        · skip
          rw [if_pos c7] at h
          refine z_iconst dX8_relationOf_51 (by decide) ?_
          exact z_ret (v := some (z_i 3)) dX8_relationOf_52 ⟨rfl, Or.inl rfl⟩ rfl h
      · skip
        rw [if_neg c6] at h
        refine z_iconst dX8_relationOf_44 (by decide) ?_
        exact z_ret (v := some (z_i 2)) dX8_relationOf_45 ⟨rfl, Or.inl rfl⟩ rfl h
    · skip
      rw [if_neg c5] at h
      refine z_iconst dX8_relationOf_38 (by decide) ?_
      exact z_ret (v := some (z_i 1)) dX8_relationOf_39 ⟨rfl, Or.inl rfl⟩ rfl h
  · skip
    rw [if_pos c4] at h
    refine z_iload_n 1 dX8_relationOf_27 rfl rfl ?_
    refine z_if_ne (tgt := 33) dX8_relationOf_28 (by decide) (fun c12 => ?_) (fun c12 => ?_)
    · skip
      rw [if_neg c12] at h
      refine z_iload 0 dX8_relationOf_33 rfl ?_
      refine z_if_le (tgt := 40) dX8_relationOf_35 (by decide) (fun c13 => ?_) (fun c13 => ?_)
      · skip
        rw [if_pos c13] at h
        refine z_iload_n 1 dX8_relationOf_40 rfl rfl ?_
        refine z_if_ge (tgt := 46) dX8_relationOf_41 (by decide) (fun c14 => ?_) (fun c14 => ?_)
        · skip
          rw [if_pos c14] at h
          refine z_iload 0 dX8_relationOf_46 rfl ?_
          refine z_if_ne (tgt := 53) dX8_relationOf_48 (by decide) (fun c15 => ?_) (fun c15 => ?_)
          · skip
            rw [if_neg c15] at h
            refine z_iload_n 1 dX8_relationOf_53 rfl rfl ?_
            suffices hJ16 : z_Sem mX8_relationOf (sh.length, 0) 62 [] [z_i (if (f_X2_between w 12 x1 x2) = 0 then 4 else 5)] (sh, w) Q by
              refine z_if_ne (tgt := 61) dX8_relationOf_54 (by decide) (fun c17 => ?_) (fun c17 => ?_)
              · skip
                refine z_iconst dX8_relationOf_61 (by decide) ?_
                refine z_sub (L' := []) [] rfl ?_
                simp only [if_neg c17] at hJ16
                exact hJ16
              · skip
                refine z_iconst dX8_relationOf_57 (by decide) ?_
                refine z_goto (tgt := 62) dX8_relationOf_58 (by decide) ?_
                refine z_sub (L' := []) [] rfl ?_
                simp only [if_pos c17] at hJ16
                exact hJ16
            exact z_ret (v := some (z_i (if (f_X2_between w 12 x1 x2) = 0 then 4 else 5))) dX8_relationOf_62 ⟨rfl, Or.inl rfl⟩ rfl h
          · skip
            rw [if_pos c15] at h
            refine z_iconst dX8_relationOf_51 (by decide) ?_
            exact z_ret (v := some (z_i 3)) dX8_relationOf_52 ⟨rfl, Or.inl rfl⟩ rfl h
        · skip
          rw [if_neg c14] at h
          refine z_iconst dX8_relationOf_44 (by decide) ?_
          exact z_ret (v := some (z_i 2)) dX8_relationOf_45 ⟨rfl, Or.inl rfl⟩ rfl h
      · skip
        rw [if_neg c13] at h
        refine z_iconst dX8_relationOf_38 (by decide) ?_
        exact z_ret (v := some (z_i 1)) dX8_relationOf_39 ⟨rfl, Or.inl rfl⟩ rfl h
    · skip
      rw [if_pos c12] at h
      refine z_iconst dX8_relationOf_31 (by decide) ?_
      exact z_ret (v := some (z_i 0)) dX8_relationOf_32 ⟨rfl, Or.inl rfl⟩ rfl h
def f_X8_relation (w : Nat → Int → Int) (x1 : Int) (x2 : Int) : Int := if (f_X8_areTwoEvents w x1 x2) = 0 then -1 else f_X8_relationOf w x1 x2
def s_X8_relation (w : Nat → Int → Int) (x1 : Int) (x2 : Int) : Prop := (¬ (f_X8_areTwoEvents w x1 x2) = 0 → (s_X8_relationOf w x1 x2) ∧ True) ∧ True
set_option maxRecDepth 100000 in
theorem t_X8_relation {sh : List z_C} {w : Nat → Int → Int} {Q : Option z_V → z_S → Prop} {x1 : Int} {x2 : Int} (hh0 : z_isTG sh 0) (hs : s_X8_relation w x1 x2) (h : Q (some (z_i (f_X8_relation w x1 x2))) (sh, w)) : z_Sem mX8_relation (sh.length, 0) 0 [(0, z_r 0), (1, z_i x1), (2, z_i x2)] [] (sh, w) Q := by
  unfold f_X8_relation at h
  unfold s_X8_relation at hs
  refine z_aload_n 0 dX8_relation_0 rfl rfl ?_
  refine z_iload_n 1 dX8_relation_1 rfl rfl ?_
  refine z_iload_n 2 dX8_relation_2 rfl rfl ?_
  refine z_callV (As := [z_i x1, z_i x2]) (rest := []) zmX8_areTwoEvents znX8_areTwoEvents zsX8_areTwoEvents (show z_Cl[8]? = some (RX8, TX8, 9) from rfl) zlRX8_286 ⟨Nat.le_of_ble_eq_true rfl, Nat.le_of_ble_eq_true rfl⟩ dX8_relation_3 hh0.1 rfl rfl (z_ai (z_ai z_a0)) (Nat.le_of_ble_eq_true rfl) (Nat.le_of_ble_eq_true rfl) ⟨rfl, rfl⟩ ?_
  refine t_X8_areTwoEvents hh0 ?_
  show z_Sem mX8_relation (sh.length, 0) 6 [(0, z_r 0), (1, z_i x1), (2, z_i x2)] [z_i (f_X8_areTwoEvents w x1 x2)] (sh, w) Q
  obtain ⟨m3, hs⟩ := hs
  suffices hJ1 : z_Sem mX8_relation (sh.length, 0) 19 [] [z_i (if (f_X8_areTwoEvents w x1 x2) = 0 then -1 else f_X8_relationOf w x1 x2)] (sh, w) Q by
    refine z_if_eq (tgt := 18) dX8_relation_6 (by decide) (fun c2 => ?_) (fun c2 => ?_)
    · skip
      refine z_iconst dX8_relation_18 (by decide) ?_
      refine z_sub (L' := []) [] rfl ?_
      simp only [if_pos c2] at hJ1
      exact hJ1
    · skip
      have ho5 := m3 c2
      refine z_aload_n 0 dX8_relation_9 rfl rfl ?_
      refine z_iload_n 1 dX8_relation_10 rfl rfl ?_
      refine z_iload_n 2 dX8_relation_11 rfl rfl ?_
      obtain ⟨q6, ho5⟩ := ho5
      refine z_callV (As := [z_i x1, z_i x2]) (rest := []) zmX8_relationOf znX8_relationOf zsX8_relationOf (show z_Cl[8]? = some (RX8, TX8, 9) from rfl) zlRX8_296 ⟨Nat.le_of_ble_eq_true rfl, Nat.le_of_ble_eq_true rfl⟩ dX8_relation_12 hh0.1 rfl rfl (z_ai (z_ai z_a0)) (Nat.le_of_ble_eq_true rfl) (Nat.le_of_ble_eq_true rfl) ⟨rfl, rfl⟩ ?_
      refine t_X8_relationOf hh0 q6 ?_
      show z_Sem mX8_relation (sh.length, 0) 15 [(0, z_r 0), (1, z_i x1), (2, z_i x2)] [z_i (f_X8_relationOf w x1 x2)] (sh, w) Q
      refine z_goto (tgt := 19) dX8_relation_15 (by decide) ?_
      refine z_sub (L' := []) [] rfl ?_
      simp only [if_neg c2] at hJ1
      exact hJ1
  exact z_ret (v := some (z_i (if (f_X8_areTwoEvents w x1 x2) = 0 then -1 else f_X8_relationOf w x1 x2))) dX8_relation_19 ⟨rfl, Or.inl rfl⟩ rfl h
def f_X8_play (w : Nat → Int → Int) (x1 : Int) (x2 : Int) : Int := if (f_X8_areTwoEvents w x1 x2) = 0 then -1 else (f_X2_between w 12 x1 x2) + (f_X2_between w 12 x2 x1)
def s_X8_play (w : Nat → Int → Int) (x1 : Int) (x2 : Int) : Prop := (¬ (f_X8_areTwoEvents w x1 x2) = 0 → (s_X2_between w 12 x1 x2) ∧ (s_X2_between w 12 x2 x1) ∧ (z_R ((f_X2_between w 12 x1 x2) + (f_X2_between w 12 x2 x1))) ∧ True) ∧ True
set_option maxRecDepth 100000 in
theorem t_X8_play {sh : List z_C} {w : Nat → Int → Int} {Q : Option z_V → z_S → Prop} {x1 : Int} {x2 : Int} (hh0 : z_isTG sh 0) (hs : s_X8_play w x1 x2) (h : Q (some (z_i (f_X8_play w x1 x2))) (sh, w)) : z_Sem mX8_play (sh.length, 0) 0 [(0, z_r 0), (1, z_i x1), (2, z_i x2)] [] (sh, w) Q := by
  unfold f_X8_play at h
  unfold s_X8_play at hs
  refine z_aload_n 0 dX8_play_0 rfl rfl ?_
  refine z_iload_n 1 dX8_play_1 rfl rfl ?_
  refine z_iload_n 2 dX8_play_2 rfl rfl ?_
  refine z_callV (As := [z_i x1, z_i x2]) (rest := []) zmX8_areTwoEvents znX8_areTwoEvents zsX8_areTwoEvents (show z_Cl[8]? = some (RX8, TX8, 9) from rfl) zlRX8_286 ⟨Nat.le_of_ble_eq_true rfl, Nat.le_of_ble_eq_true rfl⟩ dX8_play_3 hh0.1 rfl rfl (z_ai (z_ai z_a0)) (Nat.le_of_ble_eq_true rfl) (Nat.le_of_ble_eq_true rfl) ⟨rfl, rfl⟩ ?_
  refine t_X8_areTwoEvents hh0 ?_
  show z_Sem mX8_play (sh.length, 0) 6 [(0, z_r 0), (1, z_i x1), (2, z_i x2)] [z_i (f_X8_areTwoEvents w x1 x2)] (sh, w) Q
  obtain ⟨m5, hs⟩ := hs
  refine z_if_ne (tgt := 11) dX8_play_6 (by decide) (fun c1 => ?_) (fun c1 => ?_)
  · skip
    rw [if_neg c1] at h
    replace hs := m5 c1
    refine z_aload_n 0 dX8_play_11 rfl rfl ?_
    refine z_getR (r := 12) zfRX8_19 dX8_play_12 hh0.1 rfl ?_
    refine z_iload_n 1 dX8_play_15 rfl rfl ?_
    refine z_iload_n 2 dX8_play_16 rfl rfl ?_
    obtain ⟨q2, hs⟩ := hs
    refine z_callV (As := [z_i x1, z_i x2]) (rest := []) zmX2_between znX2_between zsX2_between (show z_Cl[2]? = some (RX2, TX2, 7) from rfl) zlRX8_282 ⟨Nat.le_of_ble_eq_true rfl, Nat.le_of_ble_eq_true rfl⟩ dX8_play_17 hh0.2.2.1.1 rfl rfl (z_ai (z_ai z_a0)) (Nat.le_of_ble_eq_true rfl) (Nat.le_of_ble_eq_true rfl) ⟨rfl, rfl⟩ ?_
    refine t_X2_between hh0.2.2.1 q2 ?_
    show z_Sem mX8_play (sh.length, 0) 20 [(0, z_r 0), (1, z_i x1), (2, z_i x2)] [z_i (f_X2_between w 12 x1 x2)] (sh, w) Q
    refine z_aload_n 0 dX8_play_20 rfl rfl ?_
    refine z_getR (r := 12) zfRX8_19 dX8_play_21 hh0.1 rfl ?_
    refine z_iload_n 2 dX8_play_24 rfl rfl ?_
    refine z_iload_n 1 dX8_play_25 rfl rfl ?_
    obtain ⟨q3, hs⟩ := hs
    refine z_callV (As := [z_i x2, z_i x1]) (rest := [z_i (f_X2_between w 12 x1 x2)]) zmX2_between znX2_between zsX2_between (show z_Cl[2]? = some (RX2, TX2, 7) from rfl) zlRX8_282 ⟨Nat.le_of_ble_eq_true rfl, Nat.le_of_ble_eq_true rfl⟩ dX8_play_26 hh0.2.2.1.1 rfl rfl (z_ai (z_ai z_a0)) (Nat.le_of_ble_eq_true rfl) (Nat.le_of_ble_eq_true rfl) ⟨rfl, rfl⟩ ?_
    refine t_X2_between hh0.2.2.1 q3 ?_
    show z_Sem mX8_play (sh.length, 0) 29 [(0, z_r 0), (1, z_i x1), (2, z_i x2)] [z_i (f_X2_between w 12 x2 x1), z_i (f_X2_between w 12 x1 x2)] (sh, w) Q
    obtain ⟨q4, hs⟩ := hs
    refine z_iadd dX8_play_29 q4 ?_
    exact z_ret (v := some (z_i ((f_X2_between w 12 x1 x2) + (f_X2_between w 12 x2 x1)))) dX8_play_30 ⟨rfl, Or.inl rfl⟩ rfl h
  · skip
    rw [if_pos c1] at h
    refine z_iconst dX8_play_9 (by decide) ?_
    exact z_ret (v := some (z_i (-1))) dX8_play_10 ⟨rfl, Or.inl rfl⟩ rfl h
set_option maxRecDepth 100000 in
theorem t_X8_pairs {sh : List z_C} {w : Nat → Int → Int} {Q : Option z_V → z_S → Prop} {x1 : Int} (hh0 : z_isTG sh 0) (h : ((x1 < 0 → Q (some (z_i (-1))) (sh, w)) ∧ (¬ x1 < 0 → ((x1 ≤ 5 → z_Sem mX8_pairs (sh.length, 0) 15 [(0, z_r 0), (1, z_i x1), (2, z_i 0), (3, z_i 0)] [] (sh, w) Q) ∧ (¬ x1 ≤ 5 → Q (some (z_i (-1))) (sh, w)))))) : z_Sem mX8_pairs (sh.length, 0) 0 [(0, z_r 0), (1, z_i x1)] [] (sh, w) Q := by
  refine z_iload_n 1 dX8_pairs_0 rfl rfl ?_
  refine z_if_lt (tgt := 9) dX8_pairs_1 (by decide) (fun c1 => ?_) (fun c1 => ?_)
  · replace h := h.1 c1
    refine z_iconst dX8_pairs_9 (by decide) ?_
    exact z_ret (v := some (z_i (-1))) dX8_pairs_10 ⟨rfl, Or.inl rfl⟩ rfl h
  · replace h := h.2 c1
    refine z_iload_n 1 dX8_pairs_4 rfl rfl ?_
    refine z_iconst dX8_pairs_5 (by decide) ?_
    refine z_icmp_le (tgt := 11) dX8_pairs_6 (by decide) (fun c2 => ?_) (fun c2 => ?_)
    · replace h := h.1 c2
      refine z_iconst dX8_pairs_11 (by decide) ?_
      refine z_istore_n (L' := [(2, z_i 0), (0, z_r 0), (1, z_i x1)]) dX8_pairs_12 rfl (by decide) rfl ?_
      refine z_iconst dX8_pairs_13 (by decide) ?_
      refine z_istore_n (L' := [(3, z_i 0), (2, z_i 0), (0, z_r 0), (1, z_i x1)]) dX8_pairs_14 rfl (by decide) rfl ?_
      refine z_sub (L' := [(0, z_r 0), (1, z_i x1), (2, z_i 0), (3, z_i 0)]) [2, 3, 1, 0] rfl ?_
      exact h
    · replace h := h.2 c2
      refine z_iconst dX8_pairs_9 (by decide) ?_
      exact z_ret (v := some (z_i (-1))) dX8_pairs_10 ⟨rfl, Or.inl rfl⟩ rfl h
set_option maxRecDepth 100000 in
theorem t_X8_pairs_15 {sh : List z_C} {w : Nat → Int → Int} {Q : Option z_V → z_S → Prop} {x1 : Int} {x2 : Int} {x3 : Int} (hh0 : z_isTG sh 0) (h : (((w 1 10) ≤ x3 → Q (some (z_i x2)) (sh, w)) ∧ (¬ (w 1 10) ≤ x3 → (z_R (x3 + 1)) ∧ z_Sem mX8_pairs (sh.length, 0) 31 [(0, z_r 0), (1, z_i x1), (2, z_i x2), (3, z_i x3), (4, z_i (x3 + 1))] [] (sh, w) Q))) : z_Sem mX8_pairs (sh.length, 0) 15 [(0, z_r 0), (1, z_i x1), (2, z_i x2), (3, z_i x3)] [] (sh, w) Q := by
  refine z_iload_n 3 dX8_pairs_15 rfl rfl ?_
  refine z_aload_n 0 dX8_pairs_16 rfl rfl ?_
  refine z_getR (r := 1) zfRX8_12 dX8_pairs_17 hh0.1 rfl ?_
  refine z_getI (ki := 10) zfRX8_102 dX8_pairs_20 hh0.2.1.1 rfl rfl ?_
  refine z_icmp_ge (tgt := 77) dX8_pairs_23 (by decide) (fun c1 => ?_) (fun c1 => ?_)
  · replace h := h.1 c1
    refine z_iload_n 2 dX8_pairs_77 rfl rfl ?_
    exact z_ret (v := some (z_i x2)) dX8_pairs_78 ⟨rfl, Or.inl rfl⟩ rfl h
  · replace h := h.2 c1
    refine z_iload_n 3 dX8_pairs_26 rfl rfl ?_
    refine z_iconst dX8_pairs_27 (by decide) ?_
    obtain ⟨q2, h⟩ := h
    refine z_iadd dX8_pairs_28 q2 ?_
    refine z_istore (L' := [(4, z_i (x3 + 1)), (0, z_r 0), (1, z_i x1), (2, z_i x2), (3, z_i x3)]) dX8_pairs_29 (by decide) rfl ?_
    refine z_sub (L' := [(0, z_r 0), (1, z_i x1), (2, z_i x2), (3, z_i x3), (4, z_i (x3 + 1))]) [1, 2, 3, 4, 0] rfl ?_
    exact h
set_option maxRecDepth 100000 in
theorem t_X8_pairs_31 {sh : List z_C} {w : Nat → Int → Int} {Q : Option z_V → z_S → Prop} {x1 : Int} {x2 : Int} {x3 : Int} {x4 : Int} (hh0 : z_isTG sh 0) (h : (((w 1 10) ≤ x4 → (z_R (x3 + 1)) ∧ z_Sem mX8_pairs (sh.length, 0) 15 [(0, z_r 0), (1, z_i x1), (2, z_i x2), (3, z_i (x3 + 1))] [] (sh, w) Q) ∧ (¬ (w 1 10) ≤ x4 → (s_X8_relationOf w x3 x4) ∧ (z_R (x2 + (f_X8_asNumber w (if (f_X8_relationOf w x3 x4) = x1 then 1 else 0)))) ∧ ∀ y9 : Int, y9 = (x2 + (f_X8_asNumber w (if (f_X8_relationOf w x3 x4) = x1 then 1 else 0))) → (z_R (x4 + 1)) ∧ z_Sem mX8_pairs (sh.length, 0) 31 [(0, z_r 0), (1, z_i x1), (2, z_i y9), (3, z_i x3), (4, z_i (x4 + 1))] [] (sh, w) Q))) : z_Sem mX8_pairs (sh.length, 0) 31 [(0, z_r 0), (1, z_i x1), (2, z_i x2), (3, z_i x3), (4, z_i x4)] [] (sh, w) Q := by
  refine z_iload 4 dX8_pairs_31 rfl ?_
  refine z_aload_n 0 dX8_pairs_33 rfl rfl ?_
  refine z_getR (r := 1) zfRX8_12 dX8_pairs_34 hh0.1 rfl ?_
  refine z_getI (ki := 10) zfRX8_102 dX8_pairs_37 hh0.2.1.1 rfl rfl ?_
  refine z_icmp_ge (tgt := 71) dX8_pairs_40 (by decide) (fun c1 => ?_) (fun c1 => ?_)
  · replace h := h.1 c1
    obtain ⟨q2, h⟩ := h
    refine z_iinc (L' := [(3, z_i (x3 + 1)), (0, z_r 0), (1, z_i x1), (2, z_i x2), (4, z_i x4)]) 3 dX8_pairs_71 rfl (by decide) rfl q2 ?_
    refine z_goto (tgt := 15) dX8_pairs_74 (by decide) ?_
    refine z_sub (L' := [(0, z_r 0), (1, z_i x1), (2, z_i x2), (3, z_i (x3 + 1))]) [1, 2, 3, 0] rfl ?_
    exact h
  · replace h := h.2 c1
    refine z_iload_n 2 dX8_pairs_43 rfl rfl ?_
    refine z_aload_n 0 dX8_pairs_44 rfl rfl ?_
    refine z_iload_n 3 dX8_pairs_45 rfl rfl ?_
    refine z_iload 4 dX8_pairs_46 rfl ?_
    obtain ⟨q3, h⟩ := h
    refine z_callV (As := [z_i x3, z_i x4]) (rest := [z_i x2]) zmX8_relationOf znX8_relationOf zsX8_relationOf (show z_Cl[8]? = some (RX8, TX8, 9) from rfl) zlRX8_296 ⟨Nat.le_of_ble_eq_true rfl, Nat.le_of_ble_eq_true rfl⟩ dX8_pairs_48 hh0.1 rfl rfl (z_ai (z_ai z_a0)) (Nat.le_of_ble_eq_true rfl) (Nat.le_of_ble_eq_true rfl) ⟨rfl, rfl⟩ ?_
    refine t_X8_relationOf hh0 q3 ?_
    show z_Sem mX8_pairs (sh.length, 0) 51 [(0, z_r 0), (1, z_i x1), (2, z_i x2), (3, z_i x3), (4, z_i x4)] [z_i (f_X8_relationOf w x3 x4), z_i x2] (sh, w) Q
    refine z_iload_n 1 dX8_pairs_51 rfl rfl ?_
    suffices hJ4 : z_Sem mX8_pairs (sh.length, 0) 60 [(0, z_r 0), (1, z_i x1), (3, z_i x3), (4, z_i x4)] [z_i (if (f_X8_relationOf w x3 x4) = x1 then 1 else 0), z_i x2] (sh, w) Q by
      refine z_icmp_ne (tgt := 59) dX8_pairs_52 (by decide) (fun c5 => ?_) (fun c5 => ?_)
      · skip
        refine z_iconst dX8_pairs_59 (by decide) ?_
        refine z_sub (L' := [(0, z_r 0), (1, z_i x1), (3, z_i x3), (4, z_i x4)]) [0, 1, 3, 4] rfl ?_
        simp only [if_neg c5] at hJ4
        exact hJ4
      · skip
        refine z_iconst dX8_pairs_55 (by decide) ?_
        refine z_goto (tgt := 60) dX8_pairs_56 (by decide) ?_
        refine z_sub (L' := [(0, z_r 0), (1, z_i x1), (3, z_i x3), (4, z_i x4)]) [0, 1, 3, 4] rfl ?_
        simp only [if_pos c5] at hJ4
        exact hJ4
    refine z_callS (As := [z_i (if (f_X8_relationOf w x3 x4) = x1 then 1 else 0)]) (rest := [z_i x2]) zmX8_asNumber ztX8_asNumber zlRX8_159 ⟨Nat.le_of_ble_eq_true rfl, Nat.le_of_ble_eq_true rfl⟩ dX8_pairs_60 rfl rfl (z_ai z_a0) (Nat.le_of_ble_eq_true rfl) (Nat.le_of_ble_eq_true rfl) ⟨rfl, rfl⟩ ?_
    refine t_X8_asNumber  ?_
    show z_Sem mX8_pairs (sh.length, 0) 63 [(0, z_r 0), (1, z_i x1), (3, z_i x3), (4, z_i x4)] [z_i (f_X8_asNumber w (if (f_X8_relationOf w x3 x4) = x1 then 1 else 0)), z_i x2] (sh, w) Q
    obtain ⟨q8, h⟩ := h
    refine z_iadd dX8_pairs_63 q8 ?_
    refine z_nam (fun y9 hy9 => ?_)
    replace h := h y9 hy9
    refine z_istore_n (L' := [(2, z_i y9), (0, z_r 0), (1, z_i x1), (3, z_i x3), (4, z_i x4)]) dX8_pairs_64 rfl (by decide) rfl ?_
    obtain ⟨q10, h⟩ := h
    refine z_iinc (L' := [(4, z_i (x4 + 1)), (2, z_i y9), (0, z_r 0), (1, z_i x1), (3, z_i x3)]) 4 dX8_pairs_65 rfl (by decide) rfl q10 ?_
    refine z_goto (tgt := 31) dX8_pairs_68 (by decide) ?_
    refine z_sub (L' := [(0, z_r 0), (1, z_i x1), (2, z_i y9), (3, z_i x3), (4, z_i (x4 + 1))]) [2, 3, 1, 4, 0] rfl ?_
    exact h
set_option maxRecDepth 100000 in
theorem t_X8_ordered {sh : List z_C} {w : Nat → Int → Int} {Q : Option z_V → z_S → Prop} {x1 : Int} (hh0 : z_isTG sh 0) (h : ((0 ≤ x1 → z_Sem mX8_ordered (sh.length, 0) 8 [(0, z_r 0), (1, z_i x1), (2, z_i 0)] [] (sh, w) Q) ∧ (¬ 0 ≤ x1 → Q (some (z_i (-1))) (sh, w)))) : z_Sem mX8_ordered (sh.length, 0) 0 [(0, z_r 0), (1, z_i x1)] [] (sh, w) Q := by
  refine z_iload_n 1 dX8_ordered_0 rfl rfl ?_
  refine z_if_ge (tgt := 6) dX8_ordered_1 (by decide) (fun c1 => ?_) (fun c1 => ?_)
  · replace h := h.1 c1
    refine z_iconst dX8_ordered_6 (by decide) ?_
    refine z_istore_n (L' := [(2, z_i 0), (0, z_r 0), (1, z_i x1)]) dX8_ordered_7 rfl (by decide) rfl ?_
    refine z_sub (L' := [(0, z_r 0), (1, z_i x1), (2, z_i 0)]) [1, 2, 0] rfl ?_
    exact h
  · replace h := h.2 c1
    refine z_iconst dX8_ordered_4 (by decide) ?_
    exact z_ret (v := some (z_i (-1))) dX8_ordered_5 ⟨rfl, Or.inl rfl⟩ rfl h
set_option maxRecDepth 100000 in
theorem t_X8_ordered_8 {sh : List z_C} {w : Nat → Int → Int} {Q : Option z_V → z_S → Prop} {x1 : Int} {x2 : Int} (hh0 : z_isTG sh 0) (h : (((w 1 10) ≤ x2 → Q (some (z_i (-2))) (sh, w)) ∧ (¬ (w 1 10) ≤ x2 → z_CI mX2_placeByEarliest [z_r 12, z_i x2] sh w (fun y3 w2 => ((y3 = x1 → Q (some (z_i x2)) (sh, w2)) ∧ (¬ y3 = x1 → (z_R (x2 + 1)) ∧ z_Sem mX8_ordered (sh.length, 0) 8 [(0, z_r 0), (1, z_i x1), (2, z_i (x2 + 1))] [] (sh, w2) Q)))))) : z_Sem mX8_ordered (sh.length, 0) 8 [(0, z_r 0), (1, z_i x1), (2, z_i x2)] [] (sh, w) Q := by
  refine z_iload_n 2 dX8_ordered_8 rfl rfl ?_
  refine z_aload_n 0 dX8_ordered_9 rfl rfl ?_
  refine z_getR (r := 1) zfRX8_12 dX8_ordered_10 hh0.1 rfl ?_
  refine z_getI (ki := 10) zfRX8_102 dX8_ordered_13 hh0.2.1.1 rfl rfl ?_
  refine z_icmp_ge (tgt := 39) dX8_ordered_16 (by decide) (fun c1 => ?_) (fun c1 => ?_)
  · replace h := h.1 c1
    refine z_bipush dX8_ordered_39 (by decide) (by decide) ?_
    exact z_ret (v := some (z_i (-2))) dX8_ordered_41 ⟨rfl, Or.inl rfl⟩ rfl h
  · replace h := h.2 c1
    refine z_aload_n 0 dX8_ordered_19 rfl rfl ?_
    refine z_getR (r := 12) zfRX8_19 dX8_ordered_20 hh0.1 rfl ?_
    refine z_iload_n 2 dX8_ordered_23 rfl rfl ?_
    refine z_callV (As := [z_i x2]) (rest := []) zmX2_placeByEarliest znX2_placeByEarliest zsX2_placeByEarliest (show z_Cl[2]? = some (RX2, TX2, 7) from rfl) zlRX8_305 ⟨Nat.le_of_ble_eq_true rfl, Nat.le_of_ble_eq_true rfl⟩ dX8_ordered_24 hh0.2.2.1.1 rfl rfl (z_ai z_a0) (Nat.le_of_ble_eq_true rfl) (Nat.le_of_ble_eq_true rfl) ⟨rfl, rfl⟩ (z_CIm h ?_)
    intro y3 w2 h
    show z_Sem mX8_ordered (sh.length, 0) 27 [(0, z_r 0), (1, z_i x1), (2, z_i x2)] [z_i y3] (sh, w2) Q
    refine z_iload_n 1 dX8_ordered_27 rfl rfl ?_
    refine z_icmp_ne (tgt := 33) dX8_ordered_28 (by decide) (fun c4 => ?_) (fun c4 => ?_)
    · replace h := h.2 c4
      obtain ⟨q5, h⟩ := h
      refine z_iinc (L' := [(2, z_i (x2 + 1)), (0, z_r 0), (1, z_i x1)]) 2 dX8_ordered_33 rfl (by decide) rfl q5 ?_
      refine z_goto (tgt := 8) dX8_ordered_36 (by decide) ?_
      refine z_sub (L' := [(0, z_r 0), (1, z_i x1), (2, z_i (x2 + 1))]) [1, 2, 0] rfl ?_
      exact h
    · replace h := h.1 c4
      refine z_iload_n 2 dX8_ordered_31 rfl rfl ?_
      exact z_ret (v := some (z_i x2)) dX8_ordered_32 ⟨rfl, Or.inl rfl⟩ rfl h
set_option maxRecDepth 100000 in
theorem t_X8_middle {sh : List z_C} {w : Nat → Int → Int} {Q : Option z_V → z_S → Prop} {x1 : Int} (hh0 : z_isTG sh 0) (h : (((f_X8_isEvent w x1) = 0 → Q (some (z_i (-1))) (sh, w)) ∧ (¬ (f_X8_isEvent w x1) = 0 → z_CV mX2_copyBounds [z_r 18, z_r 12] sh w (fun w2 => z_Sem mX8_middle (sh.length, 0) 23 [(0, z_r 0), (1, z_i x1), (2, z_i 1)] [] (sh, w2) Q)))) : z_Sem mX8_middle (sh.length, 0) 0 [(0, z_r 0), (1, z_i x1)] [] (sh, w) Q := by
  refine z_aload_n 0 dX8_middle_0 rfl rfl ?_
  refine z_iload_n 1 dX8_middle_1 rfl rfl ?_
  refine z_callV (As := [z_i x1]) (rest := []) zmX8_isEvent znX8_isEvent zsX8_isEvent (show z_Cl[8]? = some (RX8, TX8, 9) from rfl) zlRX8_163 ⟨Nat.le_of_ble_eq_true rfl, Nat.le_of_ble_eq_true rfl⟩ dX8_middle_2 hh0.1 rfl rfl (z_ai z_a0) (Nat.le_of_ble_eq_true rfl) (Nat.le_of_ble_eq_true rfl) ⟨rfl, rfl⟩ ?_
  refine t_X8_isEvent hh0 ?_
  show z_Sem mX8_middle (sh.length, 0) 5 [(0, z_r 0), (1, z_i x1)] [z_i (f_X8_isEvent w x1)] (sh, w) Q
  refine z_if_ne (tgt := 10) dX8_middle_5 (by decide) (fun c1 => ?_) (fun c1 => ?_)
  · replace h := h.2 c1
    refine z_aload_n 0 dX8_middle_10 rfl rfl ?_
    refine z_getR (r := 18) zfRX8_23 dX8_middle_11 hh0.1 rfl ?_
    refine z_aload_n 0 dX8_middle_14 rfl rfl ?_
    refine z_getR (r := 12) zfRX8_19 dX8_middle_15 hh0.1 rfl ?_
    refine z_callV (As := [z_r 12]) (rest := []) zmX2_copyBounds znX2_copyBounds zsX2_copyBounds (show z_Cl[2]? = some (RX2, TX2, 7) from rfl) zlRX8_308 ⟨Nat.le_of_ble_eq_true rfl, Nat.le_of_ble_eq_true rfl⟩ dX8_middle_18 hh0.2.2.2.1.1 rfl rfl (z_ar z_a0) (Nat.le_of_ble_eq_true rfl) (Nat.le_of_ble_eq_true rfl) ⟨rfl, rfl⟩ (z_CVm h ?_)
    intro w2 h
    show z_Sem mX8_middle (sh.length, 0) 21 [(0, z_r 0), (1, z_i x1)] [] (sh, w2) Q
    refine z_iconst dX8_middle_21 (by decide) ?_
    refine z_istore_n (L' := [(2, z_i 1), (0, z_r 0), (1, z_i x1)]) dX8_middle_22 rfl (by decide) rfl ?_
    refine z_sub (L' := [(0, z_r 0), (1, z_i x1), (2, z_i 1)]) [1, 2, 0] rfl ?_
    exact h
  · replace h := h.1 c1
    refine z_iconst dX8_middle_8 (by decide) ?_
    exact z_ret (v := some (z_i (-1))) dX8_middle_9 ⟨rfl, Or.inl rfl⟩ rfl h
set_option maxRecDepth 100000 in
theorem t_X8_middle_23 {sh : List z_C} {w : Nat → Int → Int} {Q : Option z_V → z_S → Prop} {x1 : Int} {x2 : Int} (hh0 : z_isTG sh 0) (h : ((x1 < x2 → (s_X2_earliest w 18 x1) ∧ Q (some (z_i (f_X2_earliest w 18 x1))) (sh, w)) ∧ (¬ x1 < x2 → (s_X2_earliest w 18 x2) ∧ (s_X2_latest w 18 x2) ∧ (z_R ((f_X2_earliest w 18 x2) + (f_X2_latest w 18 x2))) ∧ z_CV mX2_addPin [z_r 18, z_i x2, z_i (((f_X2_earliest w 18 x2) + (f_X2_latest w 18 x2)).tdiv 2)] sh w (fun w6 => (z_R (x2 + 1)) ∧ z_Sem mX8_middle (sh.length, 0) 23 [(0, z_r 0), (1, z_i x1), (2, z_i (x2 + 1))] [] (sh, w6) Q)))) : z_Sem mX8_middle (sh.length, 0) 23 [(0, z_r 0), (1, z_i x1), (2, z_i x2)] [] (sh, w) Q := by
  refine z_iload_n 2 dX8_middle_23 rfl rfl ?_
  refine z_iload_n 1 dX8_middle_24 rfl rfl ?_
  refine z_icmp_gt (tgt := 61) dX8_middle_25 (by decide) (fun c1 => ?_) (fun c1 => ?_)
  · replace h := h.1 c1
    refine z_aload_n 0 dX8_middle_61 rfl rfl ?_
    refine z_getR (r := 18) zfRX8_23 dX8_middle_62 hh0.1 rfl ?_
    refine z_iload_n 1 dX8_middle_65 rfl rfl ?_
    obtain ⟨q2, h⟩ := h
    refine z_callV (As := [z_i x1]) (rest := []) zmX2_earliest znX2_earliest zsX2_earliest (show z_Cl[2]? = some (RX2, TX2, 7) from rfl) zlRX8_220 ⟨Nat.le_of_ble_eq_true rfl, Nat.le_of_ble_eq_true rfl⟩ dX8_middle_66 hh0.2.2.2.1.1 rfl rfl (z_ai z_a0) (Nat.le_of_ble_eq_true rfl) (Nat.le_of_ble_eq_true rfl) ⟨rfl, rfl⟩ ?_
    refine t_X2_earliest hh0.2.2.2.1 q2 ?_
    show z_Sem mX8_middle (sh.length, 0) 69 [(0, z_r 0), (1, z_i x1), (2, z_i x2)] [z_i (f_X2_earliest w 18 x1)] (sh, w) Q
    exact z_ret (v := some (z_i (f_X2_earliest w 18 x1))) dX8_middle_69 ⟨rfl, Or.inl rfl⟩ rfl h
  · replace h := h.2 c1
    refine z_aload_n 0 dX8_middle_28 rfl rfl ?_
    refine z_getR (r := 18) zfRX8_23 dX8_middle_29 hh0.1 rfl ?_
    refine z_iload_n 2 dX8_middle_32 rfl rfl ?_
    refine z_aload_n 0 dX8_middle_33 rfl rfl ?_
    refine z_getR (r := 18) zfRX8_23 dX8_middle_34 hh0.1 rfl ?_
    refine z_iload_n 2 dX8_middle_37 rfl rfl ?_
    obtain ⟨q3, h⟩ := h
    refine z_callV (As := [z_i x2]) (rest := [z_i x2, z_r 18]) zmX2_earliest znX2_earliest zsX2_earliest (show z_Cl[2]? = some (RX2, TX2, 7) from rfl) zlRX8_220 ⟨Nat.le_of_ble_eq_true rfl, Nat.le_of_ble_eq_true rfl⟩ dX8_middle_38 hh0.2.2.2.1.1 rfl rfl (z_ai z_a0) (Nat.le_of_ble_eq_true rfl) (Nat.le_of_ble_eq_true rfl) ⟨rfl, rfl⟩ ?_
    refine t_X2_earliest hh0.2.2.2.1 q3 ?_
    show z_Sem mX8_middle (sh.length, 0) 41 [(0, z_r 0), (1, z_i x1), (2, z_i x2)] [z_i (f_X2_earliest w 18 x2), z_i x2, z_r 18] (sh, w) Q
    refine z_aload_n 0 dX8_middle_41 rfl rfl ?_
    refine z_getR (r := 18) zfRX8_23 dX8_middle_42 hh0.1 rfl ?_
    refine z_iload_n 2 dX8_middle_45 rfl rfl ?_
    obtain ⟨q4, h⟩ := h
    refine z_callV (As := [z_i x2]) (rest := [z_i (f_X2_earliest w 18 x2), z_i x2, z_r 18]) zmX2_latest znX2_latest zsX2_latest (show z_Cl[2]? = some (RX2, TX2, 7) from rfl) zlRX8_273 ⟨Nat.le_of_ble_eq_true rfl, Nat.le_of_ble_eq_true rfl⟩ dX8_middle_46 hh0.2.2.2.1.1 rfl rfl (z_ai z_a0) (Nat.le_of_ble_eq_true rfl) (Nat.le_of_ble_eq_true rfl) ⟨rfl, rfl⟩ ?_
    refine t_X2_latest hh0.2.2.2.1 q4 ?_
    show z_Sem mX8_middle (sh.length, 0) 49 [(0, z_r 0), (1, z_i x1), (2, z_i x2)] [z_i (f_X2_latest w 18 x2), z_i (f_X2_earliest w 18 x2), z_i x2, z_r 18] (sh, w) Q
    obtain ⟨q5, h⟩ := h
    refine z_iadd dX8_middle_49 q5 ?_
    refine z_iconst dX8_middle_50 (by decide) ?_
    refine z_idiv dX8_middle_51 (by decide) ?_
    refine z_callV (As := [z_i x2, z_i (((f_X2_earliest w 18 x2) + (f_X2_latest w 18 x2)).tdiv 2)]) (rest := []) zmX2_addPin znX2_addPin zsX2_addPin (show z_Cl[2]? = some (RX2, TX2, 7) from rfl) zlRX8_312 ⟨Nat.le_of_ble_eq_true rfl, Nat.le_of_ble_eq_true rfl⟩ dX8_middle_52 hh0.2.2.2.1.1 rfl rfl (z_ai (z_ai z_a0)) (Nat.le_of_ble_eq_true rfl) (Nat.le_of_ble_eq_true rfl) ⟨rfl, rfl⟩ (z_CVm h ?_)
    intro w6 h
    show z_Sem mX8_middle (sh.length, 0) 55 [(0, z_r 0), (1, z_i x1), (2, z_i x2)] [] (sh, w6) Q
    obtain ⟨q7, h⟩ := h
    refine z_iinc (L' := [(2, z_i (x2 + 1)), (0, z_r 0), (1, z_i x1)]) 2 dX8_middle_55 rfl (by decide) rfl q7 ?_
    refine z_goto (tgt := 23) dX8_middle_58 (by decide) ?_
    refine z_sub (L' := [(0, z_r 0), (1, z_i x1), (2, z_i (x2 + 1))]) [1, 2, 0] rfl ?_
    exact h
set_option maxRecDepth 100000 in
theorem t_X8_lastly {sh : List z_C} {w : Nat → Int → Int} {Q : Option z_V → z_S → Prop} {x1 : Int} (hh0 : z_isTG sh 0) (h : ((0 ≤ x1 → z_Sem mX8_lastly (sh.length, 0) 8 [(0, z_r 0), (1, z_i x1), (2, z_i 0)] [] (sh, w) Q) ∧ (¬ 0 ≤ x1 → Q (some (z_i (-1))) (sh, w)))) : z_Sem mX8_lastly (sh.length, 0) 0 [(0, z_r 0), (1, z_i x1)] [] (sh, w) Q := by
  refine z_iload_n 1 dX8_lastly_0 rfl rfl ?_
  refine z_if_ge (tgt := 6) dX8_lastly_1 (by decide) (fun c1 => ?_) (fun c1 => ?_)
  · replace h := h.1 c1
    refine z_iconst dX8_lastly_6 (by decide) ?_
    refine z_istore_n (L' := [(2, z_i 0), (0, z_r 0), (1, z_i x1)]) dX8_lastly_7 rfl (by decide) rfl ?_
    refine z_sub (L' := [(0, z_r 0), (1, z_i x1), (2, z_i 0)]) [1, 2, 0] rfl ?_
    exact h
  · replace h := h.2 c1
    refine z_iconst dX8_lastly_4 (by decide) ?_
    exact z_ret (v := some (z_i (-1))) dX8_lastly_5 ⟨rfl, Or.inl rfl⟩ rfl h
set_option maxRecDepth 100000 in
theorem t_X8_lastly_8 {sh : List z_C} {w : Nat → Int → Int} {Q : Option z_V → z_S → Prop} {x1 : Int} {x2 : Int} (hh0 : z_isTG sh 0) (h : (((w 1 10) ≤ x2 → Q (some (z_i (-2))) (sh, w)) ∧ (¬ (w 1 10) ≤ x2 → z_CI mX2_placeByLatest [z_r 12, z_i x2] sh w (fun y3 w2 => ((y3 = x1 → Q (some (z_i x2)) (sh, w2)) ∧ (¬ y3 = x1 → (z_R (x2 + 1)) ∧ z_Sem mX8_lastly (sh.length, 0) 8 [(0, z_r 0), (1, z_i x1), (2, z_i (x2 + 1))] [] (sh, w2) Q)))))) : z_Sem mX8_lastly (sh.length, 0) 8 [(0, z_r 0), (1, z_i x1), (2, z_i x2)] [] (sh, w) Q := by
  refine z_iload_n 2 dX8_lastly_8 rfl rfl ?_
  refine z_aload_n 0 dX8_lastly_9 rfl rfl ?_
  refine z_getR (r := 1) zfRX8_12 dX8_lastly_10 hh0.1 rfl ?_
  refine z_getI (ki := 10) zfRX8_102 dX8_lastly_13 hh0.2.1.1 rfl rfl ?_
  refine z_icmp_ge (tgt := 39) dX8_lastly_16 (by decide) (fun c1 => ?_) (fun c1 => ?_)
  · replace h := h.1 c1
    refine z_bipush dX8_lastly_39 (by decide) (by decide) ?_
    exact z_ret (v := some (z_i (-2))) dX8_lastly_41 ⟨rfl, Or.inl rfl⟩ rfl h
  · replace h := h.2 c1
    refine z_aload_n 0 dX8_lastly_19 rfl rfl ?_
    refine z_getR (r := 12) zfRX8_19 dX8_lastly_20 hh0.1 rfl ?_
    refine z_iload_n 2 dX8_lastly_23 rfl rfl ?_
    refine z_callV (As := [z_i x2]) (rest := []) zmX2_placeByLatest znX2_placeByLatest zsX2_placeByLatest (show z_Cl[2]? = some (RX2, TX2, 7) from rfl) zlRX8_316 ⟨Nat.le_of_ble_eq_true rfl, Nat.le_of_ble_eq_true rfl⟩ dX8_lastly_24 hh0.2.2.1.1 rfl rfl (z_ai z_a0) (Nat.le_of_ble_eq_true rfl) (Nat.le_of_ble_eq_true rfl) ⟨rfl, rfl⟩ (z_CIm h ?_)
    intro y3 w2 h
    show z_Sem mX8_lastly (sh.length, 0) 27 [(0, z_r 0), (1, z_i x1), (2, z_i x2)] [z_i y3] (sh, w2) Q
    refine z_iload_n 1 dX8_lastly_27 rfl rfl ?_
    refine z_icmp_ne (tgt := 33) dX8_lastly_28 (by decide) (fun c4 => ?_) (fun c4 => ?_)
    · replace h := h.2 c4
      obtain ⟨q5, h⟩ := h
      refine z_iinc (L' := [(2, z_i (x2 + 1)), (0, z_r 0), (1, z_i x1)]) 2 dX8_lastly_33 rfl (by decide) rfl q5 ?_
      refine z_goto (tgt := 8) dX8_lastly_36 (by decide) ?_
      refine z_sub (L' := [(0, z_r 0), (1, z_i x1), (2, z_i (x2 + 1))]) [1, 2, 0] rfl ?_
      exact h
    · replace h := h.1 c4
      refine z_iload_n 2 dX8_lastly_31 rfl rfl ?_
      exact z_ret (v := some (z_i x2)) dX8_lastly_32 ⟨rfl, Or.inl rfl⟩ rfl h
def f_X8_can (w : Nat → Int → Int) (x1 : Int) (x2 : Int) : Int := if (f_X8_isEvent w x1) = 0 then -1 else f_X8_asNumber w (f_X2_allows w 12 x1 x2)
def s_X8_can (w : Nat → Int → Int) (x1 : Int) (x2 : Int) : Prop := (¬ (f_X8_isEvent w x1) = 0 → (s_X2_allows w 12 x1 x2) ∧ True) ∧ True
set_option maxRecDepth 100000 in
theorem t_X8_can {sh : List z_C} {w : Nat → Int → Int} {Q : Option z_V → z_S → Prop} {x1 : Int} {x2 : Int} (hh0 : z_isTG sh 0) (hs : s_X8_can w x1 x2) (h : Q (some (z_i (f_X8_can w x1 x2))) (sh, w)) : z_Sem mX8_can (sh.length, 0) 0 [(0, z_r 0), (1, z_i x1), (2, z_i x2)] [] (sh, w) Q := by
  unfold f_X8_can at h
  unfold s_X8_can at hs
  refine z_aload_n 0 dX8_can_0 rfl rfl ?_
  refine z_iload_n 1 dX8_can_1 rfl rfl ?_
  refine z_callV (As := [z_i x1]) (rest := []) zmX8_isEvent znX8_isEvent zsX8_isEvent (show z_Cl[8]? = some (RX8, TX8, 9) from rfl) zlRX8_163 ⟨Nat.le_of_ble_eq_true rfl, Nat.le_of_ble_eq_true rfl⟩ dX8_can_2 hh0.1 rfl rfl (z_ai z_a0) (Nat.le_of_ble_eq_true rfl) (Nat.le_of_ble_eq_true rfl) ⟨rfl, rfl⟩ ?_
  refine t_X8_isEvent hh0 ?_
  show z_Sem mX8_can (sh.length, 0) 5 [(0, z_r 0), (1, z_i x1), (2, z_i x2)] [z_i (f_X8_isEvent w x1)] (sh, w) Q
  obtain ⟨m3, hs⟩ := hs
  suffices hJ1 : z_Sem mX8_can (sh.length, 0) 24 [] [z_i (if (f_X8_isEvent w x1) = 0 then -1 else f_X8_asNumber w (f_X2_allows w 12 x1 x2))] (sh, w) Q by
    refine z_if_eq (tgt := 23) dX8_can_5 (by decide) (fun c2 => ?_) (fun c2 => ?_)
    · skip
      refine z_iconst dX8_can_23 (by decide) ?_
      refine z_sub (L' := []) [] rfl ?_
      simp only [if_pos c2] at hJ1
      exact hJ1
    · skip
      have ho5 := m3 c2
      refine z_aload_n 0 dX8_can_8 rfl rfl ?_
      refine z_getR (r := 12) zfRX8_19 dX8_can_9 hh0.1 rfl ?_
      refine z_iload_n 1 dX8_can_12 rfl rfl ?_
      refine z_iload_n 2 dX8_can_13 rfl rfl ?_
      obtain ⟨q6, ho5⟩ := ho5
      refine z_callV (As := [z_i x1, z_i x2]) (rest := []) zmX2_allows znX2_allows zsX2_allows (show z_Cl[2]? = some (RX2, TX2, 7) from rfl) zlRX8_172 ⟨Nat.le_of_ble_eq_true rfl, Nat.le_of_ble_eq_true rfl⟩ dX8_can_14 hh0.2.2.1.1 rfl rfl (z_ai (z_ai z_a0)) (Nat.le_of_ble_eq_true rfl) (Nat.le_of_ble_eq_true rfl) ⟨rfl, rfl⟩ ?_
      refine t_X2_allows hh0.2.2.1 q6 ?_
      show z_Sem mX8_can (sh.length, 0) 17 [(0, z_r 0), (1, z_i x1), (2, z_i x2)] [z_i (f_X2_allows w 12 x1 x2)] (sh, w) Q
      refine z_callS (As := [z_i (f_X2_allows w 12 x1 x2)]) (rest := []) zmX8_asNumber ztX8_asNumber zlRX8_159 ⟨Nat.le_of_ble_eq_true rfl, Nat.le_of_ble_eq_true rfl⟩ dX8_can_17 rfl rfl (z_ai z_a0) (Nat.le_of_ble_eq_true rfl) (Nat.le_of_ble_eq_true rfl) ⟨rfl, rfl⟩ ?_
      refine t_X8_asNumber  ?_
      show z_Sem mX8_can (sh.length, 0) 20 [(0, z_r 0), (1, z_i x1), (2, z_i x2)] [z_i (f_X8_asNumber w (f_X2_allows w 12 x1 x2))] (sh, w) Q
      refine z_goto (tgt := 24) dX8_can_20 (by decide) ?_
      refine z_sub (L' := []) [] rfl ?_
      simp only [if_neg c2] at hJ1
      exact hJ1
  exact z_ret (v := some (z_i (if (f_X8_isEvent w x1) = 0 then -1 else f_X8_asNumber w (f_X2_allows w 12 x1 x2)))) dX8_can_24 ⟨rfl, Or.inl rfl⟩ rfl h
set_option maxRecDepth 100000 in
theorem t_X8_freest {sh : List z_C} {w : Nat → Int → Int} {Q : Option z_V → z_S → Prop}  (hh0 : z_isTG sh 0) (h : z_Sem mX8_freest (sh.length, 0) 4 [(0, z_r 0), (1, z_i 0), (2, z_i 1)] [] (sh, w) Q) : z_Sem mX8_freest (sh.length, 0) 0 [(0, z_r 0)] [] (sh, w) Q := by
  refine z_iconst dX8_freest_0 (by decide) ?_
  refine z_istore_n (L' := [(1, z_i 0), (0, z_r 0)]) dX8_freest_1 rfl (by decide) rfl ?_
  refine z_iconst dX8_freest_2 (by decide) ?_
  refine z_istore_n (L' := [(2, z_i 1), (1, z_i 0), (0, z_r 0)]) dX8_freest_3 rfl (by decide) rfl ?_
  refine z_sub (L' := [(0, z_r 0), (1, z_i 0), (2, z_i 1)]) [2, 1, 0] rfl ?_
  exact h
set_option maxRecDepth 100000 in
theorem t_X8_freest_4 {sh : List z_C} {w : Nat → Int → Int} {Q : Option z_V → z_S → Prop} {x1 : Int} {x2 : Int} (hh0 : z_isTG sh 0) (h : (((w 1 10) ≤ x2 → Q (some (z_i x1)) (sh, w)) ∧ (¬ (w 1 10) ≤ x2 → (s_X2_possibleTimes w 12 x2) ∧ (s_X2_possibleTimes w 12 x1) ∧ (z_R (x2 + 1)) ∧ z_Sem mX8_freest (sh.length, 0) 4 [(0, z_r 0), (1, z_i (if (f_X2_possibleTimes w 12 x2) ≤ (f_X2_possibleTimes w 12 x1) then x1 else x2)), (2, z_i (x2 + 1))] [] (sh, w) Q))) : z_Sem mX8_freest (sh.length, 0) 4 [(0, z_r 0), (1, z_i x1), (2, z_i x2)] [] (sh, w) Q := by
  refine z_iload_n 2 dX8_freest_4 rfl rfl ?_
  refine z_aload_n 0 dX8_freest_5 rfl rfl ?_
  refine z_getR (r := 1) zfRX8_12 dX8_freest_6 hh0.1 rfl ?_
  refine z_getI (ki := 10) zfRX8_102 dX8_freest_9 hh0.2.1.1 rfl rfl ?_
  refine z_icmp_ge (tgt := 42) dX8_freest_12 (by decide) (fun c1 => ?_) (fun c1 => ?_)
  · replace h := h.1 c1
    refine z_iload_n 1 dX8_freest_42 rfl rfl ?_
    exact z_ret (v := some (z_i x1)) dX8_freest_43 ⟨rfl, Or.inl rfl⟩ rfl h
  · replace h := h.2 c1
    refine z_aload_n 0 dX8_freest_15 rfl rfl ?_
    refine z_getR (r := 12) zfRX8_19 dX8_freest_16 hh0.1 rfl ?_
    refine z_iload_n 2 dX8_freest_19 rfl rfl ?_
    obtain ⟨q2, h⟩ := h
    refine z_callV (As := [z_i x2]) (rest := []) zmX2_possibleTimes znX2_possibleTimes zsX2_possibleTimes (show z_Cl[2]? = some (RX2, TX2, 7) from rfl) zlRX8_276 ⟨Nat.le_of_ble_eq_true rfl, Nat.le_of_ble_eq_true rfl⟩ dX8_freest_20 hh0.2.2.1.1 rfl rfl (z_ai z_a0) (Nat.le_of_ble_eq_true rfl) (Nat.le_of_ble_eq_true rfl) ⟨rfl, rfl⟩ ?_
    refine t_X2_possibleTimes hh0.2.2.1 q2 ?_
    show z_Sem mX8_freest (sh.length, 0) 23 [(0, z_r 0), (1, z_i x1), (2, z_i x2)] [z_i (f_X2_possibleTimes w 12 x2)] (sh, w) Q
    refine z_aload_n 0 dX8_freest_23 rfl rfl ?_
    refine z_getR (r := 12) zfRX8_19 dX8_freest_24 hh0.1 rfl ?_
    refine z_iload_n 1 dX8_freest_27 rfl rfl ?_
    obtain ⟨q3, h⟩ := h
    refine z_callV (As := [z_i x1]) (rest := [z_i (f_X2_possibleTimes w 12 x2)]) zmX2_possibleTimes znX2_possibleTimes zsX2_possibleTimes (show z_Cl[2]? = some (RX2, TX2, 7) from rfl) zlRX8_276 ⟨Nat.le_of_ble_eq_true rfl, Nat.le_of_ble_eq_true rfl⟩ dX8_freest_28 hh0.2.2.1.1 rfl rfl (z_ai z_a0) (Nat.le_of_ble_eq_true rfl) (Nat.le_of_ble_eq_true rfl) ⟨rfl, rfl⟩ ?_
    refine t_X2_possibleTimes hh0.2.2.1 q3 ?_
    show z_Sem mX8_freest (sh.length, 0) 31 [(0, z_r 0), (1, z_i x1), (2, z_i x2)] [z_i (f_X2_possibleTimes w 12 x1), z_i (f_X2_possibleTimes w 12 x2)] (sh, w) Q
    suffices hJ4 : z_Sem mX8_freest (sh.length, 0) 36 [(0, z_r 0), (1, z_i (if (f_X2_possibleTimes w 12 x2) ≤ (f_X2_possibleTimes w 12 x1) then x1 else x2)), (2, z_i x2)] [] (sh, w) Q by
      refine z_icmp_le (tgt := 36) dX8_freest_31 (by decide) (fun c5 => ?_) (fun c5 => ?_)
      · skip
        simp only [if_pos c5] at hJ4
        exact hJ4
      · skip
        refine z_iload_n 2 dX8_freest_34 rfl rfl ?_
        refine z_istore_n (L' := [(1, z_i x2), (0, z_r 0), (2, z_i x2)]) dX8_freest_35 rfl (by decide) rfl ?_
        refine z_sub (L' := [(0, z_r 0), (1, z_i x2), (2, z_i x2)]) [1, 0, 2] rfl ?_
        simp only [if_neg c5] at hJ4
        exact hJ4
    obtain ⟨q8, h⟩ := h
    refine z_iinc (L' := [(2, z_i (x2 + 1)), (0, z_r 0), (1, z_i (if (f_X2_possibleTimes w 12 x2) ≤ (f_X2_possibleTimes w 12 x1) then x1 else x2))]) 2 dX8_freest_36 rfl (by decide) rfl q8 ?_
    refine z_goto (tgt := 4) dX8_freest_39 (by decide) ?_
    refine z_sub (L' := [(0, z_r 0), (1, z_i (if (f_X2_possibleTimes w 12 x2) ≤ (f_X2_possibleTimes w 12 x1) then x1 else x2)), (2, z_i (x2 + 1))]) [1, 2, 0] rfl ?_
    exact h
set_option maxRecDepth 100000 in
theorem t_X8_stepOfRing {sh : List z_C} {w : Nat → Int → Int} {Q : Option z_V → z_S → Prop} {x1 : Int} {x2 : Int} {x3 : Int} {x4 : Int} (hh0 : z_isTG sh 0) (h : z_CI mX2_stepOfWay [z_r 12, z_i (f_X8_stepFinish w x1 x2 x3), z_i (f_X8_stepBegin w x1 x2 x3), z_i x4] sh w (fun y2 w1 => Q (some (z_i y2)) (sh, w1))) : z_Sem mX8_stepOfRing (sh.length, 0) 0 [(0, z_r 0), (1, z_i x1), (2, z_i x2), (3, z_i x3), (4, z_i x4)] [] (sh, w) Q := by
  refine z_aload_n 0 dX8_stepOfRing_0 rfl rfl ?_
  refine z_getR (r := 12) zfRX8_19 dX8_stepOfRing_1 hh0.1 rfl ?_
  refine z_iload_n 1 dX8_stepOfRing_4 rfl rfl ?_
  refine z_iload_n 2 dX8_stepOfRing_5 rfl rfl ?_
  refine z_iload_n 3 dX8_stepOfRing_6 rfl rfl ?_
  refine z_callS (As := [z_i x1, z_i x2, z_i x3]) (rest := [z_r 12]) zmX8_stepFinish ztX8_stepFinish zlRX8_379 ⟨Nat.le_of_ble_eq_true rfl, Nat.le_of_ble_eq_true rfl⟩ dX8_stepOfRing_7 rfl rfl (z_ai (z_ai (z_ai z_a0))) (Nat.le_of_ble_eq_true rfl) (Nat.le_of_ble_eq_true rfl) ⟨rfl, rfl⟩ ?_
  refine t_X8_stepFinish  ?_
  show z_Sem mX8_stepOfRing (sh.length, 0) 10 [(0, z_r 0), (1, z_i x1), (2, z_i x2), (3, z_i x3), (4, z_i x4)] [z_i (f_X8_stepFinish w x1 x2 x3), z_r 12] (sh, w) Q
  refine z_iload_n 1 dX8_stepOfRing_10 rfl rfl ?_
  refine z_iload_n 2 dX8_stepOfRing_11 rfl rfl ?_
  refine z_iload_n 3 dX8_stepOfRing_12 rfl rfl ?_
  refine z_callS (As := [z_i x1, z_i x2, z_i x3]) (rest := [z_i (f_X8_stepFinish w x1 x2 x3), z_r 12]) zmX8_stepBegin ztX8_stepBegin zlRX8_376 ⟨Nat.le_of_ble_eq_true rfl, Nat.le_of_ble_eq_true rfl⟩ dX8_stepOfRing_13 rfl rfl (z_ai (z_ai (z_ai z_a0))) (Nat.le_of_ble_eq_true rfl) (Nat.le_of_ble_eq_true rfl) ⟨rfl, rfl⟩ ?_
  refine t_X8_stepBegin  ?_
  show z_Sem mX8_stepOfRing (sh.length, 0) 16 [(0, z_r 0), (1, z_i x1), (2, z_i x2), (3, z_i x3), (4, z_i x4)] [z_i (f_X8_stepBegin w x1 x2 x3), z_i (f_X8_stepFinish w x1 x2 x3), z_r 12] (sh, w) Q
  refine z_iload 4 dX8_stepOfRing_16 rfl ?_
  refine z_callV (As := [z_i (f_X8_stepFinish w x1 x2 x3), z_i (f_X8_stepBegin w x1 x2 x3), z_i x4]) (rest := []) zmX2_stepOfWay znX2_stepOfWay zsX2_stepOfWay (show z_Cl[2]? = some (RX2, TX2, 7) from rfl) zlRX8_289 ⟨Nat.le_of_ble_eq_true rfl, Nat.le_of_ble_eq_true rfl⟩ dX8_stepOfRing_18 hh0.2.2.1.1 rfl rfl (z_ai (z_ai (z_ai z_a0))) (Nat.le_of_ble_eq_true rfl) (Nat.le_of_ble_eq_true rfl) ⟨rfl, rfl⟩ (z_CIm h ?_)
  intro y2 w1 h
  show z_Sem mX8_stepOfRing (sh.length, 0) 21 [(0, z_r 0), (1, z_i x1), (2, z_i x2), (3, z_i x3), (4, z_i x4)] [z_i y2] (sh, w1) Q
  exact z_ret (v := some (z_i y2)) dX8_stepOfRing_21 ⟨rfl, Or.inl rfl⟩ rfl h
set_option maxRecDepth 100000 in
theorem t_X8_why {sh : List z_C} {w : Nat → Int → Int} {Q : Option z_V → z_S → Prop} {x1 : Int} {x2 : Int} {x3 : Int} {x4 : Int} {x5 : Int} (hh0 : z_isTG sh 0) (h : (((f_X8_isTellable w x1 x2 x3 x4) = 0 → Q (some (z_i (-1))) (sh, w)) ∧ (¬ (f_X8_isTellable w x1 x2 x3 x4) = 0 → ((x5 < 0 → Q (some (z_i (-1))) (sh, w)) ∧ (¬ x5 < 0 → ((x5 ≤ 2 → (s_X2_leastRing w 12 x1 x2 x3 x4) ∧ ∀ y5 : Int, y5 = (f_X2_leastRing w 12 x1 x2 x3 x4) → ((y5 < 0 → ((x5 = 0 → z_CI mX2_oneStepDenies [z_r 12, z_i x1, z_i x2, z_i x3, z_i x4] sh w (fun y9 w8 => Q (some (z_i (if y9 = 0 then 2 else 1))) (sh, w8))) ∧ (x5 = 1 → (z_R (-y5)) ∧ Q (some (z_i (-y5))) (sh, w)) ∧ (¬ x5 = 0 ∧ ¬ x5 = 1 → z_CI mX8_stepOfRing [z_r 0, z_i x1, z_i x2, z_i x3, z_i 0] sh w (fun y16 w15 => Q (some (z_i y16)) (sh, w15))))) ∧ (¬ y5 < 0 → Q (some (z_i (if x5 = 0 then 0 else -2))) (sh, w)))) ∧ (¬ x5 ≤ 2 → Q (some (z_i (-1))) (sh, w)))))))) : z_Sem mX8_why (sh.length, 0) 0 [(0, z_r 0), (1, z_i x1), (2, z_i x2), (3, z_i x3), (4, z_i x4), (5, z_i x5)] [] (sh, w) Q := by
  refine z_aload_n 0 dX8_why_0 rfl rfl ?_
  refine z_iload_n 1 dX8_why_1 rfl rfl ?_
  refine z_iload_n 2 dX8_why_2 rfl rfl ?_
  refine z_iload_n 3 dX8_why_3 rfl rfl ?_
  refine z_iload 4 dX8_why_4 rfl ?_
  refine z_callV (As := [z_i x1, z_i x2, z_i x3, z_i x4]) (rest := []) zmX8_isTellable znX8_isTellable zsX8_isTellable (show z_Cl[8]? = some (RX8, TX8, 9) from rfl) zlRX8_116 ⟨Nat.le_of_ble_eq_true rfl, Nat.le_of_ble_eq_true rfl⟩ dX8_why_6 hh0.1 rfl rfl (z_ai (z_ai (z_ai (z_ai z_a0)))) (Nat.le_of_ble_eq_true rfl) (Nat.le_of_ble_eq_true rfl) ⟨rfl, rfl⟩ ?_
  refine t_X8_isTellable hh0 ?_
  show z_Sem mX8_why (sh.length, 0) 9 [(0, z_r 0), (1, z_i x1), (2, z_i x2), (3, z_i x3), (4, z_i x4), (5, z_i x5)] [z_i (f_X8_isTellable w x1 x2 x3 x4)] (sh, w) Q
  refine z_if_eq (tgt := 23) dX8_why_9 (by decide) (fun c1 => ?_) (fun c1 => ?_)
  · replace h := h.1 c1
    refine z_iconst dX8_why_23 (by decide) ?_
    exact z_ret (v := some (z_i (-1))) dX8_why_24 ⟨rfl, Or.inl rfl⟩ rfl h
  · replace h := h.2 c1
    refine z_iload 5 dX8_why_12 rfl ?_
    refine z_if_lt (tgt := 23) dX8_why_14 (by decide) (fun c2 => ?_) (fun c2 => ?_)
    · replace h := h.1 c2
      refine z_iconst dX8_why_23 (by decide) ?_
      exact z_ret (v := some (z_i (-1))) dX8_why_24 ⟨rfl, Or.inl rfl⟩ rfl h
    · replace h := h.2 c2
      refine z_iload 5 dX8_why_17 rfl ?_
      refine z_iconst dX8_why_19 (by decide) ?_
      refine z_icmp_le (tgt := 25) dX8_why_20 (by decide) (fun c3 => ?_) (fun c3 => ?_)
      · replace h := h.1 c3
        refine z_aload_n 0 dX8_why_25 rfl rfl ?_
        refine z_getR (r := 12) zfRX8_19 dX8_why_26 hh0.1 rfl ?_
        refine z_iload_n 1 dX8_why_29 rfl rfl ?_
        refine z_iload_n 2 dX8_why_30 rfl rfl ?_
        refine z_iload_n 3 dX8_why_31 rfl rfl ?_
        refine z_iload 4 dX8_why_32 rfl ?_
        obtain ⟨q4, h⟩ := h
        refine z_callV (As := [z_i x1, z_i x2, z_i x3, z_i x4]) (rest := []) zmX2_leastRing znX2_leastRing zsX2_leastRing (show z_Cl[2]? = some (RX2, TX2, 7) from rfl) zlRX8_120 ⟨Nat.le_of_ble_eq_true rfl, Nat.le_of_ble_eq_true rfl⟩ dX8_why_34 hh0.2.2.1.1 rfl rfl (z_ai (z_ai (z_ai (z_ai z_a0)))) (Nat.le_of_ble_eq_true rfl) (Nat.le_of_ble_eq_true rfl) ⟨rfl, rfl⟩ ?_
        refine t_X2_leastRing hh0.2.2.1 q4 ?_
        show z_Sem mX8_why (sh.length, 0) 37 [(0, z_r 0), (1, z_i x1), (2, z_i x2), (3, z_i x3), (4, z_i x4), (5, z_i x5)] [z_i (f_X2_leastRing w 12 x1 x2 x3 x4)] (sh, w) Q
        refine z_nam (fun y5 hy5 => ?_)
        replace h := h y5 hy5
        refine z_istore (L' := [(6, z_i y5), (0, z_r 0), (1, z_i x1), (2, z_i x2), (3, z_i x3), (4, z_i x4), (5, z_i x5)]) dX8_why_37 (by decide) rfl ?_
        refine z_iload 0 dX8_why_39 rfl ?_
        refine z_if_lt (tgt := 56) dX8_why_41 (by decide) (fun c6 => ?_) (fun c6 => ?_)
        · replace h := h.1 c6
          refine z_iload 6 dX8_why_56 rfl ?_
          rcases Decidable.em (x5 = 0) with c7 | c7_0
          · replace h := h.1 c7
            refine z_look (off := 26) (tgt := 84) dX8_why_58 (by decide) (by rw [c7]; rfl) (by decide) ?_
            refine z_aload_n 1 dX8_why_84 rfl rfl ?_
            refine z_getR (r := 12) zfRX8_19 dX8_why_85 hh0.1 rfl ?_
            refine z_iload_n 2 dX8_why_88 rfl rfl ?_
            refine z_iload_n 3 dX8_why_89 rfl rfl ?_
            refine z_iload_n 4 dX8_why_90 rfl rfl ?_
            refine z_iload 5 dX8_why_91 rfl ?_
            refine z_callV (As := [z_i x1, z_i x2, z_i x3, z_i x4]) (rest := []) zmX2_oneStepDenies znX2_oneStepDenies zsX2_oneStepDenies (show z_Cl[2]? = some (RX2, TX2, 7) from rfl) zlRX8_319 ⟨Nat.le_of_ble_eq_true rfl, Nat.le_of_ble_eq_true rfl⟩ dX8_why_93 hh0.2.2.1.1 rfl rfl (z_ai (z_ai (z_ai (z_ai z_a0)))) (Nat.le_of_ble_eq_true rfl) (Nat.le_of_ble_eq_true rfl) ⟨rfl, rfl⟩ (z_CIm h ?_)
            intro y9 w8 h
            show z_Sem mX8_why (sh.length, 0) 96 [(6, z_i y5), (0, z_r 0), (1, z_i x1), (2, z_i x2), (3, z_i x3), (4, z_i x4), (5, z_i x5)] [z_i y9] (sh, w8) Q
            suffices hJ10 : z_Sem mX8_why (sh.length, 0) 104 [] [z_i (if y9 = 0 then 2 else 1)] (sh, w8) Q by
              refine z_if_eq (tgt := 103) dX8_why_96 (by decide) (fun c11 => ?_) (fun c11 => ?_)
              · skip
                refine z_iconst dX8_why_103 (by decide) ?_
                refine z_sub (L' := []) [] rfl ?_
                simp only [if_pos c11] at hJ10
                exact hJ10
              · skip
                refine z_iconst dX8_why_99 (by decide) ?_
                refine z_goto (tgt := 104) dX8_why_100 (by decide) ?_
                refine z_sub (L' := []) [] rfl ?_
                simp only [if_neg c11] at hJ10
                exact hJ10
            exact z_ret (v := some (z_i (if y9 = 0 then 2 else 1))) dX8_why_104 ⟨rfl, Or.inl rfl⟩ rfl h
          rcases Decidable.em (x5 = 1) with c7 | c7_1
          · replace h := h.2.1 c7
            refine z_look (off := 47) (tgt := 105) dX8_why_58 (by decide) (by rw [c7]; rfl) (by decide) ?_
            refine z_iload 0 dX8_why_105 rfl ?_
            obtain ⟨q14, h⟩ := h
            refine z_ineg dX8_why_107 q14 ?_
            exact z_ret (v := some (z_i (-y5))) dX8_why_108 ⟨rfl, Or.inl rfl⟩ rfl h
          replace h := h.2.2 ⟨c7_0, c7_1⟩
          refine z_look (off := 51) (tgt := 109) dX8_why_58 (by decide) (z_lkd (List.forall_mem_cons.mpr ⟨fun e => c7_0 e.symm, List.forall_mem_cons.mpr ⟨fun e => c7_1 e.symm, fun _ h => by cases h⟩⟩)) (by decide) ?_
          refine z_aload_n 1 dX8_why_109 rfl rfl ?_
          refine z_iload_n 2 dX8_why_110 rfl rfl ?_
          refine z_iload_n 3 dX8_why_111 rfl rfl ?_
          refine z_iload_n 4 dX8_why_112 rfl rfl ?_
          refine z_iconst dX8_why_113 (by decide) ?_
          refine z_callV (As := [z_i x1, z_i x2, z_i x3, z_i 0]) (rest := []) zmX8_stepOfRing znX8_stepOfRing zsX8_stepOfRing (show z_Cl[8]? = some (RX8, TX8, 9) from rfl) zlRX8_322 ⟨Nat.le_of_ble_eq_true rfl, Nat.le_of_ble_eq_true rfl⟩ dX8_why_114 hh0.1 rfl rfl (z_ai (z_ai (z_ai (z_ai z_a0)))) (Nat.le_of_ble_eq_true rfl) (Nat.le_of_ble_eq_true rfl) ⟨rfl, rfl⟩ (z_CIm h ?_)
          intro y16 w15 h
          show z_Sem mX8_why (sh.length, 0) 117 [(6, z_i y5), (0, z_r 0), (1, z_i x1), (2, z_i x2), (3, z_i x3), (4, z_i x4), (5, z_i x5)] [z_i y16] (sh, w15) Q
          exact z_ret (v := some (z_i y16)) dX8_why_117 ⟨rfl, Or.inl rfl⟩ rfl h
        · replace h := h.2 c6
          refine z_iload 6 dX8_why_44 rfl ?_
          suffices hJ17 : z_Sem mX8_why (sh.length, 0) 55 [] [z_i (if x5 = 0 then 0 else -2)] (sh, w) Q by
            refine z_if_ne (tgt := 53) dX8_why_46 (by decide) (fun c18 => ?_) (fun c18 => ?_)
            · skip
              refine z_bipush dX8_why_53 (by decide) (by decide) ?_
              refine z_sub (L' := []) [] rfl ?_
              simp only [if_neg c18] at hJ17
              exact hJ17
            · skip
              refine z_iconst dX8_why_49 (by decide) ?_
              refine z_goto (tgt := 55) dX8_why_50 (by decide) ?_
              refine z_sub (L' := []) [] rfl ?_
              simp only [if_pos c18] at hJ17
              exact hJ17
          exact z_ret (v := some (z_i (if x5 = 0 then 0 else -2))) dX8_why_55 ⟨rfl, Or.inl rfl⟩ rfl h
      · replace h := h.2 c3
        refine z_iconst dX8_why_23 (by decide) ?_
        exact z_ret (v := some (z_i (-1))) dX8_why_24 ⟨rfl, Or.inl rfl⟩ rfl h
set_option maxRecDepth 100000 in
theorem t_X8_ring {sh : List z_C} {w : Nat → Int → Int} {Q : Option z_V → z_S → Prop} {x1 : Int} {x2 : Int} {x3 : Int} {x4 : Int} {x5 : Int} (hh0 : z_isTG sh 0) (h : (((f_X8_isTellable w x1 x2 x3 x4) = 0 → Q (some (z_i (-1))) (sh, w)) ∧ (¬ (f_X8_isTellable w x1 x2 x3 x4) = 0 → ((0 ≤ x5 → (s_X2_leastRing w 12 x1 x2 x3 x4) ∧ (((f_X2_leastRing w 12 x1 x2 x3 x4) < 0 → z_CI mX8_stepOfRing [z_r 0, z_i x1, z_i x2, z_i x3, z_i x5] sh w (fun y6 w5 => Q (some (z_i y6)) (sh, w5))) ∧ (¬ (f_X2_leastRing w 12 x1 x2 x3 x4) < 0 → Q (some (z_i (-2))) (sh, w)))) ∧ (¬ 0 ≤ x5 → Q (some (z_i (-1))) (sh, w)))))) : z_Sem mX8_ring (sh.length, 0) 0 [(0, z_r 0), (1, z_i x1), (2, z_i x2), (3, z_i x3), (4, z_i x4), (5, z_i x5)] [] (sh, w) Q := by
  refine z_aload_n 0 dX8_ring_0 rfl rfl ?_
  refine z_iload_n 1 dX8_ring_1 rfl rfl ?_
  refine z_iload_n 2 dX8_ring_2 rfl rfl ?_
  refine z_iload_n 3 dX8_ring_3 rfl rfl ?_
  refine z_iload 4 dX8_ring_4 rfl ?_
  refine z_callV (As := [z_i x1, z_i x2, z_i x3, z_i x4]) (rest := []) zmX8_isTellable znX8_isTellable zsX8_isTellable (show z_Cl[8]? = some (RX8, TX8, 9) from rfl) zlRX8_116 ⟨Nat.le_of_ble_eq_true rfl, Nat.le_of_ble_eq_true rfl⟩ dX8_ring_6 hh0.1 rfl rfl (z_ai (z_ai (z_ai (z_ai z_a0)))) (Nat.le_of_ble_eq_true rfl) (Nat.le_of_ble_eq_true rfl) ⟨rfl, rfl⟩ ?_
  refine t_X8_isTellable hh0 ?_
  show z_Sem mX8_ring (sh.length, 0) 9 [(0, z_r 0), (1, z_i x1), (2, z_i x2), (3, z_i x3), (4, z_i x4), (5, z_i x5)] [z_i (f_X8_isTellable w x1 x2 x3 x4)] (sh, w) Q
  refine z_if_eq (tgt := 17) dX8_ring_9 (by decide) (fun c1 => ?_) (fun c1 => ?_)
  · replace h := h.1 c1
    refine z_iconst dX8_ring_17 (by decide) ?_
    exact z_ret (v := some (z_i (-1))) dX8_ring_18 ⟨rfl, Or.inl rfl⟩ rfl h
  · replace h := h.2 c1
    refine z_iload 5 dX8_ring_12 rfl ?_
    refine z_if_ge (tgt := 19) dX8_ring_14 (by decide) (fun c2 => ?_) (fun c2 => ?_)
    · replace h := h.1 c2
      refine z_aload_n 0 dX8_ring_19 rfl rfl ?_
      refine z_getR (r := 12) zfRX8_19 dX8_ring_20 hh0.1 rfl ?_
      refine z_iload_n 1 dX8_ring_23 rfl rfl ?_
      refine z_iload_n 2 dX8_ring_24 rfl rfl ?_
      refine z_iload_n 3 dX8_ring_25 rfl rfl ?_
      refine z_iload 4 dX8_ring_26 rfl ?_
      obtain ⟨q3, h⟩ := h
      refine z_callV (As := [z_i x1, z_i x2, z_i x3, z_i x4]) (rest := []) zmX2_leastRing znX2_leastRing zsX2_leastRing (show z_Cl[2]? = some (RX2, TX2, 7) from rfl) zlRX8_120 ⟨Nat.le_of_ble_eq_true rfl, Nat.le_of_ble_eq_true rfl⟩ dX8_ring_28 hh0.2.2.1.1 rfl rfl (z_ai (z_ai (z_ai (z_ai z_a0)))) (Nat.le_of_ble_eq_true rfl) (Nat.le_of_ble_eq_true rfl) ⟨rfl, rfl⟩ ?_
      refine t_X2_leastRing hh0.2.2.1 q3 ?_
      show z_Sem mX8_ring (sh.length, 0) 31 [(0, z_r 0), (1, z_i x1), (2, z_i x2), (3, z_i x3), (4, z_i x4), (5, z_i x5)] [z_i (f_X2_leastRing w 12 x1 x2 x3 x4)] (sh, w) Q
      refine z_if_lt (tgt := 37) dX8_ring_31 (by decide) (fun c4 => ?_) (fun c4 => ?_)
      · replace h := h.1 c4
        refine z_aload_n 0 dX8_ring_37 rfl rfl ?_
        refine z_iload_n 1 dX8_ring_38 rfl rfl ?_
        refine z_iload_n 2 dX8_ring_39 rfl rfl ?_
        refine z_iload_n 3 dX8_ring_40 rfl rfl ?_
        refine z_iload 5 dX8_ring_41 rfl ?_
        refine z_callV (As := [z_i x1, z_i x2, z_i x3, z_i x5]) (rest := []) zmX8_stepOfRing znX8_stepOfRing zsX8_stepOfRing (show z_Cl[8]? = some (RX8, TX8, 9) from rfl) zlRX8_322 ⟨Nat.le_of_ble_eq_true rfl, Nat.le_of_ble_eq_true rfl⟩ dX8_ring_43 hh0.1 rfl rfl (z_ai (z_ai (z_ai (z_ai z_a0)))) (Nat.le_of_ble_eq_true rfl) (Nat.le_of_ble_eq_true rfl) ⟨rfl, rfl⟩ (z_CIm h ?_)
        intro y6 w5 h
        show z_Sem mX8_ring (sh.length, 0) 46 [(0, z_r 0), (1, z_i x1), (2, z_i x2), (3, z_i x3), (4, z_i x4), (5, z_i x5)] [z_i y6] (sh, w5) Q
        exact z_ret (v := some (z_i y6)) dX8_ring_46 ⟨rfl, Or.inl rfl⟩ rfl h
      · replace h := h.2 c4
        refine z_bipush dX8_ring_34 (by decide) (by decide) ?_
        exact z_ret (v := some (z_i (-2))) dX8_ring_36 ⟨rfl, Or.inl rfl⟩ rfl h
    · replace h := h.2 c2
      refine z_iconst dX8_ring_17 (by decide) ?_
      exact z_ret (v := some (z_i (-1))) dX8_ring_18 ⟨rfl, Or.inl rfl⟩ rfl h
set_option maxRecDepth 100000 in
theorem t_X8_culprit {sh : List z_C} {w : Nat → Int → Int} {Q : Option z_V → z_S → Prop} {x1 : Int} {x2 : Int} {x3 : Int} {x4 : Int} (hh0 : z_isTG sh 0) (h : (((f_X8_isTellable w x1 x2 x3 x4) = 0 → Q (some (z_i (-1))) (sh, w)) ∧ (¬ (f_X8_isTellable w x1 x2 x3 x4) = 0 → (s_X2_leastRing w 12 x1 x2 x3 x4) ∧ (((f_X2_leastRing w 12 x1 x2 x3 x4) < 0 → z_Sem mX8_culprit (sh.length, 0) 35 [(0, z_r 0), (1, z_i x1), (2, z_i x2), (3, z_i x3), (4, z_i x4), (5, z_i 0)] [] (sh, w) Q) ∧ (¬ (f_X2_leastRing w 12 x1 x2 x3 x4) < 0 → Q (some (z_i (-2))) (sh, w)))))) : z_Sem mX8_culprit (sh.length, 0) 0 [(0, z_r 0), (1, z_i x1), (2, z_i x2), (3, z_i x3), (4, z_i x4)] [] (sh, w) Q := by
  refine z_aload_n 0 dX8_culprit_0 rfl rfl ?_
  refine z_iload_n 1 dX8_culprit_1 rfl rfl ?_
  refine z_iload_n 2 dX8_culprit_2 rfl rfl ?_
  refine z_iload_n 3 dX8_culprit_3 rfl rfl ?_
  refine z_iload 4 dX8_culprit_4 rfl ?_
  refine z_callV (As := [z_i x1, z_i x2, z_i x3, z_i x4]) (rest := []) zmX8_isTellable znX8_isTellable zsX8_isTellable (show z_Cl[8]? = some (RX8, TX8, 9) from rfl) zlRX8_116 ⟨Nat.le_of_ble_eq_true rfl, Nat.le_of_ble_eq_true rfl⟩ dX8_culprit_6 hh0.1 rfl rfl (z_ai (z_ai (z_ai (z_ai z_a0)))) (Nat.le_of_ble_eq_true rfl) (Nat.le_of_ble_eq_true rfl) ⟨rfl, rfl⟩ ?_
  refine t_X8_isTellable hh0 ?_
  show z_Sem mX8_culprit (sh.length, 0) 9 [(0, z_r 0), (1, z_i x1), (2, z_i x2), (3, z_i x3), (4, z_i x4)] [z_i (f_X8_isTellable w x1 x2 x3 x4)] (sh, w) Q
  refine z_if_ne (tgt := 14) dX8_culprit_9 (by decide) (fun c1 => ?_) (fun c1 => ?_)
  · replace h := h.2 c1
    refine z_aload_n 0 dX8_culprit_14 rfl rfl ?_
    refine z_getR (r := 12) zfRX8_19 dX8_culprit_15 hh0.1 rfl ?_
    refine z_iload_n 1 dX8_culprit_18 rfl rfl ?_
    refine z_iload_n 2 dX8_culprit_19 rfl rfl ?_
    refine z_iload_n 3 dX8_culprit_20 rfl rfl ?_
    refine z_iload 4 dX8_culprit_21 rfl ?_
    obtain ⟨q2, h⟩ := h
    refine z_callV (As := [z_i x1, z_i x2, z_i x3, z_i x4]) (rest := []) zmX2_leastRing znX2_leastRing zsX2_leastRing (show z_Cl[2]? = some (RX2, TX2, 7) from rfl) zlRX8_120 ⟨Nat.le_of_ble_eq_true rfl, Nat.le_of_ble_eq_true rfl⟩ dX8_culprit_23 hh0.2.2.1.1 rfl rfl (z_ai (z_ai (z_ai (z_ai z_a0)))) (Nat.le_of_ble_eq_true rfl) (Nat.le_of_ble_eq_true rfl) ⟨rfl, rfl⟩ ?_
    refine t_X2_leastRing hh0.2.2.1 q2 ?_
    show z_Sem mX8_culprit (sh.length, 0) 26 [(0, z_r 0), (1, z_i x1), (2, z_i x2), (3, z_i x3), (4, z_i x4)] [z_i (f_X2_leastRing w 12 x1 x2 x3 x4)] (sh, w) Q
    refine z_if_lt (tgt := 32) dX8_culprit_26 (by decide) (fun c3 => ?_) (fun c3 => ?_)
    · replace h := h.1 c3
      refine z_iconst dX8_culprit_32 (by decide) ?_
      refine z_istore (L' := [(5, z_i 0), (0, z_r 0), (1, z_i x1), (2, z_i x2), (3, z_i x3), (4, z_i x4)]) dX8_culprit_33 (by decide) rfl ?_
      refine z_sub (L' := [(0, z_r 0), (1, z_i x1), (2, z_i x2), (3, z_i x3), (4, z_i x4), (5, z_i 0)]) [1, 2, 3, 4, 5, 0] rfl ?_
      exact h
    · replace h := h.2 c3
      refine z_bipush dX8_culprit_29 (by decide) (by decide) ?_
      exact z_ret (v := some (z_i (-2))) dX8_culprit_31 ⟨rfl, Or.inl rfl⟩ rfl h
  · replace h := h.1 c1
    refine z_iconst dX8_culprit_12 (by decide) ?_
    exact z_ret (v := some (z_i (-1))) dX8_culprit_13 ⟨rfl, Or.inl rfl⟩ rfl h
set_option maxRecDepth 100000 in
theorem t_X8_culprit_35 {sh : List z_C} {w : Nat → Int → Int} {Q : Option z_V → z_S → Prop} {x1 : Int} {x2 : Int} {x3 : Int} {x4 : Int} {x5 : Int} (hh0 : z_isTG sh 0) (h : (((w 1 11) ≤ x5 → Q (some (z_i (-2))) (sh, w)) ∧ (¬ (w 1 11) ≤ x5 → ((0 : Int) ≤ x5 ∧ x5 < 24) ∧ (((w 9 x5) = 0 → (z_R (x5 + 1)) ∧ z_Sem mX8_culprit (sh.length, 0) 35 [(0, z_r 0), (1, z_i x1), (2, z_i x2), (3, z_i x3), (4, z_i x4), (5, z_i (x5 + 1))] [] (sh, w) Q) ∧ (¬ (w 9 x5) = 0 → z_CV mX8_tryWithout [z_r 0, z_i x5] sh w (fun w5 => (s_X2_leastRing w5 18 x1 x2 x3 x4) ∧ (((f_X2_leastRing w5 18 x1 x2 x3 x4) < 0 → (z_R (x5 + 1)) ∧ z_Sem mX8_culprit (sh.length, 0) 35 [(0, z_r 0), (1, z_i x1), (2, z_i x2), (3, z_i x3), (4, z_i x4), (5, z_i (x5 + 1))] [] (sh, w5) Q) ∧ (¬ (f_X2_leastRing w5 18 x1 x2 x3 x4) < 0 → Q (some (z_i x5)) (sh, w5))))))))) : z_Sem mX8_culprit (sh.length, 0) 35 [(0, z_r 0), (1, z_i x1), (2, z_i x2), (3, z_i x3), (4, z_i x4), (5, z_i x5)] [] (sh, w) Q := by
  refine z_iload 5 dX8_culprit_35 rfl ?_
  refine z_aload_n 0 dX8_culprit_37 rfl rfl ?_
  refine z_getR (r := 1) zfRX8_12 dX8_culprit_38 hh0.1 rfl ?_
  refine z_getI (ki := 11) zfRX8_96 dX8_culprit_41 hh0.2.1.1 rfl rfl ?_
  refine z_icmp_ge (tgt := 90) dX8_culprit_44 (by decide) (fun c1 => ?_) (fun c1 => ?_)
  · replace h := h.1 c1
    refine z_bipush dX8_culprit_90 (by decide) (by decide) ?_
    exact z_ret (v := some (z_i (-2))) dX8_culprit_92 ⟨rfl, Or.inl rfl⟩ rfl h
  · replace h := h.2 c1
    refine z_aload_n 0 dX8_culprit_47 rfl rfl ?_
    refine z_getR (r := 1) zfRX8_12 dX8_culprit_48 hh0.1 rfl ?_
    refine z_getR (r := 9) zfRX8_151 dX8_culprit_51 hh0.2.1.1 rfl ?_
    refine z_iload 5 dX8_culprit_54 rfl ?_
    obtain ⟨q2, h⟩ := h
    refine z_zald dX8_culprit_56 hh0.2.1.2.2.2.2.2.2.2.2.1 q2 ?_
    refine z_if_eq (tgt := 84) dX8_culprit_57 (by decide) (fun c3 => ?_) (fun c3 => ?_)
    · replace h := h.1 c3
      obtain ⟨q4, h⟩ := h
      refine z_iinc (L' := [(5, z_i (x5 + 1)), (0, z_r 0), (1, z_i x1), (2, z_i x2), (3, z_i x3), (4, z_i x4)]) 5 dX8_culprit_84 rfl (by decide) rfl q4 ?_
      refine z_goto (tgt := 35) dX8_culprit_87 (by decide) ?_
      refine z_sub (L' := [(0, z_r 0), (1, z_i x1), (2, z_i x2), (3, z_i x3), (4, z_i x4), (5, z_i (x5 + 1))]) [1, 2, 3, 4, 5, 0] rfl ?_
      exact h
    · replace h := h.2 c3
      refine z_aload_n 0 dX8_culprit_60 rfl rfl ?_
      refine z_iload 5 dX8_culprit_61 rfl ?_
      refine z_callV (As := [z_i x5]) (rest := []) zmX8_tryWithout znX8_tryWithout zsX8_tryWithout (show z_Cl[8]? = some (RX8, TX8, 9) from rfl) zlRX8_201 ⟨Nat.le_of_ble_eq_true rfl, Nat.le_of_ble_eq_true rfl⟩ dX8_culprit_63 hh0.1 rfl rfl (z_ai z_a0) (Nat.le_of_ble_eq_true rfl) (Nat.le_of_ble_eq_true rfl) ⟨rfl, rfl⟩ (z_CVm h ?_)
      intro w5 h
      show z_Sem mX8_culprit (sh.length, 0) 66 [(0, z_r 0), (1, z_i x1), (2, z_i x2), (3, z_i x3), (4, z_i x4), (5, z_i x5)] [] (sh, w5) Q
      refine z_aload_n 0 dX8_culprit_66 rfl rfl ?_
      refine z_getR (r := 18) zfRX8_23 dX8_culprit_67 hh0.1 rfl ?_
      refine z_iload_n 1 dX8_culprit_70 rfl rfl ?_
      refine z_iload_n 2 dX8_culprit_71 rfl rfl ?_
      refine z_iload_n 3 dX8_culprit_72 rfl rfl ?_
      refine z_iload 4 dX8_culprit_73 rfl ?_
      obtain ⟨q6, h⟩ := h
      refine z_callV (As := [z_i x1, z_i x2, z_i x3, z_i x4]) (rest := []) zmX2_leastRing znX2_leastRing zsX2_leastRing (show z_Cl[2]? = some (RX2, TX2, 7) from rfl) zlRX8_120 ⟨Nat.le_of_ble_eq_true rfl, Nat.le_of_ble_eq_true rfl⟩ dX8_culprit_75 hh0.2.2.2.1.1 rfl rfl (z_ai (z_ai (z_ai (z_ai z_a0)))) (Nat.le_of_ble_eq_true rfl) (Nat.le_of_ble_eq_true rfl) ⟨rfl, rfl⟩ ?_
      refine t_X2_leastRing hh0.2.2.2.1 q6 ?_
      show z_Sem mX8_culprit (sh.length, 0) 78 [(0, z_r 0), (1, z_i x1), (2, z_i x2), (3, z_i x3), (4, z_i x4), (5, z_i x5)] [z_i (f_X2_leastRing w5 18 x1 x2 x3 x4)] (sh, w5) Q
      refine z_if_lt (tgt := 84) dX8_culprit_78 (by decide) (fun c7 => ?_) (fun c7 => ?_)
      · replace h := h.1 c7
        obtain ⟨q8, h⟩ := h
        refine z_iinc (L' := [(5, z_i (x5 + 1)), (0, z_r 0), (1, z_i x1), (2, z_i x2), (3, z_i x3), (4, z_i x4)]) 5 dX8_culprit_84 rfl (by decide) rfl q8 ?_
        refine z_goto (tgt := 35) dX8_culprit_87 (by decide) ?_
        refine z_sub (L' := [(0, z_r 0), (1, z_i x1), (2, z_i x2), (3, z_i x3), (4, z_i x4), (5, z_i (x5 + 1))]) [1, 2, 3, 4, 5, 0] rfl ?_
        exact h
      · replace h := h.2 c7
        refine z_iload 5 dX8_culprit_81 rfl ?_
        exact z_ret (v := some (z_i x5)) dX8_culprit_83 ⟨rfl, Or.inl rfl⟩ rfl h
def f_X8_tightestNumber (w : Nat → Int → Int) (x1 : Int) (x2 : Int) (x3 : Int) : Int := if x3 = 0 then (if 999 < (f_J9_max_7cf53 w 0 (-(f_X2_between w 12 x2 x1))) then -2 else f_J9_max_7cf53 w 0 (-(f_X2_between w 12 x2 x1))) else if (f_J9_min_7cf53 w 999 (f_X2_between w 12 x1 x2)) < 0 then -2 else f_J9_min_7cf53 w 999 (f_X2_between w 12 x1 x2)
def s_X8_tightestNumber (w : Nat → Int → Int) (x1 : Int) (x2 : Int) (x3 : Int) : Prop := (x3 = 0 → (s_X2_between w 12 x2 x1) ∧ (z_R (-(f_X2_between w 12 x2 x1))) ∧ True) ∧ (¬ x3 = 0 → (s_X2_between w 12 x1 x2) ∧ True) ∧ True
set_option maxRecDepth 100000 in
theorem t_X8_tightestNumber {sh : List z_C} {w : Nat → Int → Int} {Q : Option z_V → z_S → Prop} {x1 : Int} {x2 : Int} {x3 : Int} (hh0 : z_isTG sh 0) (hs : s_X8_tightestNumber w x1 x2 x3) (h : Q (some (z_i (f_X8_tightestNumber w x1 x2 x3))) (sh, w)) : z_Sem mX8_tightestNumber (sh.length, 0) 0 [(0, z_r 0), (1, z_i x1), (2, z_i x2), (3, z_i x3)] [] (sh, w) Q := by
  unfold f_X8_tightestNumber at h
  unfold s_X8_tightestNumber at hs
  refine z_iload_n 3 dX8_tightestNumber_0 rfl rfl ?_
  obtain ⟨m13, m14, hs⟩ := hs
  refine z_if_ne (tgt := 36) dX8_tightestNumber_1 (by decide) (fun c1 => ?_) (fun c1 => ?_)
  · skip
    rw [if_neg c1] at h
    replace hs := m14 c1
    refine z_sipush dX8_tightestNumber_36 (by decide) (by decide) ?_
    refine z_aload_n 0 dX8_tightestNumber_39 rfl rfl ?_
    refine z_getR (r := 12) zfRX8_19 dX8_tightestNumber_40 hh0.1 rfl ?_
    refine z_iload_n 1 dX8_tightestNumber_43 rfl rfl ?_
    refine z_iload_n 2 dX8_tightestNumber_44 rfl rfl ?_
    obtain ⟨q2, hs⟩ := hs
    refine z_callV (As := [z_i x1, z_i x2]) (rest := [z_i 999]) zmX2_between znX2_between zsX2_between (show z_Cl[2]? = some (RX2, TX2, 7) from rfl) zlRX8_282 ⟨Nat.le_of_ble_eq_true rfl, Nat.le_of_ble_eq_true rfl⟩ dX8_tightestNumber_45 hh0.2.2.1.1 rfl rfl (z_ai (z_ai z_a0)) (Nat.le_of_ble_eq_true rfl) (Nat.le_of_ble_eq_true rfl) ⟨rfl, rfl⟩ ?_
    refine t_X2_between hh0.2.2.1 q2 ?_
    show z_Sem mX8_tightestNumber (sh.length, 0) 48 [(0, z_r 0), (1, z_i x1), (2, z_i x2), (3, z_i x3)] [z_i (f_X2_between w 12 x1 x2), z_i 999] (sh, w) Q
    refine z_callS (As := [z_i 999, z_i (f_X2_between w 12 x1 x2)]) (rest := []) zmJ9_min_7cf53 ztJ9_min_7cf53 zlRX8_385 ⟨Nat.le_of_ble_eq_true rfl, Nat.le_of_ble_eq_true rfl⟩ dX8_tightestNumber_48 rfl rfl (z_ai (z_ai z_a0)) (Nat.le_of_ble_eq_true rfl) (Nat.le_of_ble_eq_true rfl) ⟨rfl, rfl⟩ ?_
    refine t_J9_min_7cf53  ?_
    show z_Sem mX8_tightestNumber (sh.length, 0) 51 [(0, z_r 0), (1, z_i x1), (2, z_i x2), (3, z_i x3)] [z_i (f_J9_min_7cf53 w 999 (f_X2_between w 12 x1 x2))] (sh, w) Q
    refine z_istore (L' := [(4, z_i (f_J9_min_7cf53 w 999 (f_X2_between w 12 x1 x2))), (0, z_r 0), (1, z_i x1), (2, z_i x2), (3, z_i x3)]) dX8_tightestNumber_51 (by decide) rfl ?_
    refine z_iload 0 dX8_tightestNumber_53 rfl ?_
    suffices hJ3 : z_Sem mX8_tightestNumber (sh.length, 0) 65 [] [z_i (if (f_J9_min_7cf53 w 999 (f_X2_between w 12 x1 x2)) < 0 then -2 else f_J9_min_7cf53 w 999 (f_X2_between w 12 x1 x2))] (sh, w) Q by
      refine z_if_lt (tgt := 63) dX8_tightestNumber_55 (by decide) (fun c4 => ?_) (fun c4 => ?_)
      · skip
        refine z_bipush dX8_tightestNumber_63 (by decide) (by decide) ?_
        refine z_sub (L' := []) [] rfl ?_
        simp only [if_pos c4] at hJ3
        exact hJ3
      · skip
        refine z_iload 0 dX8_tightestNumber_58 rfl ?_
        refine z_goto (tgt := 65) dX8_tightestNumber_60 (by decide) ?_
        refine z_sub (L' := []) [] rfl ?_
        simp only [if_neg c4] at hJ3
        exact hJ3
    exact z_ret (v := some (z_i (if (f_J9_min_7cf53 w 999 (f_X2_between w 12 x1 x2)) < 0 then -2 else f_J9_min_7cf53 w 999 (f_X2_between w 12 x1 x2)))) dX8_tightestNumber_65 ⟨rfl, Or.inl rfl⟩ rfl h
  · skip
    rw [if_pos c1] at h
    replace hs := m13 c1
    refine z_iconst dX8_tightestNumber_4 (by decide) ?_
    refine z_aload_n 0 dX8_tightestNumber_5 rfl rfl ?_
    refine z_getR (r := 12) zfRX8_19 dX8_tightestNumber_6 hh0.1 rfl ?_
    refine z_iload_n 2 dX8_tightestNumber_9 rfl rfl ?_
    refine z_iload_n 1 dX8_tightestNumber_10 rfl rfl ?_
    obtain ⟨q7, hs⟩ := hs
    refine z_callV (As := [z_i x2, z_i x1]) (rest := [z_i 0]) zmX2_between znX2_between zsX2_between (show z_Cl[2]? = some (RX2, TX2, 7) from rfl) zlRX8_282 ⟨Nat.le_of_ble_eq_true rfl, Nat.le_of_ble_eq_true rfl⟩ dX8_tightestNumber_11 hh0.2.2.1.1 rfl rfl (z_ai (z_ai z_a0)) (Nat.le_of_ble_eq_true rfl) (Nat.le_of_ble_eq_true rfl) ⟨rfl, rfl⟩ ?_
    refine t_X2_between hh0.2.2.1 q7 ?_
    show z_Sem mX8_tightestNumber (sh.length, 0) 14 [(0, z_r 0), (1, z_i x1), (2, z_i x2), (3, z_i x3)] [z_i (f_X2_between w 12 x2 x1), z_i 0] (sh, w) Q
    obtain ⟨q8, hs⟩ := hs
    refine z_ineg dX8_tightestNumber_14 q8 ?_
    refine z_callS (As := [z_i 0, z_i (-(f_X2_between w 12 x2 x1))]) (rest := []) zmJ9_max_7cf53 ztJ9_max_7cf53 zlRX8_353 ⟨Nat.le_of_ble_eq_true rfl, Nat.le_of_ble_eq_true rfl⟩ dX8_tightestNumber_15 rfl rfl (z_ai (z_ai z_a0)) (Nat.le_of_ble_eq_true rfl) (Nat.le_of_ble_eq_true rfl) ⟨rfl, rfl⟩ ?_
    refine t_J9_max_7cf53  ?_
    show z_Sem mX8_tightestNumber (sh.length, 0) 18 [(0, z_r 0), (1, z_i x1), (2, z_i x2), (3, z_i x3)] [z_i (f_J9_max_7cf53 w 0 (-(f_X2_between w 12 x2 x1)))] (sh, w) Q
    refine z_istore (L' := [(4, z_i (f_J9_max_7cf53 w 0 (-(f_X2_between w 12 x2 x1)))), (0, z_r 0), (1, z_i x1), (2, z_i x2), (3, z_i x3)]) dX8_tightestNumber_18 (by decide) rfl ?_
    refine z_iload 0 dX8_tightestNumber_20 rfl ?_
    refine z_sipush dX8_tightestNumber_22 (by decide) (by decide) ?_
    suffices hJ9 : z_Sem mX8_tightestNumber (sh.length, 0) 35 [] [z_i (if 999 < (f_J9_max_7cf53 w 0 (-(f_X2_between w 12 x2 x1))) then -2 else f_J9_max_7cf53 w 0 (-(f_X2_between w 12 x2 x1)))] (sh, w) Q by
      refine z_icmp_gt (tgt := 33) dX8_tightestNumber_25 (by decide) (fun c10 => ?_) (fun c10 => ?_)
      · skip
        refine z_bipush dX8_tightestNumber_33 (by decide) (by decide) ?_
        refine z_sub (L' := []) [] rfl ?_
        simp only [if_pos c10] at hJ9
        exact hJ9
      · skip
        refine z_iload 0 dX8_tightestNumber_28 rfl ?_
        refine z_goto (tgt := 35) dX8_tightestNumber_30 (by decide) ?_
        refine z_sub (L' := []) [] rfl ?_
        simp only [if_neg c10] at hJ9
        exact hJ9
    exact z_ret (v := some (z_i (if 999 < (f_J9_max_7cf53 w 0 (-(f_X2_between w 12 x2 x1))) then -2 else f_J9_max_7cf53 w 0 (-(f_X2_between w 12 x2 x1))))) dX8_tightestNumber_35 ⟨rfl, Or.inl rfl⟩ rfl h
def f_X8_tightest (w : Nat → Int → Int) (x1 : Int) (x2 : Int) (x3 : Int) : Int := if (f_X8_areTwoEvents w x1 x2) = 0 then -1 else if (f_X8_isKind w x3) = 0 then -1 else f_X8_tightestNumber w x1 x2 x3
def s_X8_tightest (w : Nat → Int → Int) (x1 : Int) (x2 : Int) (x3 : Int) : Prop := (¬ (f_X8_areTwoEvents w x1 x2) = 0 → (¬ (f_X8_isKind w x3) = 0 → (s_X8_tightestNumber w x1 x2 x3) ∧ True) ∧ True) ∧ True
set_option maxRecDepth 100000 in
theorem t_X8_tightest {sh : List z_C} {w : Nat → Int → Int} {Q : Option z_V → z_S → Prop} {x1 : Int} {x2 : Int} {x3 : Int} (hh0 : z_isTG sh 0) (hs : s_X8_tightest w x1 x2 x3) (h : Q (some (z_i (f_X8_tightest w x1 x2 x3))) (sh, w)) : z_Sem mX8_tightest (sh.length, 0) 0 [(0, z_r 0), (1, z_i x1), (2, z_i x2), (3, z_i x3)] [] (sh, w) Q := by
  unfold f_X8_tightest at h
  unfold s_X8_tightest at hs
  refine z_aload_n 0 dX8_tightest_0 rfl rfl ?_
  refine z_iload_n 1 dX8_tightest_1 rfl rfl ?_
  refine z_iload_n 2 dX8_tightest_2 rfl rfl ?_
  refine z_callV (As := [z_i x1, z_i x2]) (rest := []) zmX8_areTwoEvents znX8_areTwoEvents zsX8_areTwoEvents (show z_Cl[8]? = some (RX8, TX8, 9) from rfl) zlRX8_286 ⟨Nat.le_of_ble_eq_true rfl, Nat.le_of_ble_eq_true rfl⟩ dX8_tightest_3 hh0.1 rfl rfl (z_ai (z_ai z_a0)) (Nat.le_of_ble_eq_true rfl) (Nat.le_of_ble_eq_true rfl) ⟨rfl, rfl⟩ ?_
  refine t_X8_areTwoEvents hh0 ?_
  show z_Sem mX8_tightest (sh.length, 0) 6 [(0, z_r 0), (1, z_i x1), (2, z_i x2), (3, z_i x3)] [z_i (f_X8_areTwoEvents w x1 x2)] (sh, w) Q
  obtain ⟨m5, hs⟩ := hs
  refine z_if_eq (tgt := 16) dX8_tightest_6 (by decide) (fun c1 => ?_) (fun c1 => ?_)
  · skip
    rw [if_pos c1] at h
    refine z_iconst dX8_tightest_16 (by decide) ?_
    exact z_ret (v := some (z_i (-1))) dX8_tightest_17 ⟨rfl, Or.inl rfl⟩ rfl h
  · skip
    rw [if_neg c1] at h
    replace hs := m5 c1
    refine z_iload_n 3 dX8_tightest_9 rfl rfl ?_
    refine z_callS (As := [z_i x3]) (rest := []) zmX8_isKind ztX8_isKind zlRX8_325 ⟨Nat.le_of_ble_eq_true rfl, Nat.le_of_ble_eq_true rfl⟩ dX8_tightest_10 rfl rfl (z_ai z_a0) (Nat.le_of_ble_eq_true rfl) (Nat.le_of_ble_eq_true rfl) ⟨rfl, rfl⟩ ?_
    refine t_X8_isKind  ?_
    show z_Sem mX8_tightest (sh.length, 0) 13 [(0, z_r 0), (1, z_i x1), (2, z_i x2), (3, z_i x3)] [z_i (f_X8_isKind w x3)] (sh, w) Q
    obtain ⟨m4, hs⟩ := hs
    refine z_if_ne (tgt := 18) dX8_tightest_13 (by decide) (fun c2 => ?_) (fun c2 => ?_)
    · skip
      rw [if_neg c2] at h
      replace hs := m4 c2
      refine z_aload_n 0 dX8_tightest_18 rfl rfl ?_
      refine z_iload_n 1 dX8_tightest_19 rfl rfl ?_
      refine z_iload_n 2 dX8_tightest_20 rfl rfl ?_
      refine z_iload_n 3 dX8_tightest_21 rfl rfl ?_
      obtain ⟨q3, hs⟩ := hs
      refine z_callV (As := [z_i x1, z_i x2, z_i x3]) (rest := []) zmX8_tightestNumber znX8_tightestNumber zsX8_tightestNumber (show z_Cl[8]? = some (RX8, TX8, 9) from rfl) zlRX8_328 ⟨Nat.le_of_ble_eq_true rfl, Nat.le_of_ble_eq_true rfl⟩ dX8_tightest_22 hh0.1 rfl rfl (z_ai (z_ai (z_ai z_a0))) (Nat.le_of_ble_eq_true rfl) (Nat.le_of_ble_eq_true rfl) ⟨rfl, rfl⟩ ?_
      refine t_X8_tightestNumber hh0 q3 ?_
      show z_Sem mX8_tightest (sh.length, 0) 25 [(0, z_r 0), (1, z_i x1), (2, z_i x2), (3, z_i x3)] [z_i (f_X8_tightestNumber w x1 x2 x3)] (sh, w) Q
      exact z_ret (v := some (z_i (f_X8_tightestNumber w x1 x2 x3))) dX8_tightest_25 ⟨rfl, Or.inl rfl⟩ rfl h
    · skip
      rw [if_pos c2] at h
      refine z_iconst dX8_tightest_16 (by decide) ?_
      exact z_ret (v := some (z_i (-1))) dX8_tightest_17 ⟨rfl, Or.inl rfl⟩ rfl h
def f_J9_abs_0f7a4 (w : Nat → Int → Int) (x0 : Int) : Int := if 0 ≤ x0 then x0 else -x0
def s_J9_abs_0f7a4 (w : Nat → Int → Int) (x0 : Int) : Prop := (¬ 0 ≤ x0 → (z_R (-x0)) ∧ True) ∧ True
set_option maxRecDepth 100000 in
theorem t_J9_abs_0f7a4 {sh : List z_C} {w : Nat → Int → Int} {Q : Option z_V → z_S → Prop} {x0 : Int}  (hs : s_J9_abs_0f7a4 w x0) (h : Q (some (z_i (f_J9_abs_0f7a4 w x0))) (sh, w)) : z_Sem mJ9_abs_0f7a4 (sh.length, 0) 0 [(0, z_i x0)] [] (sh, w) Q := by
  unfold f_J9_abs_0f7a4 at h
  unfold s_J9_abs_0f7a4 at hs
  refine z_iload_n 0 dJ9_abs_0f7a4_0 rfl rfl ?_
  obtain ⟨m3, hs⟩ := hs
  suffices hJ1 : z_Sem mJ9_abs_0f7a4 (sh.length, 0) 10 [] [z_i (if 0 ≤ x0 then x0 else -x0)] (sh, w) Q by
    refine z_if_ge (tgt := 9) dJ9_abs_0f7a4_1 (by decide) (fun c2 => ?_) (fun c2 => ?_)
    · skip
      refine z_iload_n 0 dJ9_abs_0f7a4_9 rfl rfl ?_
      refine z_sub (L' := []) [] rfl ?_
      simp only [if_pos c2] at hJ1
      exact hJ1
    · skip
      have ho5 := m3 c2
      refine z_iload_n 0 dJ9_abs_0f7a4_4 rfl rfl ?_
      obtain ⟨q6, ho5⟩ := ho5
      refine z_ineg dJ9_abs_0f7a4_5 q6 ?_
      refine z_goto (tgt := 10) dJ9_abs_0f7a4_6 (by decide) ?_
      refine z_sub (L' := []) [] rfl ?_
      simp only [if_neg c2] at hJ1
      exact hJ1
  exact z_ret (v := some (z_i (if 0 ≤ x0 then x0 else -x0))) dJ9_abs_0f7a4_10 ⟨rfl, Or.inl rfl⟩ rfl h
def f_X8_spare (w : Nat → Int → Int) (x1 : Int) : Int := if (f_X8_isGap w x1) = 0 then -1 else if (w 9 x1) = 0 then -3 else f_J9_abs_0f7a4 w ((w 8 x1) - (f_X8_tightestNumber w (w 5 x1) (w 6 x1) (w 7 x1)))
def s_X8_spare (w : Nat → Int → Int) (x1 : Int) : Prop := (¬ (f_X8_isGap w x1) = 0 → ((0 : Int) ≤ x1 ∧ x1 < 24) ∧ (¬ (w 9 x1) = 0 → ((0 : Int) ≤ x1 ∧ x1 < 24) ∧ ((0 : Int) ≤ x1 ∧ x1 < 24) ∧ ((0 : Int) ≤ x1 ∧ x1 < 24) ∧ (s_X8_tightestNumber w (w 5 x1) (w 6 x1) (w 7 x1)) ∧ ((0 : Int) ≤ x1 ∧ x1 < 24) ∧ (z_R ((w 8 x1) - (f_X8_tightestNumber w (w 5 x1) (w 6 x1) (w 7 x1)))) ∧ (s_J9_abs_0f7a4 w ((w 8 x1) - (f_X8_tightestNumber w (w 5 x1) (w 6 x1) (w 7 x1)))) ∧ True) ∧ True) ∧ True
set_option maxRecDepth 100000 in
theorem t_X8_spare {sh : List z_C} {w : Nat → Int → Int} {Q : Option z_V → z_S → Prop} {x1 : Int} (hh0 : z_isTG sh 0) (hs : s_X8_spare w x1) (h : Q (some (z_i (f_X8_spare w x1))) (sh, w)) : z_Sem mX8_spare (sh.length, 0) 0 [(0, z_r 0), (1, z_i x1)] [] (sh, w) Q := by
  unfold f_X8_spare at h
  unfold s_X8_spare at hs
  refine z_aload_n 0 dX8_spare_0 rfl rfl ?_
  refine z_iload_n 1 dX8_spare_1 rfl rfl ?_
  refine z_callV (As := [z_i x1]) (rest := []) zmX8_isGap znX8_isGap zsX8_isGap (show z_Cl[8]? = some (RX8, TX8, 9) from rfl) zlRX8_137 ⟨Nat.le_of_ble_eq_true rfl, Nat.le_of_ble_eq_true rfl⟩ dX8_spare_2 hh0.1 rfl rfl (z_ai z_a0) (Nat.le_of_ble_eq_true rfl) (Nat.le_of_ble_eq_true rfl) ⟨rfl, rfl⟩ ?_
  refine t_X8_isGap hh0 ?_
  show z_Sem mX8_spare (sh.length, 0) 5 [(0, z_r 0), (1, z_i x1)] [z_i (f_X8_isGap w x1)] (sh, w) Q
  obtain ⟨m12, hs⟩ := hs
  refine z_if_ne (tgt := 10) dX8_spare_5 (by decide) (fun c1 => ?_) (fun c1 => ?_)
  · skip
    rw [if_neg c1] at h
    replace hs := m12 c1
    refine z_aload_n 0 dX8_spare_10 rfl rfl ?_
    refine z_getR (r := 1) zfRX8_12 dX8_spare_11 hh0.1 rfl ?_
    refine z_getR (r := 9) zfRX8_151 dX8_spare_14 hh0.2.1.1 rfl ?_
    refine z_iload_n 1 dX8_spare_17 rfl rfl ?_
    obtain ⟨q2, hs⟩ := hs
    refine z_zald dX8_spare_18 hh0.2.1.2.2.2.2.2.2.2.2.1 q2 ?_
    obtain ⟨m11, hs⟩ := hs
    refine z_if_ne (tgt := 25) dX8_spare_19 (by decide) (fun c3 => ?_) (fun c3 => ?_)
    · skip
      rw [if_neg c3] at h
      replace hs := m11 c3
      refine z_aload_n 0 dX8_spare_25 rfl rfl ?_
      refine z_aload_n 0 dX8_spare_26 rfl rfl ?_
      refine z_getR (r := 1) zfRX8_12 dX8_spare_27 hh0.1 rfl ?_
      refine z_getR (r := 5) zfRX8_195 dX8_spare_30 hh0.2.1.1 rfl ?_
      refine z_iload_n 1 dX8_spare_33 rfl rfl ?_
      obtain ⟨q4, hs⟩ := hs
      refine z_iald dX8_spare_34 hh0.2.1.2.2.2.2.1 q4 ?_
      refine z_aload_n 0 dX8_spare_35 rfl rfl ?_
      refine z_getR (r := 1) zfRX8_12 dX8_spare_36 hh0.1 rfl ?_
      refine z_getR (r := 6) zfRX8_198 dX8_spare_39 hh0.2.1.1 rfl ?_
      refine z_iload_n 1 dX8_spare_42 rfl rfl ?_
      obtain ⟨q5, hs⟩ := hs
      refine z_iald dX8_spare_43 hh0.2.1.2.2.2.2.2.1 q5 ?_
      refine z_aload_n 0 dX8_spare_44 rfl rfl ?_
      refine z_getR (r := 1) zfRX8_12 dX8_spare_45 hh0.1 rfl ?_
      refine z_getR (r := 7) zfRX8_204 dX8_spare_48 hh0.2.1.1 rfl ?_
      refine z_iload_n 1 dX8_spare_51 rfl rfl ?_
      obtain ⟨q6, hs⟩ := hs
      refine z_iald dX8_spare_52 hh0.2.1.2.2.2.2.2.2.1 q6 ?_
      obtain ⟨q7, hs⟩ := hs
      refine z_callV (As := [z_i (w 5 x1), z_i (w 6 x1), z_i (w 7 x1)]) (rest := []) zmX8_tightestNumber znX8_tightestNumber zsX8_tightestNumber (show z_Cl[8]? = some (RX8, TX8, 9) from rfl) zlRX8_328 ⟨Nat.le_of_ble_eq_true rfl, Nat.le_of_ble_eq_true rfl⟩ dX8_spare_53 hh0.1 rfl rfl (z_ai (z_ai (z_ai z_a0))) (Nat.le_of_ble_eq_true rfl) (Nat.le_of_ble_eq_true rfl) ⟨rfl, rfl⟩ ?_
      refine t_X8_tightestNumber hh0 q7 ?_
      show z_Sem mX8_spare (sh.length, 0) 56 [(0, z_r 0), (1, z_i x1)] [z_i (f_X8_tightestNumber w (w 5 x1) (w 6 x1) (w 7 x1))] (sh, w) Q
      refine z_istore_n (L' := [(2, z_i (f_X8_tightestNumber w (w 5 x1) (w 6 x1) (w 7 x1))), (0, z_r 0), (1, z_i x1)]) dX8_spare_56 rfl (by decide) rfl ?_
      refine z_aload_n 1 dX8_spare_57 rfl rfl ?_
      refine z_getR (r := 1) zfRX8_12 dX8_spare_58 hh0.1 rfl ?_
      refine z_getR (r := 8) zfRX8_141 dX8_spare_61 hh0.2.1.1 rfl ?_
      refine z_iload_n 2 dX8_spare_64 rfl rfl ?_
      obtain ⟨q8, hs⟩ := hs
      refine z_iald dX8_spare_65 hh0.2.1.2.2.2.2.2.2.2.1 q8 ?_
      refine z_iload_n 0 dX8_spare_66 rfl rfl ?_
      obtain ⟨q9, hs⟩ := hs
      refine z_isub dX8_spare_67 q9 ?_
      obtain ⟨q10, hs⟩ := hs
      refine z_callS (As := [z_i ((w 8 x1) - (f_X8_tightestNumber w (w 5 x1) (w 6 x1) (w 7 x1)))]) (rest := []) zmJ9_abs_0f7a4 ztJ9_abs_0f7a4 zlRX8_331 ⟨Nat.le_of_ble_eq_true rfl, Nat.le_of_ble_eq_true rfl⟩ dX8_spare_68 rfl rfl (z_ai z_a0) (Nat.le_of_ble_eq_true rfl) (Nat.le_of_ble_eq_true rfl) ⟨rfl, rfl⟩ ?_
      refine t_J9_abs_0f7a4  q10 ?_
      show z_Sem mX8_spare (sh.length, 0) 71 [(2, z_i (f_X8_tightestNumber w (w 5 x1) (w 6 x1) (w 7 x1))), (0, z_r 0), (1, z_i x1)] [z_i (f_J9_abs_0f7a4 w ((w 8 x1) - (f_X8_tightestNumber w (w 5 x1) (w 6 x1) (w 7 x1))))] (sh, w) Q
      exact z_ret (v := some (z_i (f_J9_abs_0f7a4 w ((w 8 x1) - (f_X8_tightestNumber w (w 5 x1) (w 6 x1) (w 7 x1)))))) dX8_spare_71 ⟨rfl, Or.inl rfl⟩ rfl h
    · skip
      rw [if_pos c3] at h
      refine z_bipush dX8_spare_22 (by decide) (by decide) ?_
      exact z_ret (v := some (z_i (-3))) dX8_spare_24 ⟨rfl, Or.inl rfl⟩ rfl h
  · skip
    rw [if_pos c1] at h
    refine z_iconst dX8_spare_8 (by decide) ?_
    exact z_ret (v := some (z_i (-1))) dX8_spare_9 ⟨rfl, Or.inl rfl⟩ rfl h
set_option maxRecDepth 100000 in
theorem t_X8_needless {sh : List z_C} {w : Nat → Int → Int} {Q : Option z_V → z_S → Prop}  (hh0 : z_isTG sh 0) (h : z_CI mX8_firstNeedless [z_r 0, z_i 0] sh w (fun y2 w1 => Q (some (z_i y2)) (sh, w1))) : z_Sem mX8_needless (sh.length, 0) 0 [(0, z_r 0)] [] (sh, w) Q := by
  refine z_aload_n 0 dX8_needless_0 rfl rfl ?_
  refine z_iconst dX8_needless_1 (by decide) ?_
  refine z_callV (As := [z_i 0]) (rest := []) zmX8_firstNeedless znX8_firstNeedless zsX8_firstNeedless (show z_Cl[8]? = some (RX8, TX8, 9) from rfl) zlRX8_217 ⟨Nat.le_of_ble_eq_true rfl, Nat.le_of_ble_eq_true rfl⟩ dX8_needless_2 hh0.1 rfl rfl (z_ai z_a0) (Nat.le_of_ble_eq_true rfl) (Nat.le_of_ble_eq_true rfl) ⟨rfl, rfl⟩ (z_CIm h ?_)
  intro y2 w1 h
  show z_Sem mX8_needless (sh.length, 0) 5 [(0, z_r 0)] [z_i y2] (sh, w1) Q
  exact z_ret (v := some (z_i y2)) dX8_needless_5 ⟨rfl, Or.inl rfl⟩ rfl h
set_option maxRecDepth 100000 in
theorem t_X8_needs {sh : List z_C} {w : Nat → Int → Int} {Q : Option z_V → z_S → Prop} {x1 : Int} (hh0 : z_isTG sh 0) (h : (((f_X8_isEvent w x1) = 0 → Q (some (z_i (-1))) (sh, w)) ∧ (¬ (f_X8_isEvent w x1) = 0 → z_Sem mX8_needs (sh.length, 0) 14 [(0, z_r 0), (1, z_i x1), (2, z_i 0), (3, z_i 0)] [] (sh, w) Q))) : z_Sem mX8_needs (sh.length, 0) 0 [(0, z_r 0), (1, z_i x1)] [] (sh, w) Q := by
  refine z_aload_n 0 dX8_needs_0 rfl rfl ?_
  refine z_iload_n 1 dX8_needs_1 rfl rfl ?_
  refine z_callV (As := [z_i x1]) (rest := []) zmX8_isEvent znX8_isEvent zsX8_isEvent (show z_Cl[8]? = some (RX8, TX8, 9) from rfl) zlRX8_163 ⟨Nat.le_of_ble_eq_true rfl, Nat.le_of_ble_eq_true rfl⟩ dX8_needs_2 hh0.1 rfl rfl (z_ai z_a0) (Nat.le_of_ble_eq_true rfl) (Nat.le_of_ble_eq_true rfl) ⟨rfl, rfl⟩ ?_
  refine t_X8_isEvent hh0 ?_
  show z_Sem mX8_needs (sh.length, 0) 5 [(0, z_r 0), (1, z_i x1)] [z_i (f_X8_isEvent w x1)] (sh, w) Q
  refine z_if_ne (tgt := 10) dX8_needs_5 (by decide) (fun c1 => ?_) (fun c1 => ?_)
  · replace h := h.2 c1
    refine z_iconst dX8_needs_10 (by decide) ?_
    refine z_istore_n (L' := [(2, z_i 0), (0, z_r 0), (1, z_i x1)]) dX8_needs_11 rfl (by decide) rfl ?_
    refine z_iconst dX8_needs_12 (by decide) ?_
    refine z_istore_n (L' := [(3, z_i 0), (2, z_i 0), (0, z_r 0), (1, z_i x1)]) dX8_needs_13 rfl (by decide) rfl ?_
    refine z_sub (L' := [(0, z_r 0), (1, z_i x1), (2, z_i 0), (3, z_i 0)]) [2, 3, 1, 0] rfl ?_
    exact h
  · replace h := h.1 c1
    refine z_iconst dX8_needs_8 (by decide) ?_
    exact z_ret (v := some (z_i (-1))) dX8_needs_9 ⟨rfl, Or.inl rfl⟩ rfl h
set_option maxRecDepth 100000 in
theorem t_X8_needs_14 {sh : List z_C} {w : Nat → Int → Int} {Q : Option z_V → z_S → Prop} {x1 : Int} {x2 : Int} {x3 : Int} (hh0 : z_isTG sh 0) (h : (((w 1 11) ≤ x3 → Q (some (z_i x2)) (sh, w)) ∧ (¬ (w 1 11) ≤ x3 → (s_X3_hasEvent w 1 x3 x1) ∧ (((f_X3_hasEvent w 1 x3 x1) = 0 → (z_R (x2 + (f_X8_asNumber w 0))) ∧ ∀ y5 : Int, y5 = (x2 + (f_X8_asNumber w 0)) → (z_R (x3 + 1)) ∧ z_Sem mX8_needs (sh.length, 0) 14 [(0, z_r 0), (1, z_i x1), (2, z_i y5), (3, z_i (x3 + 1))] [] (sh, w) Q) ∧ (¬ (f_X3_hasEvent w 1 x3 x1) = 0 → z_CI mX8_isNeeded [z_r 0, z_i x3] sh w (fun y8 w7 => (z_R (x2 + (f_X8_asNumber w7 (if y8 = 0 then 0 else 1)))) ∧ ∀ y14 : Int, y14 = (x2 + (f_X8_asNumber w7 (if y8 = 0 then 0 else 1))) → (z_R (x3 + 1)) ∧ z_Sem mX8_needs (sh.length, 0) 14 [(0, z_r 0), (1, z_i x1), (2, z_i y14), (3, z_i (x3 + 1))] [] (sh, w7) Q)))))) : z_Sem mX8_needs (sh.length, 0) 14 [(0, z_r 0), (1, z_i x1), (2, z_i x2), (3, z_i x3)] [] (sh, w) Q := by
  refine z_iload_n 3 dX8_needs_14 rfl rfl ?_
  refine z_aload_n 0 dX8_needs_15 rfl rfl ?_
  refine z_getR (r := 1) zfRX8_12 dX8_needs_16 hh0.1 rfl ?_
  refine z_getI (ki := 11) zfRX8_96 dX8_needs_19 hh0.2.1.1 rfl rfl ?_
  refine z_icmp_ge (tgt := 62) dX8_needs_22 (by decide) (fun c1 => ?_) (fun c1 => ?_)
  · replace h := h.1 c1
    refine z_iload_n 2 dX8_needs_62 rfl rfl ?_
    exact z_ret (v := some (z_i x2)) dX8_needs_63 ⟨rfl, Or.inl rfl⟩ rfl h
  · replace h := h.2 c1
    refine z_iload_n 2 dX8_needs_25 rfl rfl ?_
    refine z_aload_n 0 dX8_needs_26 rfl rfl ?_
    refine z_getR (r := 1) zfRX8_12 dX8_needs_27 hh0.1 rfl ?_
    refine z_iload_n 3 dX8_needs_30 rfl rfl ?_
    refine z_iload_n 1 dX8_needs_31 rfl rfl ?_
    obtain ⟨q2, h⟩ := h
    refine z_callV (As := [z_i x3, z_i x1]) (rest := [z_i x2]) zmX3_hasEvent znX3_hasEvent zsX3_hasEvent (show z_Cl[3]? = some (RX3, TX3, 12) from rfl) zlRX8_336 ⟨Nat.le_of_ble_eq_true rfl, Nat.le_of_ble_eq_true rfl⟩ dX8_needs_32 hh0.2.1.1 rfl rfl (z_ai (z_ai z_a0)) (Nat.le_of_ble_eq_true rfl) (Nat.le_of_ble_eq_true rfl) ⟨rfl, rfl⟩ ?_
    refine t_X3_hasEvent hh0.2.1 q2 ?_
    show z_Sem mX8_needs (sh.length, 0) 35 [(0, z_r 0), (1, z_i x1), (2, z_i x2), (3, z_i x3)] [z_i (f_X3_hasEvent w 1 x3 x1), z_i x2] (sh, w) Q
    refine z_if_eq (tgt := 50) dX8_needs_35 (by decide) (fun c3 => ?_) (fun c3 => ?_)
    · replace h := h.1 c3
      refine z_iconst dX8_needs_50 (by decide) ?_
      refine z_callS (As := [z_i 0]) (rest := [z_i x2]) zmX8_asNumber ztX8_asNumber zlRX8_159 ⟨Nat.le_of_ble_eq_true rfl, Nat.le_of_ble_eq_true rfl⟩ dX8_needs_51 rfl rfl (z_ai z_a0) (Nat.le_of_ble_eq_true rfl) (Nat.le_of_ble_eq_true rfl) ⟨rfl, rfl⟩ ?_
      refine t_X8_asNumber  ?_
      show z_Sem mX8_needs (sh.length, 0) 54 [(0, z_r 0), (1, z_i x1), (2, z_i x2), (3, z_i x3)] [z_i (f_X8_asNumber w 0), z_i x2] (sh, w) Q
      obtain ⟨q4, h⟩ := h
      refine z_iadd dX8_needs_54 q4 ?_
      refine z_nam (fun y5 hy5 => ?_)
      replace h := h y5 hy5
      refine z_istore_n (L' := [(2, z_i y5), (0, z_r 0), (1, z_i x1), (3, z_i x3)]) dX8_needs_55 rfl (by decide) rfl ?_
      obtain ⟨q6, h⟩ := h
      refine z_iinc (L' := [(3, z_i (x3 + 1)), (2, z_i y5), (0, z_r 0), (1, z_i x1)]) 3 dX8_needs_56 rfl (by decide) rfl q6 ?_
      refine z_goto (tgt := 14) dX8_needs_59 (by decide) ?_
      refine z_sub (L' := [(0, z_r 0), (1, z_i x1), (2, z_i y5), (3, z_i (x3 + 1))]) [2, 3, 1, 0] rfl ?_
      exact h
    · replace h := h.2 c3
      refine z_aload_n 0 dX8_needs_38 rfl rfl ?_
      refine z_iload_n 3 dX8_needs_39 rfl rfl ?_
      refine z_callV (As := [z_i x3]) (rest := [z_i x2]) zmX8_isNeeded znX8_isNeeded zsX8_isNeeded (show z_Cl[8]? = some (RX8, TX8, 9) from rfl) zlRX8_264 ⟨Nat.le_of_ble_eq_true rfl, Nat.le_of_ble_eq_true rfl⟩ dX8_needs_40 hh0.1 rfl rfl (z_ai z_a0) (Nat.le_of_ble_eq_true rfl) (Nat.le_of_ble_eq_true rfl) ⟨rfl, rfl⟩ (z_CIm h ?_)
      intro y8 w7 h
      show z_Sem mX8_needs (sh.length, 0) 43 [(0, z_r 0), (1, z_i x1), (2, z_i x2), (3, z_i x3)] [z_i y8, z_i x2] (sh, w7) Q
      suffices hJ9 : z_Sem mX8_needs (sh.length, 0) 51 [(0, z_r 0), (1, z_i x1), (3, z_i x3)] [z_i (if y8 = 0 then 0 else 1), z_i x2] (sh, w7) Q by
        refine z_if_eq (tgt := 50) dX8_needs_43 (by decide) (fun c10 => ?_) (fun c10 => ?_)
        · skip
          refine z_iconst dX8_needs_50 (by decide) ?_
          refine z_sub (L' := [(0, z_r 0), (1, z_i x1), (3, z_i x3)]) [0, 1, 3] rfl ?_
          simp only [if_pos c10] at hJ9
          exact hJ9
        · skip
          refine z_iconst dX8_needs_46 (by decide) ?_
          refine z_goto (tgt := 51) dX8_needs_47 (by decide) ?_
          refine z_sub (L' := [(0, z_r 0), (1, z_i x1), (3, z_i x3)]) [0, 1, 3] rfl ?_
          simp only [if_neg c10] at hJ9
          exact hJ9
      refine z_callS (As := [z_i (if y8 = 0 then 0 else 1)]) (rest := [z_i x2]) zmX8_asNumber ztX8_asNumber zlRX8_159 ⟨Nat.le_of_ble_eq_true rfl, Nat.le_of_ble_eq_true rfl⟩ dX8_needs_51 rfl rfl (z_ai z_a0) (Nat.le_of_ble_eq_true rfl) (Nat.le_of_ble_eq_true rfl) ⟨rfl, rfl⟩ ?_
      refine t_X8_asNumber  ?_
      show z_Sem mX8_needs (sh.length, 0) 54 [(0, z_r 0), (1, z_i x1), (3, z_i x3)] [z_i (f_X8_asNumber w7 (if y8 = 0 then 0 else 1)), z_i x2] (sh, w7) Q
      obtain ⟨q13, h⟩ := h
      refine z_iadd dX8_needs_54 q13 ?_
      refine z_nam (fun y14 hy14 => ?_)
      replace h := h y14 hy14
      refine z_istore_n (L' := [(2, z_i y14), (0, z_r 0), (1, z_i x1), (3, z_i x3)]) dX8_needs_55 rfl (by decide) rfl ?_
      obtain ⟨q15, h⟩ := h
      refine z_iinc (L' := [(3, z_i (x3 + 1)), (2, z_i y14), (0, z_r 0), (1, z_i x1)]) 3 dX8_needs_56 rfl (by decide) rfl q15 ?_
      refine z_goto (tgt := 14) dX8_needs_59 (by decide) ?_
      refine z_sub (L' := [(0, z_r 0), (1, z_i x1), (2, z_i y14), (3, z_i (x3 + 1))]) [2, 3, 1, 0] rfl ?_
      exact h
def f_X8_isChange (w : Nat → Int → Int) (x0 : Int) : Int := if x0 < 0 then 0 else if 2 < x0 then 0 else 1
set_option maxRecDepth 100000 in
theorem t_X8_isChange {sh : List z_C} {w : Nat → Int → Int} {Q : Option z_V → z_S → Prop} {x0 : Int}  (h : Q (some (z_i (f_X8_isChange w x0))) (sh, w)) : z_Sem mX8_isChange (sh.length, 0) 0 [(0, z_i x0)] [] (sh, w) Q := by
  unfold f_X8_isChange at h
  refine z_iload_n 0 dX8_isChange_0 rfl rfl ?_
  suffices hJ1 : z_Sem mX8_isChange (sh.length, 0) 14 [] [z_i (if x0 < 0 then 0 else if 2 < x0 then 0 else 1)] (sh, w) Q by
    refine z_if_lt (tgt := 13) dX8_isChange_1 (by decide) (fun c2 => ?_) (fun c2 => ?_)
    · skip
      refine z_iconst dX8_isChange_13 (by decide) ?_
      refine z_sub (L' := []) [] rfl ?_
      simp only [if_pos c2] at hJ1
      exact hJ1
    · skip
      refine z_iload_n 0 dX8_isChange_4 rfl rfl ?_
      refine z_iconst dX8_isChange_5 (by decide) ?_
      suffices hJ5 : z_Sem mX8_isChange (sh.length, 0) 14 [] [z_i (if 2 < x0 then 0 else 1)] (sh, w) Q by
        refine z_icmp_gt (tgt := 13) dX8_isChange_6 (by decide) (fun c6 => ?_) (fun c6 => ?_)
        · skip
          refine z_iconst dX8_isChange_13 (by decide) ?_
          refine z_sub (L' := []) [] rfl ?_
          simp only [if_pos c6] at hJ5
          exact hJ5
        · skip
          refine z_iconst dX8_isChange_9 (by decide) ?_
          refine z_goto (tgt := 14) dX8_isChange_10 (by decide) ?_
          refine z_sub (L' := []) [] rfl ?_
          simp only [if_neg c6] at hJ5
          exact hJ5
      simp only [if_neg c2] at hJ1
      exact hJ1
  exact z_ret (v := some (z_i (if x0 < 0 then 0 else if 2 < x0 then 0 else 1))) dX8_isChange_14 ⟨rfl, Or.inr (Or.inl ⟨rfl, (z_it01 (by decide) (z_it01 (by decide) (by decide)))⟩)⟩ rfl h
set_option maxRecDepth 100000 in
theorem t_X8_changeOnTrial {sh : List z_C} {w : Nat → Int → Int} {Q : Option z_V → z_S → Prop} {x1 : Int} (hh0 : z_isTG sh 0) (h : ((x1 = 0 → z_CI mX2_countOtherBounds [z_r 12, z_r 18] sh w (fun y3 w2 => Q (some (z_i y3)) (sh, w2))) ∧ (x1 = 1 → z_CI mX2_countOtherTimes [z_r 12, z_r 18] sh w (fun y5 w4 => Q (some (z_i y5)) (sh, w4))) ∧ (¬ x1 = 0 ∧ ¬ x1 = 1 → z_CI mX2_room [z_r 18] sh w (fun y7 w6 => Q (some (z_i y7)) (sh, w6))))) : z_Sem mX8_changeOnTrial (sh.length, 0) 0 [(0, z_r 0), (1, z_i x1)] [] (sh, w) Q := by
  refine z_iload_n 1 dX8_changeOnTrial_0 rfl rfl ?_
  rcases Decidable.em (x1 = 0) with c1 | c1_0
  · replace h := h.1 c1
    refine z_look (off := 27) (tgt := 28) dX8_changeOnTrial_1 (by decide) (by rw [c1]; rfl) (by decide) ?_
    refine z_aload_n 0 dX8_changeOnTrial_28 rfl rfl ?_
    refine z_getR (r := 12) zfRX8_19 dX8_changeOnTrial_29 hh0.1 rfl ?_
    refine z_aload_n 0 dX8_changeOnTrial_32 rfl rfl ?_
    refine z_getR (r := 18) zfRX8_23 dX8_changeOnTrial_33 hh0.1 rfl ?_
    refine z_callV (As := [z_r 18]) (rest := []) zmX2_countOtherBounds znX2_countOtherBounds zsX2_countOtherBounds (show z_Cl[2]? = some (RX2, TX2, 7) from rfl) zlRX8_388 ⟨Nat.le_of_ble_eq_true rfl, Nat.le_of_ble_eq_true rfl⟩ dX8_changeOnTrial_36 hh0.2.2.1.1 rfl rfl (z_ar z_a0) (Nat.le_of_ble_eq_true rfl) (Nat.le_of_ble_eq_true rfl) ⟨rfl, rfl⟩ (z_CIm h ?_)
    intro y3 w2 h
    show z_Sem mX8_changeOnTrial (sh.length, 0) 39 [(0, z_r 0), (1, z_i x1)] [z_i y3] (sh, w2) Q
    exact z_ret (v := some (z_i y3)) dX8_changeOnTrial_39 ⟨rfl, Or.inl rfl⟩ rfl h
  rcases Decidable.em (x1 = 1) with c1 | c1_1
  · replace h := h.2.1 c1
    refine z_look (off := 39) (tgt := 40) dX8_changeOnTrial_1 (by decide) (by rw [c1]; rfl) (by decide) ?_
    refine z_aload_n 0 dX8_changeOnTrial_40 rfl rfl ?_
    refine z_getR (r := 12) zfRX8_19 dX8_changeOnTrial_41 hh0.1 rfl ?_
    refine z_aload_n 0 dX8_changeOnTrial_44 rfl rfl ?_
    refine z_getR (r := 18) zfRX8_23 dX8_changeOnTrial_45 hh0.1 rfl ?_
    refine z_callV (As := [z_r 18]) (rest := []) zmX2_countOtherTimes znX2_countOtherTimes zsX2_countOtherTimes (show z_Cl[2]? = some (RX2, TX2, 7) from rfl) zlRX8_392 ⟨Nat.le_of_ble_eq_true rfl, Nat.le_of_ble_eq_true rfl⟩ dX8_changeOnTrial_48 hh0.2.2.1.1 rfl rfl (z_ar z_a0) (Nat.le_of_ble_eq_true rfl) (Nat.le_of_ble_eq_true rfl) ⟨rfl, rfl⟩ (z_CIm h ?_)
    intro y5 w4 h
    show z_Sem mX8_changeOnTrial (sh.length, 0) 51 [(0, z_r 0), (1, z_i x1)] [z_i y5] (sh, w4) Q
    exact z_ret (v := some (z_i y5)) dX8_changeOnTrial_51 ⟨rfl, Or.inl rfl⟩ rfl h
  replace h := h.2.2 ⟨c1_0, c1_1⟩
  refine z_look (off := 51) (tgt := 52) dX8_changeOnTrial_1 (by decide) (z_lkd (List.forall_mem_cons.mpr ⟨fun e => c1_0 e.symm, List.forall_mem_cons.mpr ⟨fun e => c1_1 e.symm, fun _ h => by cases h⟩⟩)) (by decide) ?_
  refine z_aload_n 0 dX8_changeOnTrial_52 rfl rfl ?_
  refine z_getR (r := 18) zfRX8_23 dX8_changeOnTrial_53 hh0.1 rfl ?_
  refine z_callV (As := []) (rest := []) zmX2_room znX2_room zsX2_room (show z_Cl[2]? = some (RX2, TX2, 7) from rfl) zlRX8_214 ⟨Nat.le_of_ble_eq_true rfl, Nat.le_of_ble_eq_true rfl⟩ dX8_changeOnTrial_56 hh0.2.2.2.1.1 rfl rfl z_a0 (Nat.le_of_ble_eq_true rfl) (Nat.le_of_ble_eq_true rfl) ⟨rfl, rfl⟩ (z_CIm h ?_)
  intro y7 w6 h
  show z_Sem mX8_changeOnTrial (sh.length, 0) 59 [(0, z_r 0), (1, z_i x1)] [z_i y7] (sh, w6) Q
  exact z_ret (v := some (z_i y7)) dX8_changeOnTrial_59 ⟨rfl, Or.inl rfl⟩ rfl h
set_option maxRecDepth 100000 in
theorem t_X8_ifTold {sh : List z_C} {w : Nat → Int → Int} {Q : Option z_V → z_S → Prop} {x1 : Int} {x2 : Int} {x3 : Int} {x4 : Int} {x5 : Int} (hh0 : z_isTG sh 0) (h : (((f_X8_isTellable w x1 x2 x3 x4) = 0 → Q (some (z_i (-1))) (sh, w)) ∧ (¬ (f_X8_isTellable w x1 x2 x3 x4) = 0 → (((f_X8_isChange w x5) = 0 → Q (some (z_i (-1))) (sh, w)) ∧ (¬ (f_X8_isChange w x5) = 0 → (s_X2_leastRing w 12 x1 x2 x3 x4) ∧ ((0 ≤ (f_X2_leastRing w 12 x1 x2 x3 x4) → z_CV mX2_copyBounds [z_r 18, z_r 12] sh w (fun w5 => z_CV mX2_addGapStep [z_r 18, z_i x1, z_i x2, z_i x3, z_i x4] sh w5 (fun w6 => z_CI mX8_changeOnTrial [z_r 0, z_i x5] sh w6 (fun y8 w7 => Q (some (z_i y8)) (sh, w7))))) ∧ (¬ 0 ≤ (f_X2_leastRing w 12 x1 x2 x3 x4) → Q (some (z_i (-5))) (sh, w)))))))) : z_Sem mX8_ifTold (sh.length, 0) 0 [(0, z_r 0), (1, z_i x1), (2, z_i x2), (3, z_i x3), (4, z_i x4), (5, z_i x5)] [] (sh, w) Q := by
  refine z_aload_n 0 dX8_ifTold_0 rfl rfl ?_
  refine z_iload_n 1 dX8_ifTold_1 rfl rfl ?_
  refine z_iload_n 2 dX8_ifTold_2 rfl rfl ?_
  refine z_iload_n 3 dX8_ifTold_3 rfl rfl ?_
  refine z_iload 4 dX8_ifTold_4 rfl ?_
  refine z_callV (As := [z_i x1, z_i x2, z_i x3, z_i x4]) (rest := []) zmX8_isTellable znX8_isTellable zsX8_isTellable (show z_Cl[8]? = some (RX8, TX8, 9) from rfl) zlRX8_116 ⟨Nat.le_of_ble_eq_true rfl, Nat.le_of_ble_eq_true rfl⟩ dX8_ifTold_6 hh0.1 rfl rfl (z_ai (z_ai (z_ai (z_ai z_a0)))) (Nat.le_of_ble_eq_true rfl) (Nat.le_of_ble_eq_true rfl) ⟨rfl, rfl⟩ ?_
  refine t_X8_isTellable hh0 ?_
  show z_Sem mX8_ifTold (sh.length, 0) 9 [(0, z_r 0), (1, z_i x1), (2, z_i x2), (3, z_i x3), (4, z_i x4), (5, z_i x5)] [z_i (f_X8_isTellable w x1 x2 x3 x4)] (sh, w) Q
  refine z_if_eq (tgt := 20) dX8_ifTold_9 (by decide) (fun c1 => ?_) (fun c1 => ?_)
  · replace h := h.1 c1
    refine z_iconst dX8_ifTold_20 (by decide) ?_
    exact z_ret (v := some (z_i (-1))) dX8_ifTold_21 ⟨rfl, Or.inl rfl⟩ rfl h
  · replace h := h.2 c1
    refine z_iload 5 dX8_ifTold_12 rfl ?_
    refine z_callS (As := [z_i x5]) (rest := []) zmX8_isChange ztX8_isChange zlRX8_339 ⟨Nat.le_of_ble_eq_true rfl, Nat.le_of_ble_eq_true rfl⟩ dX8_ifTold_14 rfl rfl (z_ai z_a0) (Nat.le_of_ble_eq_true rfl) (Nat.le_of_ble_eq_true rfl) ⟨rfl, rfl⟩ ?_
    refine t_X8_isChange  ?_
    show z_Sem mX8_ifTold (sh.length, 0) 17 [(0, z_r 0), (1, z_i x1), (2, z_i x2), (3, z_i x3), (4, z_i x4), (5, z_i x5)] [z_i (f_X8_isChange w x5)] (sh, w) Q
    refine z_if_ne (tgt := 22) dX8_ifTold_17 (by decide) (fun c2 => ?_) (fun c2 => ?_)
    · replace h := h.2 c2
      refine z_aload_n 0 dX8_ifTold_22 rfl rfl ?_
      refine z_getR (r := 12) zfRX8_19 dX8_ifTold_23 hh0.1 rfl ?_
      refine z_iload_n 1 dX8_ifTold_26 rfl rfl ?_
      refine z_iload_n 2 dX8_ifTold_27 rfl rfl ?_
      refine z_iload_n 3 dX8_ifTold_28 rfl rfl ?_
      refine z_iload 4 dX8_ifTold_29 rfl ?_
      obtain ⟨q3, h⟩ := h
      refine z_callV (As := [z_i x1, z_i x2, z_i x3, z_i x4]) (rest := []) zmX2_leastRing znX2_leastRing zsX2_leastRing (show z_Cl[2]? = some (RX2, TX2, 7) from rfl) zlRX8_120 ⟨Nat.le_of_ble_eq_true rfl, Nat.le_of_ble_eq_true rfl⟩ dX8_ifTold_31 hh0.2.2.1.1 rfl rfl (z_ai (z_ai (z_ai (z_ai z_a0)))) (Nat.le_of_ble_eq_true rfl) (Nat.le_of_ble_eq_true rfl) ⟨rfl, rfl⟩ ?_
      refine t_X2_leastRing hh0.2.2.1 q3 ?_
      show z_Sem mX8_ifTold (sh.length, 0) 34 [(0, z_r 0), (1, z_i x1), (2, z_i x2), (3, z_i x3), (4, z_i x4), (5, z_i x5)] [z_i (f_X2_leastRing w 12 x1 x2 x3 x4)] (sh, w) Q
      refine z_if_ge (tgt := 40) dX8_ifTold_34 (by decide) (fun c4 => ?_) (fun c4 => ?_)
      · replace h := h.1 c4
        refine z_aload_n 0 dX8_ifTold_40 rfl rfl ?_
        refine z_getR (r := 18) zfRX8_23 dX8_ifTold_41 hh0.1 rfl ?_
        refine z_aload_n 0 dX8_ifTold_44 rfl rfl ?_
        refine z_getR (r := 12) zfRX8_19 dX8_ifTold_45 hh0.1 rfl ?_
        refine z_callV (As := [z_r 12]) (rest := []) zmX2_copyBounds znX2_copyBounds zsX2_copyBounds (show z_Cl[2]? = some (RX2, TX2, 7) from rfl) zlRX8_308 ⟨Nat.le_of_ble_eq_true rfl, Nat.le_of_ble_eq_true rfl⟩ dX8_ifTold_48 hh0.2.2.2.1.1 rfl rfl (z_ar z_a0) (Nat.le_of_ble_eq_true rfl) (Nat.le_of_ble_eq_true rfl) ⟨rfl, rfl⟩ (z_CVm h ?_)
        intro w5 h
        show z_Sem mX8_ifTold (sh.length, 0) 51 [(0, z_r 0), (1, z_i x1), (2, z_i x2), (3, z_i x3), (4, z_i x4), (5, z_i x5)] [] (sh, w5) Q
        refine z_aload_n 0 dX8_ifTold_51 rfl rfl ?_
        refine z_getR (r := 18) zfRX8_23 dX8_ifTold_52 hh0.1 rfl ?_
        refine z_iload_n 1 dX8_ifTold_55 rfl rfl ?_
        refine z_iload_n 2 dX8_ifTold_56 rfl rfl ?_
        refine z_iload_n 3 dX8_ifTold_57 rfl rfl ?_
        refine z_iload 4 dX8_ifTold_58 rfl ?_
        refine z_callV (As := [z_i x1, z_i x2, z_i x3, z_i x4]) (rest := []) zmX2_addGapStep znX2_addGapStep zsX2_addGapStep (show z_Cl[2]? = some (RX2, TX2, 7) from rfl) zlRX8_342 ⟨Nat.le_of_ble_eq_true rfl, Nat.le_of_ble_eq_true rfl⟩ dX8_ifTold_60 hh0.2.2.2.1.1 rfl rfl (z_ai (z_ai (z_ai (z_ai z_a0)))) (Nat.le_of_ble_eq_true rfl) (Nat.le_of_ble_eq_true rfl) ⟨rfl, rfl⟩ (z_CVm h ?_)
        intro w6 h
        show z_Sem mX8_ifTold (sh.length, 0) 63 [(0, z_r 0), (1, z_i x1), (2, z_i x2), (3, z_i x3), (4, z_i x4), (5, z_i x5)] [] (sh, w6) Q
        refine z_aload_n 0 dX8_ifTold_63 rfl rfl ?_
        refine z_iload 5 dX8_ifTold_64 rfl ?_
        refine z_callV (As := [z_i x5]) (rest := []) zmX8_changeOnTrial znX8_changeOnTrial zsX8_changeOnTrial (show z_Cl[8]? = some (RX8, TX8, 9) from rfl) zlRX8_346 ⟨Nat.le_of_ble_eq_true rfl, Nat.le_of_ble_eq_true rfl⟩ dX8_ifTold_66 hh0.1 rfl rfl (z_ai z_a0) (Nat.le_of_ble_eq_true rfl) (Nat.le_of_ble_eq_true rfl) ⟨rfl, rfl⟩ (z_CIm h ?_)
        intro y8 w7 h
        show z_Sem mX8_ifTold (sh.length, 0) 69 [(0, z_r 0), (1, z_i x1), (2, z_i x2), (3, z_i x3), (4, z_i x4), (5, z_i x5)] [z_i y8] (sh, w7) Q
        exact z_ret (v := some (z_i y8)) dX8_ifTold_69 ⟨rfl, Or.inl rfl⟩ rfl h
      · replace h := h.2 c4
        refine z_bipush dX8_ifTold_37 (by decide) (by decide) ?_
        exact z_ret (v := some (z_i (-5))) dX8_ifTold_39 ⟨rfl, Or.inl rfl⟩ rfl h
    · replace h := h.1 c2
      refine z_iconst dX8_ifTold_20 (by decide) ?_
      exact z_ret (v := some (z_i (-1))) dX8_ifTold_21 ⟨rfl, Or.inl rfl⟩ rfl h
set_option maxRecDepth 100000 in
theorem t_X8_ifDropped {sh : List z_C} {w : Nat → Int → Int} {Q : Option z_V → z_S → Prop} {x1 : Int} {x2 : Int} (hh0 : z_isTG sh 0) (h : (((f_X8_isGap w x1) = 0 → Q (some (z_i (-1))) (sh, w)) ∧ (¬ (f_X8_isGap w x1) = 0 → (((f_X8_isChange w x2) = 0 → Q (some (z_i (-1))) (sh, w)) ∧ (¬ (f_X8_isChange w x2) = 0 → z_CV mX8_tryWithout [z_r 0, z_i x1] sh w (fun w3 => z_CI mX8_changeOnTrial [z_r 0, z_i x2] sh w3 (fun y5 w4 => Q (some (z_i y5)) (sh, w4)))))))) : z_Sem mX8_ifDropped (sh.length, 0) 0 [(0, z_r 0), (1, z_i x1), (2, z_i x2)] [] (sh, w) Q := by
  refine z_aload_n 0 dX8_ifDropped_0 rfl rfl ?_
  refine z_iload_n 1 dX8_ifDropped_1 rfl rfl ?_
  refine z_callV (As := [z_i x1]) (rest := []) zmX8_isGap znX8_isGap zsX8_isGap (show z_Cl[8]? = some (RX8, TX8, 9) from rfl) zlRX8_137 ⟨Nat.le_of_ble_eq_true rfl, Nat.le_of_ble_eq_true rfl⟩ dX8_ifDropped_2 hh0.1 rfl rfl (z_ai z_a0) (Nat.le_of_ble_eq_true rfl) (Nat.le_of_ble_eq_true rfl) ⟨rfl, rfl⟩ ?_
  refine t_X8_isGap hh0 ?_
  show z_Sem mX8_ifDropped (sh.length, 0) 5 [(0, z_r 0), (1, z_i x1), (2, z_i x2)] [z_i (f_X8_isGap w x1)] (sh, w) Q
  refine z_if_eq (tgt := 15) dX8_ifDropped_5 (by decide) (fun c1 => ?_) (fun c1 => ?_)
  · replace h := h.1 c1
    refine z_iconst dX8_ifDropped_15 (by decide) ?_
    exact z_ret (v := some (z_i (-1))) dX8_ifDropped_16 ⟨rfl, Or.inl rfl⟩ rfl h
  · replace h := h.2 c1
    refine z_iload_n 2 dX8_ifDropped_8 rfl rfl ?_
    refine z_callS (As := [z_i x2]) (rest := []) zmX8_isChange ztX8_isChange zlRX8_339 ⟨Nat.le_of_ble_eq_true rfl, Nat.le_of_ble_eq_true rfl⟩ dX8_ifDropped_9 rfl rfl (z_ai z_a0) (Nat.le_of_ble_eq_true rfl) (Nat.le_of_ble_eq_true rfl) ⟨rfl, rfl⟩ ?_
    refine t_X8_isChange  ?_
    show z_Sem mX8_ifDropped (sh.length, 0) 12 [(0, z_r 0), (1, z_i x1), (2, z_i x2)] [z_i (f_X8_isChange w x2)] (sh, w) Q
    refine z_if_ne (tgt := 17) dX8_ifDropped_12 (by decide) (fun c2 => ?_) (fun c2 => ?_)
    · replace h := h.2 c2
      refine z_aload_n 0 dX8_ifDropped_17 rfl rfl ?_
      refine z_iload_n 1 dX8_ifDropped_18 rfl rfl ?_
      refine z_callV (As := [z_i x1]) (rest := []) zmX8_tryWithout znX8_tryWithout zsX8_tryWithout (show z_Cl[8]? = some (RX8, TX8, 9) from rfl) zlRX8_201 ⟨Nat.le_of_ble_eq_true rfl, Nat.le_of_ble_eq_true rfl⟩ dX8_ifDropped_19 hh0.1 rfl rfl (z_ai z_a0) (Nat.le_of_ble_eq_true rfl) (Nat.le_of_ble_eq_true rfl) ⟨rfl, rfl⟩ (z_CVm h ?_)
      intro w3 h
      show z_Sem mX8_ifDropped (sh.length, 0) 22 [(0, z_r 0), (1, z_i x1), (2, z_i x2)] [] (sh, w3) Q
      refine z_aload_n 0 dX8_ifDropped_22 rfl rfl ?_
      refine z_iload_n 2 dX8_ifDropped_23 rfl rfl ?_
      refine z_callV (As := [z_i x2]) (rest := []) zmX8_changeOnTrial znX8_changeOnTrial zsX8_changeOnTrial (show z_Cl[8]? = some (RX8, TX8, 9) from rfl) zlRX8_346 ⟨Nat.le_of_ble_eq_true rfl, Nat.le_of_ble_eq_true rfl⟩ dX8_ifDropped_24 hh0.1 rfl rfl (z_ai z_a0) (Nat.le_of_ble_eq_true rfl) (Nat.le_of_ble_eq_true rfl) ⟨rfl, rfl⟩ (z_CIm h ?_)
      intro y5 w4 h
      show z_Sem mX8_ifDropped (sh.length, 0) 27 [(0, z_r 0), (1, z_i x1), (2, z_i x2)] [z_i y5] (sh, w4) Q
      exact z_ret (v := some (z_i y5)) dX8_ifDropped_27 ⟨rfl, Or.inl rfl⟩ rfl h
    · replace h := h.1 c2
      refine z_iconst dX8_ifDropped_15 (by decide) ?_
      exact z_ret (v := some (z_i (-1))) dX8_ifDropped_16 ⟨rfl, Or.inl rfl⟩ rfl h
set_option maxRecDepth 100000 in
theorem t_X8_ifTurned {sh : List z_C} {w : Nat → Int → Int} {Q : Option z_V → z_S → Prop} {x1 : Int} {x2 : Int} (hh0 : z_isTG sh 0) (h : (((f_X8_isGap w x1) = 0 → Q (some (z_i (-1))) (sh, w)) ∧ (¬ (f_X8_isGap w x1) = 0 → (((f_X8_isChange w x2) = 0 → Q (some (z_i (-1))) (sh, w)) ∧ (¬ (f_X8_isChange w x2) = 0 → ((0 : Int) ≤ x1 ∧ x1 < 24) ∧ (((w 9 x1) = 0 → ((0 : Int) ≤ x1 ∧ x1 < 24) ∧ ((0 : Int) ≤ x1 ∧ x1 < 24) ∧ ((0 : Int) ≤ x1 ∧ x1 < 24) ∧ ((0 : Int) ≤ x1 ∧ x1 < 24) ∧ z_CI mX8_ifTold [z_r 0, z_i (w 5 x1), z_i (w 6 x1), z_i (w 7 x1), z_i (w 8 x1), z_i x2] sh w (fun y10 w9 => Q (some (z_i y10)) (sh, w9))) ∧ (¬ (w 9 x1) = 0 → z_CV mX8_tryWithout [z_r 0, z_i x1] sh w (fun w11 => z_CI mX8_changeOnTrial [z_r 0, z_i x2] sh w11 (fun y13 w12 => Q (some (z_i y13)) (sh, w12)))))))))) : z_Sem mX8_ifTurned (sh.length, 0) 0 [(0, z_r 0), (1, z_i x1), (2, z_i x2)] [] (sh, w) Q := by
  refine z_aload_n 0 dX8_ifTurned_0 rfl rfl ?_
  refine z_iload_n 1 dX8_ifTurned_1 rfl rfl ?_
  refine z_callV (As := [z_i x1]) (rest := []) zmX8_isGap znX8_isGap zsX8_isGap (show z_Cl[8]? = some (RX8, TX8, 9) from rfl) zlRX8_137 ⟨Nat.le_of_ble_eq_true rfl, Nat.le_of_ble_eq_true rfl⟩ dX8_ifTurned_2 hh0.1 rfl rfl (z_ai z_a0) (Nat.le_of_ble_eq_true rfl) (Nat.le_of_ble_eq_true rfl) ⟨rfl, rfl⟩ ?_
  refine t_X8_isGap hh0 ?_
  show z_Sem mX8_ifTurned (sh.length, 0) 5 [(0, z_r 0), (1, z_i x1), (2, z_i x2)] [z_i (f_X8_isGap w x1)] (sh, w) Q
  refine z_if_eq (tgt := 15) dX8_ifTurned_5 (by decide) (fun c1 => ?_) (fun c1 => ?_)
  · replace h := h.1 c1
    refine z_iconst dX8_ifTurned_15 (by decide) ?_
    exact z_ret (v := some (z_i (-1))) dX8_ifTurned_16 ⟨rfl, Or.inl rfl⟩ rfl h
  · replace h := h.2 c1
    refine z_iload_n 2 dX8_ifTurned_8 rfl rfl ?_
    refine z_callS (As := [z_i x2]) (rest := []) zmX8_isChange ztX8_isChange zlRX8_339 ⟨Nat.le_of_ble_eq_true rfl, Nat.le_of_ble_eq_true rfl⟩ dX8_ifTurned_9 rfl rfl (z_ai z_a0) (Nat.le_of_ble_eq_true rfl) (Nat.le_of_ble_eq_true rfl) ⟨rfl, rfl⟩ ?_
    refine t_X8_isChange  ?_
    show z_Sem mX8_ifTurned (sh.length, 0) 12 [(0, z_r 0), (1, z_i x1), (2, z_i x2)] [z_i (f_X8_isChange w x2)] (sh, w) Q
    refine z_if_ne (tgt := 17) dX8_ifTurned_12 (by decide) (fun c2 => ?_) (fun c2 => ?_)
    · replace h := h.2 c2
      refine z_aload_n 0 dX8_ifTurned_17 rfl rfl ?_
      refine z_getR (r := 1) zfRX8_12 dX8_ifTurned_18 hh0.1 rfl ?_
      refine z_getR (r := 9) zfRX8_151 dX8_ifTurned_21 hh0.2.1.1 rfl ?_
      refine z_iload_n 1 dX8_ifTurned_24 rfl rfl ?_
      obtain ⟨q3, h⟩ := h
      refine z_zald dX8_ifTurned_25 hh0.2.1.2.2.2.2.2.2.2.2.1 q3 ?_
      refine z_if_eq (tgt := 40) dX8_ifTurned_26 (by decide) (fun c4 => ?_) (fun c4 => ?_)
      · replace h := h.1 c4
        refine z_aload_n 0 dX8_ifTurned_40 rfl rfl ?_
        refine z_aload_n 0 dX8_ifTurned_41 rfl rfl ?_
        refine z_getR (r := 1) zfRX8_12 dX8_ifTurned_42 hh0.1 rfl ?_
        refine z_getR (r := 5) zfRX8_195 dX8_ifTurned_45 hh0.2.1.1 rfl ?_
        refine z_iload_n 1 dX8_ifTurned_48 rfl rfl ?_
        obtain ⟨q5, h⟩ := h
        refine z_iald dX8_ifTurned_49 hh0.2.1.2.2.2.2.1 q5 ?_
        refine z_aload_n 0 dX8_ifTurned_50 rfl rfl ?_
        refine z_getR (r := 1) zfRX8_12 dX8_ifTurned_51 hh0.1 rfl ?_
        refine z_getR (r := 6) zfRX8_198 dX8_ifTurned_54 hh0.2.1.1 rfl ?_
        refine z_iload_n 1 dX8_ifTurned_57 rfl rfl ?_
        obtain ⟨q6, h⟩ := h
        refine z_iald dX8_ifTurned_58 hh0.2.1.2.2.2.2.2.1 q6 ?_
        refine z_aload_n 0 dX8_ifTurned_59 rfl rfl ?_
        refine z_getR (r := 1) zfRX8_12 dX8_ifTurned_60 hh0.1 rfl ?_
        refine z_getR (r := 7) zfRX8_204 dX8_ifTurned_63 hh0.2.1.1 rfl ?_
        refine z_iload_n 1 dX8_ifTurned_66 rfl rfl ?_
        obtain ⟨q7, h⟩ := h
        refine z_iald dX8_ifTurned_67 hh0.2.1.2.2.2.2.2.2.1 q7 ?_
        refine z_aload_n 0 dX8_ifTurned_68 rfl rfl ?_
        refine z_getR (r := 1) zfRX8_12 dX8_ifTurned_69 hh0.1 rfl ?_
        refine z_getR (r := 8) zfRX8_141 dX8_ifTurned_72 hh0.2.1.1 rfl ?_
        refine z_iload_n 1 dX8_ifTurned_75 rfl rfl ?_
        obtain ⟨q8, h⟩ := h
        refine z_iald dX8_ifTurned_76 hh0.2.1.2.2.2.2.2.2.2.1 q8 ?_
        refine z_iload_n 2 dX8_ifTurned_77 rfl rfl ?_
        refine z_callV (As := [z_i (w 5 x1), z_i (w 6 x1), z_i (w 7 x1), z_i (w 8 x1), z_i x2]) (rest := []) zmX8_ifTold znX8_ifTold zsX8_ifTold (show z_Cl[8]? = some (RX8, TX8, 9) from rfl) zlRX8_349 ⟨Nat.le_of_ble_eq_true rfl, Nat.le_of_ble_eq_true rfl⟩ dX8_ifTurned_78 hh0.1 rfl rfl (z_ai (z_ai (z_ai (z_ai (z_ai z_a0))))) (Nat.le_of_ble_eq_true rfl) (Nat.le_of_ble_eq_true rfl) ⟨rfl, rfl⟩ (z_CIm h ?_)
        intro y10 w9 h
        show z_Sem mX8_ifTurned (sh.length, 0) 81 [(0, z_r 0), (1, z_i x1), (2, z_i x2)] [z_i y10] (sh, w9) Q
        exact z_ret (v := some (z_i y10)) dX8_ifTurned_81 ⟨rfl, Or.inl rfl⟩ rfl h
      · replace h := h.2 c4
        refine z_aload_n 0 dX8_ifTurned_29 rfl rfl ?_
        refine z_iload_n 1 dX8_ifTurned_30 rfl rfl ?_
        refine z_callV (As := [z_i x1]) (rest := []) zmX8_tryWithout znX8_tryWithout zsX8_tryWithout (show z_Cl[8]? = some (RX8, TX8, 9) from rfl) zlRX8_201 ⟨Nat.le_of_ble_eq_true rfl, Nat.le_of_ble_eq_true rfl⟩ dX8_ifTurned_31 hh0.1 rfl rfl (z_ai z_a0) (Nat.le_of_ble_eq_true rfl) (Nat.le_of_ble_eq_true rfl) ⟨rfl, rfl⟩ (z_CVm h ?_)
        intro w11 h
        show z_Sem mX8_ifTurned (sh.length, 0) 34 [(0, z_r 0), (1, z_i x1), (2, z_i x2)] [] (sh, w11) Q
        refine z_aload_n 0 dX8_ifTurned_34 rfl rfl ?_
        refine z_iload_n 2 dX8_ifTurned_35 rfl rfl ?_
        refine z_callV (As := [z_i x2]) (rest := []) zmX8_changeOnTrial znX8_changeOnTrial zsX8_changeOnTrial (show z_Cl[8]? = some (RX8, TX8, 9) from rfl) zlRX8_346 ⟨Nat.le_of_ble_eq_true rfl, Nat.le_of_ble_eq_true rfl⟩ dX8_ifTurned_36 hh0.1 rfl rfl (z_ai z_a0) (Nat.le_of_ble_eq_true rfl) (Nat.le_of_ble_eq_true rfl) ⟨rfl, rfl⟩ (z_CIm h ?_)
        intro y13 w12 h
        show z_Sem mX8_ifTurned (sh.length, 0) 39 [(0, z_r 0), (1, z_i x1), (2, z_i x2)] [z_i y13] (sh, w12) Q
        exact z_ret (v := some (z_i y13)) dX8_ifTurned_39 ⟨rfl, Or.inl rfl⟩ rfl h
    · replace h := h.1 c2
      refine z_iconst dX8_ifTurned_15 (by decide) ?_
      exact z_ret (v := some (z_i (-1))) dX8_ifTurned_16 ⟨rfl, Or.inl rfl⟩ rfl h
set_option maxRecDepth 100000 in
theorem t_X8_ifPinned {sh : List z_C} {w : Nat → Int → Int} {Q : Option z_V → z_S → Prop} {x1 : Int} {x2 : Int} {x3 : Int} (hh0 : z_isTG sh 0) (h : (((f_X8_isEvent w x1) = 0 → Q (some (z_i (-1))) (sh, w)) ∧ (¬ (f_X8_isEvent w x1) = 0 → (((f_X8_isTime w x2) = 0 → Q (some (z_i (-1))) (sh, w)) ∧ (¬ (f_X8_isTime w x2) = 0 → (((f_X8_isChange w x3) = 0 → Q (some (z_i (-1))) (sh, w)) ∧ (¬ (f_X8_isChange w x3) = 0 → (s_X8_isPinnable w x1) ∧ (((f_X8_isPinnable w x1) = 0 → Q (some (z_i (-3))) (sh, w)) ∧ (¬ (f_X8_isPinnable w x1) = 0 → (s_X2_allows w 12 x1 x2) ∧ (((f_X2_allows w 12 x1 x2) = 0 → Q (some (z_i (-5))) (sh, w)) ∧ (¬ (f_X2_allows w 12 x1 x2) = 0 → z_CV mX2_copyBounds [z_r 18, z_r 12] sh w (fun w8 => z_CV mX2_addPin [z_r 18, z_i x1, z_i x2] sh w8 (fun w9 => z_CI mX8_changeOnTrial [z_r 0, z_i x3] sh w9 (fun y11 w10 => Q (some (z_i y11)) (sh, w10))))))))))))))) : z_Sem mX8_ifPinned (sh.length, 0) 0 [(0, z_r 0), (1, z_i x1), (2, z_i x2), (3, z_i x3)] [] (sh, w) Q := by
  refine z_aload_n 0 dX8_ifPinned_0 rfl rfl ?_
  refine z_iload_n 1 dX8_ifPinned_1 rfl rfl ?_
  refine z_callV (As := [z_i x1]) (rest := []) zmX8_isEvent znX8_isEvent zsX8_isEvent (show z_Cl[8]? = some (RX8, TX8, 9) from rfl) zlRX8_163 ⟨Nat.le_of_ble_eq_true rfl, Nat.le_of_ble_eq_true rfl⟩ dX8_ifPinned_2 hh0.1 rfl rfl (z_ai z_a0) (Nat.le_of_ble_eq_true rfl) (Nat.le_of_ble_eq_true rfl) ⟨rfl, rfl⟩ ?_
  refine t_X8_isEvent hh0 ?_
  show z_Sem mX8_ifPinned (sh.length, 0) 5 [(0, z_r 0), (1, z_i x1), (2, z_i x2), (3, z_i x3)] [z_i (f_X8_isEvent w x1)] (sh, w) Q
  refine z_if_eq (tgt := 23) dX8_ifPinned_5 (by decide) (fun c1 => ?_) (fun c1 => ?_)
  · replace h := h.1 c1
    refine z_iconst dX8_ifPinned_23 (by decide) ?_
    exact z_ret (v := some (z_i (-1))) dX8_ifPinned_24 ⟨rfl, Or.inl rfl⟩ rfl h
  · replace h := h.2 c1
    refine z_aload_n 0 dX8_ifPinned_8 rfl rfl ?_
    refine z_iload_n 2 dX8_ifPinned_9 rfl rfl ?_
    refine z_callV (As := [z_i x2]) (rest := []) zmX8_isTime znX8_isTime zsX8_isTime (show z_Cl[8]? = some (RX8, TX8, 9) from rfl) zlRX8_166 ⟨Nat.le_of_ble_eq_true rfl, Nat.le_of_ble_eq_true rfl⟩ dX8_ifPinned_10 hh0.1 rfl rfl (z_ai z_a0) (Nat.le_of_ble_eq_true rfl) (Nat.le_of_ble_eq_true rfl) ⟨rfl, rfl⟩ ?_
    refine t_X8_isTime hh0 ?_
    show z_Sem mX8_ifPinned (sh.length, 0) 13 [(0, z_r 0), (1, z_i x1), (2, z_i x2), (3, z_i x3)] [z_i (f_X8_isTime w x2)] (sh, w) Q
    refine z_if_eq (tgt := 23) dX8_ifPinned_13 (by decide) (fun c2 => ?_) (fun c2 => ?_)
    · replace h := h.1 c2
      refine z_iconst dX8_ifPinned_23 (by decide) ?_
      exact z_ret (v := some (z_i (-1))) dX8_ifPinned_24 ⟨rfl, Or.inl rfl⟩ rfl h
    · replace h := h.2 c2
      refine z_iload_n 3 dX8_ifPinned_16 rfl rfl ?_
      refine z_callS (As := [z_i x3]) (rest := []) zmX8_isChange ztX8_isChange zlRX8_339 ⟨Nat.le_of_ble_eq_true rfl, Nat.le_of_ble_eq_true rfl⟩ dX8_ifPinned_17 rfl rfl (z_ai z_a0) (Nat.le_of_ble_eq_true rfl) (Nat.le_of_ble_eq_true rfl) ⟨rfl, rfl⟩ ?_
      refine t_X8_isChange  ?_
      show z_Sem mX8_ifPinned (sh.length, 0) 20 [(0, z_r 0), (1, z_i x1), (2, z_i x2), (3, z_i x3)] [z_i (f_X8_isChange w x3)] (sh, w) Q
      refine z_if_ne (tgt := 25) dX8_ifPinned_20 (by decide) (fun c3 => ?_) (fun c3 => ?_)
      · replace h := h.2 c3
        refine z_aload_n 0 dX8_ifPinned_25 rfl rfl ?_
        refine z_iload_n 1 dX8_ifPinned_26 rfl rfl ?_
        obtain ⟨q4, h⟩ := h
        refine z_callV (As := [z_i x1]) (rest := []) zmX8_isPinnable znX8_isPinnable zsX8_isPinnable (show z_Cl[8]? = some (RX8, TX8, 9) from rfl) zlRX8_169 ⟨Nat.le_of_ble_eq_true rfl, Nat.le_of_ble_eq_true rfl⟩ dX8_ifPinned_27 hh0.1 rfl rfl (z_ai z_a0) (Nat.le_of_ble_eq_true rfl) (Nat.le_of_ble_eq_true rfl) ⟨rfl, rfl⟩ ?_
        refine t_X8_isPinnable hh0 q4 ?_
        show z_Sem mX8_ifPinned (sh.length, 0) 30 [(0, z_r 0), (1, z_i x1), (2, z_i x2), (3, z_i x3)] [z_i (f_X8_isPinnable w x1)] (sh, w) Q
        refine z_if_ne (tgt := 36) dX8_ifPinned_30 (by decide) (fun c5 => ?_) (fun c5 => ?_)
        · replace h := h.2 c5
          refine z_aload_n 0 dX8_ifPinned_36 rfl rfl ?_
          refine z_getR (r := 12) zfRX8_19 dX8_ifPinned_37 hh0.1 rfl ?_
          refine z_iload_n 1 dX8_ifPinned_40 rfl rfl ?_
          refine z_iload_n 2 dX8_ifPinned_41 rfl rfl ?_
          obtain ⟨q6, h⟩ := h
          refine z_callV (As := [z_i x1, z_i x2]) (rest := []) zmX2_allows znX2_allows zsX2_allows (show z_Cl[2]? = some (RX2, TX2, 7) from rfl) zlRX8_172 ⟨Nat.le_of_ble_eq_true rfl, Nat.le_of_ble_eq_true rfl⟩ dX8_ifPinned_42 hh0.2.2.1.1 rfl rfl (z_ai (z_ai z_a0)) (Nat.le_of_ble_eq_true rfl) (Nat.le_of_ble_eq_true rfl) ⟨rfl, rfl⟩ ?_
          refine t_X2_allows hh0.2.2.1 q6 ?_
          show z_Sem mX8_ifPinned (sh.length, 0) 45 [(0, z_r 0), (1, z_i x1), (2, z_i x2), (3, z_i x3)] [z_i (f_X2_allows w 12 x1 x2)] (sh, w) Q
          refine z_if_ne (tgt := 51) dX8_ifPinned_45 (by decide) (fun c7 => ?_) (fun c7 => ?_)
          · replace h := h.2 c7
            refine z_aload_n 0 dX8_ifPinned_51 rfl rfl ?_
            refine z_getR (r := 18) zfRX8_23 dX8_ifPinned_52 hh0.1 rfl ?_
            refine z_aload_n 0 dX8_ifPinned_55 rfl rfl ?_
            refine z_getR (r := 12) zfRX8_19 dX8_ifPinned_56 hh0.1 rfl ?_
            refine z_callV (As := [z_r 12]) (rest := []) zmX2_copyBounds znX2_copyBounds zsX2_copyBounds (show z_Cl[2]? = some (RX2, TX2, 7) from rfl) zlRX8_308 ⟨Nat.le_of_ble_eq_true rfl, Nat.le_of_ble_eq_true rfl⟩ dX8_ifPinned_59 hh0.2.2.2.1.1 rfl rfl (z_ar z_a0) (Nat.le_of_ble_eq_true rfl) (Nat.le_of_ble_eq_true rfl) ⟨rfl, rfl⟩ (z_CVm h ?_)
            intro w8 h
            show z_Sem mX8_ifPinned (sh.length, 0) 62 [(0, z_r 0), (1, z_i x1), (2, z_i x2), (3, z_i x3)] [] (sh, w8) Q
            refine z_aload_n 0 dX8_ifPinned_62 rfl rfl ?_
            refine z_getR (r := 18) zfRX8_23 dX8_ifPinned_63 hh0.1 rfl ?_
            refine z_iload_n 1 dX8_ifPinned_66 rfl rfl ?_
            refine z_iload_n 2 dX8_ifPinned_67 rfl rfl ?_
            refine z_callV (As := [z_i x1, z_i x2]) (rest := []) zmX2_addPin znX2_addPin zsX2_addPin (show z_Cl[2]? = some (RX2, TX2, 7) from rfl) zlRX8_312 ⟨Nat.le_of_ble_eq_true rfl, Nat.le_of_ble_eq_true rfl⟩ dX8_ifPinned_68 hh0.2.2.2.1.1 rfl rfl (z_ai (z_ai z_a0)) (Nat.le_of_ble_eq_true rfl) (Nat.le_of_ble_eq_true rfl) ⟨rfl, rfl⟩ (z_CVm h ?_)
            intro w9 h
            show z_Sem mX8_ifPinned (sh.length, 0) 71 [(0, z_r 0), (1, z_i x1), (2, z_i x2), (3, z_i x3)] [] (sh, w9) Q
            refine z_aload_n 0 dX8_ifPinned_71 rfl rfl ?_
            refine z_iload_n 3 dX8_ifPinned_72 rfl rfl ?_
            refine z_callV (As := [z_i x3]) (rest := []) zmX8_changeOnTrial znX8_changeOnTrial zsX8_changeOnTrial (show z_Cl[8]? = some (RX8, TX8, 9) from rfl) zlRX8_346 ⟨Nat.le_of_ble_eq_true rfl, Nat.le_of_ble_eq_true rfl⟩ dX8_ifPinned_73 hh0.1 rfl rfl (z_ai z_a0) (Nat.le_of_ble_eq_true rfl) (Nat.le_of_ble_eq_true rfl) ⟨rfl, rfl⟩ (z_CIm h ?_)
            intro y11 w10 h
            show z_Sem mX8_ifPinned (sh.length, 0) 76 [(0, z_r 0), (1, z_i x1), (2, z_i x2), (3, z_i x3)] [z_i y11] (sh, w10) Q
            exact z_ret (v := some (z_i y11)) dX8_ifPinned_76 ⟨rfl, Or.inl rfl⟩ rfl h
          · replace h := h.1 c7
            refine z_bipush dX8_ifPinned_48 (by decide) (by decide) ?_
            exact z_ret (v := some (z_i (-5))) dX8_ifPinned_50 ⟨rfl, Or.inl rfl⟩ rfl h
        · replace h := h.1 c5
          refine z_bipush dX8_ifPinned_33 (by decide) (by decide) ?_
          exact z_ret (v := some (z_i (-3))) dX8_ifPinned_35 ⟨rfl, Or.inl rfl⟩ rfl h
      · replace h := h.1 c3
        refine z_iconst dX8_ifPinned_23 (by decide) ?_
        exact z_ret (v := some (z_i (-1))) dX8_ifPinned_24 ⟨rfl, Or.inl rfl⟩ rfl h
