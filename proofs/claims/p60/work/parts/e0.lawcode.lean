theorem z_CFm {M' : z_M} {vs : List z_V} {sh : List z_C} {w : z_Mm} {K : UInt32 → z_Mm → Prop} {Q' : Option z_V → z_S → Prop} (h : z_CF M' vs sh w K) (k : ∀ x w', K x w' → Q' (some (z_f x)) (sh, w')) : z_Sem M' (sh.length, 0) 0 (z_la 0 vs) [] (sh, w) Q' := by
  refine z_Sem.mono h (fun v σ' hQ => ?_)
  obtain ⟨x, w', rfl, rfl, hk⟩ := hQ
  exact k x w' hk
theorem z_CDm {M' : z_M} {vs : List z_V} {sh : List z_C} {w : z_Mm} {K : UInt64 → z_Mm → Prop} {Q' : Option z_V → z_S → Prop} (h : z_CD M' vs sh w K) (k : ∀ x w', K x w' → Q' (some (z_d x)) (sh, w')) : z_Sem M' (sh.length, 0) 0 (z_la 0 vs) [] (sh, w) Q' := by
  refine z_Sem.mono h (fun v σ' hQ => ?_)
  obtain ⟨x, w', rfl, rfl, hk⟩ := hQ
  exact k x w' hk
set_option maxRecDepth 100000 in
theorem t_L_draw {sh : List z_C} {w : Nat → Int → Int} {Q : Option z_V → z_S → Prop} {a0 : Nat} (hh0 : sh[a0]? = some (.inr (.inl (0, 8)))) (h : ∀ w1 : Nat → Int → Int, w1 = z_W w a0 7 (z_nrm ((z_nrm ((w a0 7) * 1103515245)) + 12345)) → Q (some (z_i (z_and (z_shr (w1 a0 7) 16) 32767))) (sh, w1)) : z_Sem mL_draw (sh.length, 0) 0 [(0, z_r a0)] [] (sh, w) Q := by
  refine z_aload_n 0 dL_draw_0 rfl rfl ?_
  refine z_bipush dL_draw_1 (by decide) (by decide) ?_
  refine z_aload_n 0 dL_draw_3 rfl rfl ?_
  refine z_bipush dL_draw_4 (by decide) (by decide) ?_
  refine z_iald dL_draw_6 hh0 (by decide) ?_
  refine z_ldc (n := 1103515245) zkRL_7 dL_draw_7 (by decide) (by decide) ?_
  refine z_imulW dL_draw_9 ?_
  refine z_sipush dL_draw_10 (by decide) (by decide) ?_
  refine z_iaddW dL_draw_13 ?_
  refine z_iast dL_draw_14 hh0 (by decide) ?_
  refine z_genw (fun w1 hw1 => ?_)
  replace h := h w1 hw1
  refine z_aload_n 0 dL_draw_15 rfl rfl ?_
  refine z_bipush dL_draw_16 (by decide) (by decide) ?_
  refine z_iald dL_draw_18 hh0 (by decide) ?_
  refine z_bipush dL_draw_19 (by decide) (by decide) ?_
  refine z_ishr dL_draw_21 ?_
  refine z_sipush dL_draw_22 (by decide) (by decide) ?_
  refine z_iand dL_draw_25 ?_
  exact z_ret (v := some (z_i (z_and (z_shr (w1 a0 7) 16) 32767))) dL_draw_26 ⟨rfl, Or.inl rfl⟩ rfl h
set_option maxRecDepth 100000 in
theorem t_L_time {sh : List z_C} {w : Nat → Int → Int} {Q : Option z_V → z_S → Prop} {x1 : Int} {x2 : Int} (hh0 : z_isTG sh 0) (h : ((2 ≤ x2 → z_CI mX8_middle [z_r 0, z_i x1] sh w (fun y3 w2 => Q (some (z_i y3)) (sh, w2))) ∧ (¬ 2 ≤ x2 → z_CI mX8_event [z_r 0, z_i x1, z_i x2] sh w (fun y5 w4 => Q (some (z_i y5)) (sh, w4))))) : z_Sem mL_time (sh.length, 0) 0 [(0, z_r 0), (1, z_i x1), (2, z_i x2)] [] (sh, w) Q := by
  refine z_iload_n 2 dL_time_0 rfl rfl ?_
  refine z_iconst dL_time_1 (by decide) ?_
  refine z_icmp_ge (tgt := 14) dL_time_2 (by decide) (fun c1 => ?_) (fun c1 => ?_)
  · replace h := h.1 c1
    refine z_aload_n 0 dL_time_14 rfl rfl ?_
    refine z_iload_n 1 dL_time_15 rfl rfl ?_
    refine z_callV (As := [z_i x1]) (rest := []) zmX8_middle znX8_middle zsX8_middle (show z_Cl[8]? = some (RX8, TX8, 9) from rfl) zlRL_171 ⟨Nat.le_of_ble_eq_true rfl, Nat.le_of_ble_eq_true rfl⟩ dL_time_16 hh0.1 rfl rfl (z_ai z_a0) (Nat.le_of_ble_eq_true rfl) (Nat.le_of_ble_eq_true rfl) ⟨rfl, rfl⟩ (z_CIm h ?_)
    intro y3 w2 h
    show z_Sem mL_time (sh.length, 0) 19 [(0, z_r 0), (1, z_i x1), (2, z_i x2)] [z_i y3] (sh, w2) Q
    exact z_ret (v := some (z_i y3)) dL_time_19 ⟨rfl, Or.inl rfl⟩ rfl h
  · replace h := h.2 c1
    refine z_aload_n 0 dL_time_5 rfl rfl ?_
    refine z_iload_n 1 dL_time_6 rfl rfl ?_
    refine z_iload_n 2 dL_time_7 rfl rfl ?_
    refine z_callV (As := [z_i x1, z_i x2]) (rest := []) zmX8_event znX8_event zsX8_event (show z_Cl[8]? = some (RX8, TX8, 9) from rfl) zlRL_148 ⟨Nat.le_of_ble_eq_true rfl, Nat.le_of_ble_eq_true rfl⟩ dL_time_8 hh0.1 rfl rfl (z_ai (z_ai z_a0)) (Nat.le_of_ble_eq_true rfl) (Nat.le_of_ble_eq_true rfl) ⟨rfl, rfl⟩ (z_CIm h ?_)
    intro y5 w4 h
    show z_Sem mL_time (sh.length, 0) 11 [(0, z_r 0), (1, z_i x1), (2, z_i x2)] [z_i y5] (sh, w4) Q
    refine z_goto (tgt := 19) dL_time_11 (by decide) ?_
    exact z_ret (v := some (z_i y5)) dL_time_19 ⟨rfl, Or.inl rfl⟩ rfl h
set_option maxRecDepth 100000 in
theorem t_L_lengthOf {sh : List z_C} {w : Nat → Int → Int} {Q : Option z_V → z_S → Prop} {x1 : Int} (hh0 : z_isTG sh 0) (h : ((100 ≤ x1 → ((200 ≤ x1 → ((300 ≤ x1 → ((400 ≤ x1 → (z_R (x1 - 400)) ∧ z_CI mX8_event [z_r 0, z_i (x1 - 400), z_i 3] sh w (fun y7 w6 => (z_R (-y7)) ∧ Q (some (z_i (-y7))) (sh, w6))) ∧ (¬ 400 ≤ x1 → (z_R (x1 - 300)) ∧ z_CI mX8_event [z_r 0, z_i (x1 - 300), z_i 3] sh w (fun y11 w10 => Q (some (z_i y11)) (sh, w10))))) ∧ (¬ 300 ≤ x1 → Q (some (z_i 0)) (sh, w)))) ∧ (¬ 200 ≤ x1 → z_CI mX8_value [z_r 0, z_i 0] sh w (fun y13 w12 => Q (some (z_i y13)) (sh, w12))))) ∧ (¬ 100 ≤ x1 → z_CI mX8_gap [z_r 0, z_i x1, z_i 2] sh w (fun y15 w14 => ((y15 = 0 → z_CI mX8_gap [z_r 0, z_i x1, z_i 3] sh w14 (fun y21 w20 => Q (some (z_i y21)) (sh, w20))) ∧ (¬ y15 = 0 → z_CI mX8_gap [z_r 0, z_i x1, z_i 3] sh w14 (fun y18 w17 => (z_R (-y18)) ∧ Q (some (z_i (-y18))) (sh, w17)))))))) : z_Sem mL_lengthOf (sh.length, 0) 0 [(0, z_r 0), (1, z_i x1)] [] (sh, w) Q := by
  refine z_iload_n 1 dL_lengthOf_0 rfl rfl ?_
  refine z_bipush dL_lengthOf_1 (by decide) (by decide) ?_
  refine z_icmp_ge (tgt := 32) dL_lengthOf_3 (by decide) (fun c1 => ?_) (fun c1 => ?_)
  · replace h := h.1 c1
    refine z_iload_n 1 dL_lengthOf_32 rfl rfl ?_
    refine z_sipush dL_lengthOf_33 (by decide) (by decide) ?_
    refine z_icmp_ge (tgt := 47) dL_lengthOf_36 (by decide) (fun c2 => ?_) (fun c2 => ?_)
    · replace h := h.1 c2
      refine z_iload_n 1 dL_lengthOf_47 rfl rfl ?_
      refine z_sipush dL_lengthOf_48 (by decide) (by decide) ?_
      refine z_icmp_ge (tgt := 58) dL_lengthOf_51 (by decide) (fun c3 => ?_) (fun c3 => ?_)
      · replace h := h.1 c3
        refine z_iload_n 1 dL_lengthOf_58 rfl rfl ?_
        refine z_sipush dL_lengthOf_59 (by decide) (by decide) ?_
        refine z_icmp_ge (tgt := 78) dL_lengthOf_62 (by decide) (fun c4 => ?_) (fun c4 => ?_)
        · replace h := h.1 c4
          refine z_aload_n 0 dL_lengthOf_78 rfl rfl ?_
          refine z_iload_n 1 dL_lengthOf_79 rfl rfl ?_
          refine z_sipush dL_lengthOf_80 (by decide) (by decide) ?_
          obtain ⟨q5, h⟩ := h
          refine z_isub dL_lengthOf_83 q5 ?_
          refine z_iconst dL_lengthOf_84 (by decide) ?_
          refine z_callV (As := [z_i (x1 - 400), z_i 3]) (rest := []) zmX8_event znX8_event zsX8_event (show z_Cl[8]? = some (RX8, TX8, 9) from rfl) zlRL_148 ⟨Nat.le_of_ble_eq_true rfl, Nat.le_of_ble_eq_true rfl⟩ dL_lengthOf_85 hh0.1 rfl rfl (z_ai (z_ai z_a0)) (Nat.le_of_ble_eq_true rfl) (Nat.le_of_ble_eq_true rfl) ⟨rfl, rfl⟩ (z_CIm h ?_)
          intro y7 w6 h
          show z_Sem mL_lengthOf (sh.length, 0) 88 [(0, z_r 0), (1, z_i x1)] [z_i y7] (sh, w6) Q
          obtain ⟨q8, h⟩ := h
          refine z_ineg dL_lengthOf_88 q8 ?_
          exact z_ret (v := some (z_i (-y7))) dL_lengthOf_89 ⟨rfl, Or.inl rfl⟩ rfl h
        · replace h := h.2 c4
          refine z_aload_n 0 dL_lengthOf_65 rfl rfl ?_
          refine z_iload_n 1 dL_lengthOf_66 rfl rfl ?_
          refine z_sipush dL_lengthOf_67 (by decide) (by decide) ?_
          obtain ⟨q9, h⟩ := h
          refine z_isub dL_lengthOf_70 q9 ?_
          refine z_iconst dL_lengthOf_71 (by decide) ?_
          refine z_callV (As := [z_i (x1 - 300), z_i 3]) (rest := []) zmX8_event znX8_event zsX8_event (show z_Cl[8]? = some (RX8, TX8, 9) from rfl) zlRL_148 ⟨Nat.le_of_ble_eq_true rfl, Nat.le_of_ble_eq_true rfl⟩ dL_lengthOf_72 hh0.1 rfl rfl (z_ai (z_ai z_a0)) (Nat.le_of_ble_eq_true rfl) (Nat.le_of_ble_eq_true rfl) ⟨rfl, rfl⟩ (z_CIm h ?_)
          intro y11 w10 h
          show z_Sem mL_lengthOf (sh.length, 0) 75 [(0, z_r 0), (1, z_i x1)] [z_i y11] (sh, w10) Q
          refine z_goto (tgt := 89) dL_lengthOf_75 (by decide) ?_
          exact z_ret (v := some (z_i y11)) dL_lengthOf_89 ⟨rfl, Or.inl rfl⟩ rfl h
      · replace h := h.2 c3
        refine z_iconst dL_lengthOf_54 (by decide) ?_
        refine z_goto (tgt := 89) dL_lengthOf_55 (by decide) ?_
        exact z_ret (v := some (z_i 0)) dL_lengthOf_89 ⟨rfl, Or.inl rfl⟩ rfl h
    · replace h := h.2 c2
      refine z_aload_n 0 dL_lengthOf_39 rfl rfl ?_
      refine z_iconst dL_lengthOf_40 (by decide) ?_
      refine z_callV (As := [z_i 0]) (rest := []) zmX8_value znX8_value zsX8_value (show z_Cl[8]? = some (RX8, TX8, 9) from rfl) zlRL_103 ⟨Nat.le_of_ble_eq_true rfl, Nat.le_of_ble_eq_true rfl⟩ dL_lengthOf_41 hh0.1 rfl rfl (z_ai z_a0) (Nat.le_of_ble_eq_true rfl) (Nat.le_of_ble_eq_true rfl) ⟨rfl, rfl⟩ (z_CIm h ?_)
      intro y13 w12 h
      show z_Sem mL_lengthOf (sh.length, 0) 44 [(0, z_r 0), (1, z_i x1)] [z_i y13] (sh, w12) Q
      refine z_goto (tgt := 89) dL_lengthOf_44 (by decide) ?_
      exact z_ret (v := some (z_i y13)) dL_lengthOf_89 ⟨rfl, Or.inl rfl⟩ rfl h
  · replace h := h.2 c1
    refine z_aload_n 0 dL_lengthOf_6 rfl rfl ?_
    refine z_iload_n 1 dL_lengthOf_7 rfl rfl ?_
    refine z_iconst dL_lengthOf_8 (by decide) ?_
    refine z_callV (As := [z_i x1, z_i 2]) (rest := []) zmX8_gap znX8_gap zsX8_gap (show z_Cl[8]? = some (RX8, TX8, 9) from rfl) zlRL_154 ⟨Nat.le_of_ble_eq_true rfl, Nat.le_of_ble_eq_true rfl⟩ dL_lengthOf_9 hh0.1 rfl rfl (z_ai (z_ai z_a0)) (Nat.le_of_ble_eq_true rfl) (Nat.le_of_ble_eq_true rfl) ⟨rfl, rfl⟩ (z_CIm h ?_)
    intro y15 w14 h
    show z_Sem mL_lengthOf (sh.length, 0) 12 [(0, z_r 0), (1, z_i x1)] [z_i y15] (sh, w14) Q
    refine z_if_ne (tgt := 24) dL_lengthOf_12 (by decide) (fun c16 => ?_) (fun c16 => ?_)
    · replace h := h.2 c16
      refine z_aload_n 0 dL_lengthOf_24 rfl rfl ?_
      refine z_iload_n 1 dL_lengthOf_25 rfl rfl ?_
      refine z_iconst dL_lengthOf_26 (by decide) ?_
      refine z_callV (As := [z_i x1, z_i 3]) (rest := []) zmX8_gap znX8_gap zsX8_gap (show z_Cl[8]? = some (RX8, TX8, 9) from rfl) zlRL_154 ⟨Nat.le_of_ble_eq_true rfl, Nat.le_of_ble_eq_true rfl⟩ dL_lengthOf_27 hh0.1 rfl rfl (z_ai (z_ai z_a0)) (Nat.le_of_ble_eq_true rfl) (Nat.le_of_ble_eq_true rfl) ⟨rfl, rfl⟩ (z_CIm h ?_)
      intro y18 w17 h
      show z_Sem mL_lengthOf (sh.length, 0) 30 [(0, z_r 0), (1, z_i x1)] [z_i y18] (sh, w17) Q
      obtain ⟨q19, h⟩ := h
      refine z_ineg dL_lengthOf_30 q19 ?_
      exact z_ret (v := some (z_i (-y18))) dL_lengthOf_31 ⟨rfl, Or.inl rfl⟩ rfl h
    · replace h := h.1 c16
      refine z_aload_n 0 dL_lengthOf_15 rfl rfl ?_
      refine z_iload_n 1 dL_lengthOf_16 rfl rfl ?_
      refine z_iconst dL_lengthOf_17 (by decide) ?_
      refine z_callV (As := [z_i x1, z_i 3]) (rest := []) zmX8_gap znX8_gap zsX8_gap (show z_Cl[8]? = some (RX8, TX8, 9) from rfl) zlRL_154 ⟨Nat.le_of_ble_eq_true rfl, Nat.le_of_ble_eq_true rfl⟩ dL_lengthOf_18 hh0.1 rfl rfl (z_ai (z_ai z_a0)) (Nat.le_of_ble_eq_true rfl) (Nat.le_of_ble_eq_true rfl) ⟨rfl, rfl⟩ (z_CIm h ?_)
      intro y21 w20 h
      show z_Sem mL_lengthOf (sh.length, 0) 21 [(0, z_r 0), (1, z_i x1)] [z_i y21] (sh, w20) Q
      refine z_goto (tgt := 31) dL_lengthOf_21 (by decide) ?_
      exact z_ret (v := some (z_i y21)) dL_lengthOf_31 ⟨rfl, Or.inl rfl⟩ rfl h
set_option maxRecDepth 100000 in
theorem t_L_tells {sh : List z_C} {w : Nat → Int → Int} {Q : Option z_V → z_S → Prop} {a1 : Nat} (hh0 : z_isTG sh 0) (hh1 : sh[a1]? = some (.inr (.inl (0, 400)))) (h : z_Sem mL_tells (sh.length, 0) 4 [(0, z_r 0), (1, z_r a1), (2, z_i 0), (3, z_i 0)] [] (sh, w) Q) : z_Sem mL_tells (sh.length, 0) 0 [(0, z_r 0), (1, z_r a1)] [] (sh, w) Q := by
  refine z_iconst dL_tells_0 (by decide) ?_
  refine z_istore_n (L' := [(2, z_i 0), (0, z_r 0), (1, z_r a1)]) dL_tells_1 rfl (by decide) rfl ?_
  refine z_iconst dL_tells_2 (by decide) ?_
  refine z_istore_n (L' := [(3, z_i 0), (2, z_i 0), (0, z_r 0), (1, z_r a1)]) dL_tells_3 rfl (by decide) rfl ?_
  refine z_sub (L' := [(0, z_r 0), (1, z_r a1), (2, z_i 0), (3, z_i 0)]) [2, 3, 1, 0] rfl ?_
  exact h
set_option maxRecDepth 100000 in
theorem t_L_tells_4 {sh : List z_C} {w : Nat → Int → Int} {Q : Option z_V → z_S → Prop} {a1 : Nat} {x2 : Int} {x3 : Int} (hh0 : z_isTG sh 0) (hh1 : sh[a1]? = some (.inr (.inl (0, 400)))) (h : ((12 ≤ x3 → z_Sem mL_tells (sh.length, 0) 29 [(0, z_r 0), (1, z_r a1), (2, z_i x2), (3, z_i 0)] [] (sh, w) Q) ∧ (¬ 12 ≤ x3 → z_CI mX8_value [z_r 0, z_i x3] sh w (fun y3 w2 => ((0 : Int) ≤ x2 ∧ x2 < 400) ∧ ∀ w4 : Nat → Int → Int, w4 = z_W w2 a1 x2 y3 → (z_R (x2 + 1)) ∧ (z_R (x3 + 1)) ∧ z_Sem mL_tells (sh.length, 0) 4 [(0, z_r 0), (1, z_r a1), (2, z_i (x2 + 1)), (3, z_i (x3 + 1))] [] (sh, w4) Q)))) : z_Sem mL_tells (sh.length, 0) 4 [(0, z_r 0), (1, z_r a1), (2, z_i x2), (3, z_i x3)] [] (sh, w) Q := by
  refine z_iload_n 3 dL_tells_4 rfl rfl ?_
  refine z_bipush dL_tells_5 (by decide) (by decide) ?_
  refine z_icmp_ge (tgt := 27) dL_tells_7 (by decide) (fun c1 => ?_) (fun c1 => ?_)
  · replace h := h.1 c1
    refine z_iconst dL_tells_27 (by decide) ?_
    refine z_istore_n (L' := [(3, z_i 0), (0, z_r 0), (1, z_r a1), (2, z_i x2)]) dL_tells_28 rfl (by decide) rfl ?_
    refine z_sub (L' := [(0, z_r 0), (1, z_r a1), (2, z_i x2), (3, z_i 0)]) [1, 2, 3, 0] rfl ?_
    exact h
  · replace h := h.2 c1
    refine z_aload_n 1 dL_tells_10 rfl rfl ?_
    refine z_iload_n 2 dL_tells_11 rfl rfl ?_
    refine z_aload_n 0 dL_tells_12 rfl rfl ?_
    refine z_iload_n 3 dL_tells_13 rfl rfl ?_
    refine z_callV (As := [z_i x3]) (rest := [z_i x2, z_r a1]) zmX8_value znX8_value zsX8_value (show z_Cl[8]? = some (RX8, TX8, 9) from rfl) zlRL_103 ⟨Nat.le_of_ble_eq_true rfl, Nat.le_of_ble_eq_true rfl⟩ dL_tells_14 hh0.1 rfl rfl (z_ai z_a0) (Nat.le_of_ble_eq_true rfl) (Nat.le_of_ble_eq_true rfl) ⟨rfl, rfl⟩ (z_CIm h ?_)
    intro y3 w2 h
    show z_Sem mL_tells (sh.length, 0) 17 [(0, z_r 0), (1, z_r a1), (2, z_i x2), (3, z_i x3)] [z_i y3, z_i x2, z_r a1] (sh, w2) Q
    obtain ⟨q5, h⟩ := h
    refine z_iast dL_tells_17 hh1 q5 ?_
    refine z_genw (fun w4 hw4 => ?_)
    replace h := h w4 hw4
    obtain ⟨q6, h⟩ := h
    refine z_iinc (L' := [(2, z_i (x2 + 1)), (0, z_r 0), (1, z_r a1), (3, z_i x3)]) 2 dL_tells_18 rfl (by decide) rfl q6 ?_
    obtain ⟨q7, h⟩ := h
    refine z_iinc (L' := [(3, z_i (x3 + 1)), (2, z_i (x2 + 1)), (0, z_r 0), (1, z_r a1)]) 3 dL_tells_21 rfl (by decide) rfl q7 ?_
    refine z_goto (tgt := 4) dL_tells_24 (by decide) ?_
    refine z_sub (L' := [(0, z_r 0), (1, z_r a1), (2, z_i (x2 + 1)), (3, z_i (x3 + 1))]) [2, 3, 1, 0] rfl ?_
    exact h
set_option maxRecDepth 100000 in
theorem t_L_tells_29 {sh : List z_C} {w : Nat → Int → Int} {Q : Option z_V → z_S → Prop} {a1 : Nat} {x2 : Int} {x3 : Int} (hh0 : z_isTG sh 0) (hh1 : sh[a1]? = some (.inr (.inl (0, 400)))) (h : z_CI mX8_value [z_r 0, z_i 1] sh w (fun y2 w1 => ((y2 ≤ x3 → z_Sem mL_tells (sh.length, 0) 102 [(0, z_r 0), (1, z_r a1), (2, z_i x2), (3, z_i 0)] [] (sh, w1) Q) ∧ (¬ y2 ≤ x3 → z_CI mX8_event [z_r 0, z_i x3, z_i 0] sh w1 (fun y5 w4 => ((0 : Int) ≤ x2 ∧ x2 < 400) ∧ ∀ w6 : Nat → Int → Int, w6 = z_W w4 a1 x2 y5 → (z_R (x2 + 1)) ∧ z_CI mX8_event [z_r 0, z_i x3, z_i 1] sh w6 (fun y10 w9 => ((0 : Int) ≤ (x2 + 1) ∧ (x2 + 1) < 400) ∧ ∀ w11 : Nat → Int → Int, w11 = z_W w9 a1 (x2 + 1) y10 → (z_R (x2 + 2)) ∧ z_CI mX8_event [z_r 0, z_i x3, z_i 3] sh w11 (fun y15 w14 => ((0 : Int) ≤ (x2 + 2) ∧ (x2 + 2) < 400) ∧ ∀ w16 : Nat → Int → Int, w16 = z_W w14 a1 (x2 + 2) y15 → (z_R (x2 + 3)) ∧ z_CI mX8_letter [z_r 0, z_i x3, z_i 0] sh w16 (fun y20 w19 => ((0 : Int) ≤ (x2 + 3) ∧ (x2 + 3) < 400) ∧ ∀ w21 : Nat → Int → Int, w21 = z_W w19 a1 (x2 + 3) y20 → (z_R (x2 + 4)) ∧ z_CI mX8_letter [z_r 0, z_i x3, z_i 1] sh w21 (fun y25 w24 => ((0 : Int) ≤ (x2 + 4) ∧ (x2 + 4) < 400) ∧ ∀ w26 : Nat → Int → Int, w26 = z_W w24 a1 (x2 + 4) y25 → (z_R (x2 + 5)) ∧ (z_R (x3 + 1)) ∧ z_Sem mL_tells (sh.length, 0) 29 [(0, z_r 0), (1, z_r a1), (2, z_i (x2 + 5)), (3, z_i (x3 + 1))] [] (sh, w26) Q))))))))) : z_Sem mL_tells (sh.length, 0) 29 [(0, z_r 0), (1, z_r a1), (2, z_i x2), (3, z_i x3)] [] (sh, w) Q := by
  refine z_iload_n 3 dL_tells_29 rfl rfl ?_
  refine z_aload_n 0 dL_tells_30 rfl rfl ?_
  refine z_iconst dL_tells_31 (by decide) ?_
  refine z_callV (As := [z_i 1]) (rest := [z_i x3]) zmX8_value znX8_value zsX8_value (show z_Cl[8]? = some (RX8, TX8, 9) from rfl) zlRL_103 ⟨Nat.le_of_ble_eq_true rfl, Nat.le_of_ble_eq_true rfl⟩ dL_tells_32 hh0.1 rfl rfl (z_ai z_a0) (Nat.le_of_ble_eq_true rfl) (Nat.le_of_ble_eq_true rfl) ⟨rfl, rfl⟩ (z_CIm h ?_)
  intro y2 w1 h
  show z_Sem mL_tells (sh.length, 0) 35 [(0, z_r 0), (1, z_r a1), (2, z_i x2), (3, z_i x3)] [z_i y2, z_i x3] (sh, w1) Q
  refine z_icmp_ge (tgt := 100) dL_tells_35 (by decide) (fun c3 => ?_) (fun c3 => ?_)
  · replace h := h.1 c3
    refine z_iconst dL_tells_100 (by decide) ?_
    refine z_istore_n (L' := [(3, z_i 0), (0, z_r 0), (1, z_r a1), (2, z_i x2)]) dL_tells_101 rfl (by decide) rfl ?_
    refine z_sub (L' := [(0, z_r 0), (1, z_r a1), (2, z_i x2), (3, z_i 0)]) [1, 2, 3, 0] rfl ?_
    exact h
  · replace h := h.2 c3
    refine z_aload_n 1 dL_tells_38 rfl rfl ?_
    refine z_iload_n 2 dL_tells_39 rfl rfl ?_
    refine z_aload_n 0 dL_tells_40 rfl rfl ?_
    refine z_iload_n 3 dL_tells_41 rfl rfl ?_
    refine z_iconst dL_tells_42 (by decide) ?_
    refine z_callV (As := [z_i x3, z_i 0]) (rest := [z_i x2, z_r a1]) zmX8_event znX8_event zsX8_event (show z_Cl[8]? = some (RX8, TX8, 9) from rfl) zlRL_148 ⟨Nat.le_of_ble_eq_true rfl, Nat.le_of_ble_eq_true rfl⟩ dL_tells_43 hh0.1 rfl rfl (z_ai (z_ai z_a0)) (Nat.le_of_ble_eq_true rfl) (Nat.le_of_ble_eq_true rfl) ⟨rfl, rfl⟩ (z_CIm h ?_)
    intro y5 w4 h
    show z_Sem mL_tells (sh.length, 0) 46 [(0, z_r 0), (1, z_r a1), (2, z_i x2), (3, z_i x3)] [z_i y5, z_i x2, z_r a1] (sh, w4) Q
    obtain ⟨q7, h⟩ := h
    refine z_iast dL_tells_46 hh1 q7 ?_
    refine z_genw (fun w6 hw6 => ?_)
    replace h := h w6 hw6
    refine z_aload_n 1 dL_tells_47 rfl rfl ?_
    refine z_iload_n 2 dL_tells_48 rfl rfl ?_
    refine z_iconst dL_tells_49 (by decide) ?_
    obtain ⟨q8, h⟩ := h
    refine z_iadd dL_tells_50 q8 ?_
    refine z_aload_n 0 dL_tells_51 rfl rfl ?_
    refine z_iload_n 3 dL_tells_52 rfl rfl ?_
    refine z_iconst dL_tells_53 (by decide) ?_
    refine z_callV (As := [z_i x3, z_i 1]) (rest := [z_i (x2 + 1), z_r a1]) zmX8_event znX8_event zsX8_event (show z_Cl[8]? = some (RX8, TX8, 9) from rfl) zlRL_148 ⟨Nat.le_of_ble_eq_true rfl, Nat.le_of_ble_eq_true rfl⟩ dL_tells_54 hh0.1 rfl rfl (z_ai (z_ai z_a0)) (Nat.le_of_ble_eq_true rfl) (Nat.le_of_ble_eq_true rfl) ⟨rfl, rfl⟩ (z_CIm h ?_)
    intro y10 w9 h
    show z_Sem mL_tells (sh.length, 0) 57 [(0, z_r 0), (1, z_r a1), (2, z_i x2), (3, z_i x3)] [z_i y10, z_i (x2 + 1), z_r a1] (sh, w9) Q
    obtain ⟨q12, h⟩ := h
    refine z_iast dL_tells_57 hh1 q12 ?_
    refine z_genw (fun w11 hw11 => ?_)
    replace h := h w11 hw11
    refine z_aload_n 1 dL_tells_58 rfl rfl ?_
    refine z_iload_n 2 dL_tells_59 rfl rfl ?_
    refine z_iconst dL_tells_60 (by decide) ?_
    obtain ⟨q13, h⟩ := h
    refine z_iadd dL_tells_61 q13 ?_
    refine z_aload_n 0 dL_tells_62 rfl rfl ?_
    refine z_iload_n 3 dL_tells_63 rfl rfl ?_
    refine z_iconst dL_tells_64 (by decide) ?_
    refine z_callV (As := [z_i x3, z_i 3]) (rest := [z_i (x2 + 2), z_r a1]) zmX8_event znX8_event zsX8_event (show z_Cl[8]? = some (RX8, TX8, 9) from rfl) zlRL_148 ⟨Nat.le_of_ble_eq_true rfl, Nat.le_of_ble_eq_true rfl⟩ dL_tells_65 hh0.1 rfl rfl (z_ai (z_ai z_a0)) (Nat.le_of_ble_eq_true rfl) (Nat.le_of_ble_eq_true rfl) ⟨rfl, rfl⟩ (z_CIm h ?_)
    intro y15 w14 h
    show z_Sem mL_tells (sh.length, 0) 68 [(0, z_r 0), (1, z_r a1), (2, z_i x2), (3, z_i x3)] [z_i y15, z_i (x2 + 2), z_r a1] (sh, w14) Q
    obtain ⟨q17, h⟩ := h
    refine z_iast dL_tells_68 hh1 q17 ?_
    refine z_genw (fun w16 hw16 => ?_)
    replace h := h w16 hw16
    refine z_aload_n 1 dL_tells_69 rfl rfl ?_
    refine z_iload_n 2 dL_tells_70 rfl rfl ?_
    refine z_iconst dL_tells_71 (by decide) ?_
    obtain ⟨q18, h⟩ := h
    refine z_iadd dL_tells_72 q18 ?_
    refine z_aload_n 0 dL_tells_73 rfl rfl ?_
    refine z_iload_n 3 dL_tells_74 rfl rfl ?_
    refine z_iconst dL_tells_75 (by decide) ?_
    refine z_callV (As := [z_i x3, z_i 0]) (rest := [z_i (x2 + 3), z_r a1]) zmX8_letter znX8_letter zsX8_letter (show z_Cl[8]? = some (RX8, TX8, 9) from rfl) zlRL_151 ⟨Nat.le_of_ble_eq_true rfl, Nat.le_of_ble_eq_true rfl⟩ dL_tells_76 hh0.1 rfl rfl (z_ai (z_ai z_a0)) (Nat.le_of_ble_eq_true rfl) (Nat.le_of_ble_eq_true rfl) ⟨rfl, rfl⟩ (z_CIm h ?_)
    intro y20 w19 h
    show z_Sem mL_tells (sh.length, 0) 79 [(0, z_r 0), (1, z_r a1), (2, z_i x2), (3, z_i x3)] [z_i y20, z_i (x2 + 3), z_r a1] (sh, w19) Q
    obtain ⟨q22, h⟩ := h
    refine z_iast dL_tells_79 hh1 q22 ?_
    refine z_genw (fun w21 hw21 => ?_)
    replace h := h w21 hw21
    refine z_aload_n 1 dL_tells_80 rfl rfl ?_
    refine z_iload_n 2 dL_tells_81 rfl rfl ?_
    refine z_iconst dL_tells_82 (by decide) ?_
    obtain ⟨q23, h⟩ := h
    refine z_iadd dL_tells_83 q23 ?_
    refine z_aload_n 0 dL_tells_84 rfl rfl ?_
    refine z_iload_n 3 dL_tells_85 rfl rfl ?_
    refine z_iconst dL_tells_86 (by decide) ?_
    refine z_callV (As := [z_i x3, z_i 1]) (rest := [z_i (x2 + 4), z_r a1]) zmX8_letter znX8_letter zsX8_letter (show z_Cl[8]? = some (RX8, TX8, 9) from rfl) zlRL_151 ⟨Nat.le_of_ble_eq_true rfl, Nat.le_of_ble_eq_true rfl⟩ dL_tells_87 hh0.1 rfl rfl (z_ai (z_ai z_a0)) (Nat.le_of_ble_eq_true rfl) (Nat.le_of_ble_eq_true rfl) ⟨rfl, rfl⟩ (z_CIm h ?_)
    intro y25 w24 h
    show z_Sem mL_tells (sh.length, 0) 90 [(0, z_r 0), (1, z_r a1), (2, z_i x2), (3, z_i x3)] [z_i y25, z_i (x2 + 4), z_r a1] (sh, w24) Q
    obtain ⟨q27, h⟩ := h
    refine z_iast dL_tells_90 hh1 q27 ?_
    refine z_genw (fun w26 hw26 => ?_)
    replace h := h w26 hw26
    obtain ⟨q28, h⟩ := h
    refine z_iinc (L' := [(2, z_i (x2 + 5)), (0, z_r 0), (1, z_r a1), (3, z_i x3)]) 2 dL_tells_91 rfl (by decide) rfl q28 ?_
    obtain ⟨q29, h⟩ := h
    refine z_iinc (L' := [(3, z_i (x3 + 1)), (2, z_i (x2 + 5)), (0, z_r 0), (1, z_r a1)]) 3 dL_tells_94 rfl (by decide) rfl q29 ?_
    refine z_goto (tgt := 29) dL_tells_97 (by decide) ?_
    refine z_sub (L' := [(0, z_r 0), (1, z_r a1), (2, z_i (x2 + 5)), (3, z_i (x3 + 1))]) [2, 3, 1, 0] rfl ?_
    exact h
set_option maxRecDepth 100000 in
theorem t_L_tells_102 {sh : List z_C} {w : Nat → Int → Int} {Q : Option z_V → z_S → Prop} {a1 : Nat} {x2 : Int} {x3 : Int} (hh0 : z_isTG sh 0) (hh1 : sh[a1]? = some (.inr (.inl (0, 400)))) (h : z_CI mX8_value [z_r 0, z_i 2] sh w (fun y2 w1 => ((y2 ≤ x3 → z_Sem mL_tells (sh.length, 0) 147 [(0, z_r 0), (1, z_r a1), (2, z_i x2), (3, z_i 0)] [] (sh, w1) Q) ∧ (¬ y2 ≤ x3 → z_Sem mL_tells (sh.length, 0) 114 [(0, z_r 0), (1, z_r a1), (2, z_i x2), (3, z_i x3), (4, z_i 0)] [] (sh, w1) Q)))) : z_Sem mL_tells (sh.length, 0) 102 [(0, z_r 0), (1, z_r a1), (2, z_i x2), (3, z_i x3)] [] (sh, w) Q := by
  refine z_iload_n 3 dL_tells_102 rfl rfl ?_
  refine z_aload_n 0 dL_tells_103 rfl rfl ?_
  refine z_iconst dL_tells_104 (by decide) ?_
  refine z_callV (As := [z_i 2]) (rest := [z_i x3]) zmX8_value znX8_value zsX8_value (show z_Cl[8]? = some (RX8, TX8, 9) from rfl) zlRL_103 ⟨Nat.le_of_ble_eq_true rfl, Nat.le_of_ble_eq_true rfl⟩ dL_tells_105 hh0.1 rfl rfl (z_ai z_a0) (Nat.le_of_ble_eq_true rfl) (Nat.le_of_ble_eq_true rfl) ⟨rfl, rfl⟩ (z_CIm h ?_)
  intro y2 w1 h
  show z_Sem mL_tells (sh.length, 0) 108 [(0, z_r 0), (1, z_r a1), (2, z_i x2), (3, z_i x3)] [z_i y2, z_i x3] (sh, w1) Q
  refine z_icmp_ge (tgt := 145) dL_tells_108 (by decide) (fun c3 => ?_) (fun c3 => ?_)
  · replace h := h.1 c3
    refine z_iconst dL_tells_145 (by decide) ?_
    refine z_istore_n (L' := [(3, z_i 0), (0, z_r 0), (1, z_r a1), (2, z_i x2)]) dL_tells_146 rfl (by decide) rfl ?_
    refine z_sub (L' := [(0, z_r 0), (1, z_r a1), (2, z_i x2), (3, z_i 0)]) [1, 2, 3, 0] rfl ?_
    exact h
  · replace h := h.2 c3
    refine z_iconst dL_tells_111 (by decide) ?_
    refine z_istore (L' := [(4, z_i 0), (0, z_r 0), (1, z_r a1), (2, z_i x2), (3, z_i x3)]) dL_tells_112 (by decide) rfl ?_
    refine z_sub (L' := [(0, z_r 0), (1, z_r a1), (2, z_i x2), (3, z_i x3), (4, z_i 0)]) [1, 2, 3, 4, 0] rfl ?_
    exact h
set_option maxRecDepth 100000 in
theorem t_L_tells_147 {sh : List z_C} {w : Nat → Int → Int} {Q : Option z_V → z_S → Prop} {a1 : Nat} {x2 : Int} {x3 : Int} (hh0 : z_isTG sh 0) (hh1 : sh[a1]? = some (.inr (.inl (0, 400)))) (h : z_CI mX8_value [z_r 0, z_i 11] sh w (fun y2 w1 => ((y2 ≤ x3 → Q (some (z_i x2)) (sh, w1)) ∧ (¬ y2 ≤ x3 → z_CI mX8_log [z_r 0, z_i x3, z_i 0] sh w1 (fun y5 w4 => ((0 : Int) ≤ x2 ∧ x2 < 400) ∧ ∀ w6 : Nat → Int → Int, w6 = z_W w4 a1 x2 y5 → (z_R (x2 + 1)) ∧ z_CI mX8_log [z_r 0, z_i x3, z_i 1] sh w6 (fun y10 w9 => ((0 : Int) ≤ (x2 + 1) ∧ (x2 + 1) < 400) ∧ ∀ w11 : Nat → Int → Int, w11 = z_W w9 a1 (x2 + 1) y10 → (z_R (x2 + 2)) ∧ z_CI mX8_log [z_r 0, z_i x3, z_i 2] sh w11 (fun y15 w14 => ((0 : Int) ≤ (x2 + 2) ∧ (x2 + 2) < 400) ∧ ∀ w16 : Nat → Int → Int, w16 = z_W w14 a1 (x2 + 2) y15 → (z_R (x2 + 3)) ∧ (z_R (x3 + 1)) ∧ z_Sem mL_tells (sh.length, 0) 147 [(0, z_r 0), (1, z_r a1), (2, z_i (x2 + 3)), (3, z_i (x3 + 1))] [] (sh, w16) Q))))))) : z_Sem mL_tells (sh.length, 0) 147 [(0, z_r 0), (1, z_r a1), (2, z_i x2), (3, z_i x3)] [] (sh, w) Q := by
  refine z_iload_n 3 dL_tells_147 rfl rfl ?_
  refine z_aload_n 0 dL_tells_148 rfl rfl ?_
  refine z_bipush dL_tells_149 (by decide) (by decide) ?_
  refine z_callV (As := [z_i 11]) (rest := [z_i x3]) zmX8_value znX8_value zsX8_value (show z_Cl[8]? = some (RX8, TX8, 9) from rfl) zlRL_103 ⟨Nat.le_of_ble_eq_true rfl, Nat.le_of_ble_eq_true rfl⟩ dL_tells_151 hh0.1 rfl rfl (z_ai z_a0) (Nat.le_of_ble_eq_true rfl) (Nat.le_of_ble_eq_true rfl) ⟨rfl, rfl⟩ (z_CIm h ?_)
  intro y2 w1 h
  show z_Sem mL_tells (sh.length, 0) 154 [(0, z_r 0), (1, z_r a1), (2, z_i x2), (3, z_i x3)] [z_i y2, z_i x3] (sh, w1) Q
  refine z_icmp_ge (tgt := 197) dL_tells_154 (by decide) (fun c3 => ?_) (fun c3 => ?_)
  · replace h := h.1 c3
    refine z_iload_n 2 dL_tells_197 rfl rfl ?_
    exact z_ret (v := some (z_i x2)) dL_tells_198 ⟨rfl, Or.inl rfl⟩ rfl h
  · replace h := h.2 c3
    refine z_aload_n 1 dL_tells_157 rfl rfl ?_
    refine z_iload_n 2 dL_tells_158 rfl rfl ?_
    refine z_aload_n 0 dL_tells_159 rfl rfl ?_
    refine z_iload_n 3 dL_tells_160 rfl rfl ?_
    refine z_iconst dL_tells_161 (by decide) ?_
    refine z_callV (As := [z_i x3, z_i 0]) (rest := [z_i x2, z_r a1]) zmX8_log znX8_log zsX8_log (show z_Cl[8]? = some (RX8, TX8, 9) from rfl) zlRL_157 ⟨Nat.le_of_ble_eq_true rfl, Nat.le_of_ble_eq_true rfl⟩ dL_tells_162 hh0.1 rfl rfl (z_ai (z_ai z_a0)) (Nat.le_of_ble_eq_true rfl) (Nat.le_of_ble_eq_true rfl) ⟨rfl, rfl⟩ (z_CIm h ?_)
    intro y5 w4 h
    show z_Sem mL_tells (sh.length, 0) 165 [(0, z_r 0), (1, z_r a1), (2, z_i x2), (3, z_i x3)] [z_i y5, z_i x2, z_r a1] (sh, w4) Q
    obtain ⟨q7, h⟩ := h
    refine z_iast dL_tells_165 hh1 q7 ?_
    refine z_genw (fun w6 hw6 => ?_)
    replace h := h w6 hw6
    refine z_aload_n 1 dL_tells_166 rfl rfl ?_
    refine z_iload_n 2 dL_tells_167 rfl rfl ?_
    refine z_iconst dL_tells_168 (by decide) ?_
    obtain ⟨q8, h⟩ := h
    refine z_iadd dL_tells_169 q8 ?_
    refine z_aload_n 0 dL_tells_170 rfl rfl ?_
    refine z_iload_n 3 dL_tells_171 rfl rfl ?_
    refine z_iconst dL_tells_172 (by decide) ?_
    refine z_callV (As := [z_i x3, z_i 1]) (rest := [z_i (x2 + 1), z_r a1]) zmX8_log znX8_log zsX8_log (show z_Cl[8]? = some (RX8, TX8, 9) from rfl) zlRL_157 ⟨Nat.le_of_ble_eq_true rfl, Nat.le_of_ble_eq_true rfl⟩ dL_tells_173 hh0.1 rfl rfl (z_ai (z_ai z_a0)) (Nat.le_of_ble_eq_true rfl) (Nat.le_of_ble_eq_true rfl) ⟨rfl, rfl⟩ (z_CIm h ?_)
    intro y10 w9 h
    show z_Sem mL_tells (sh.length, 0) 176 [(0, z_r 0), (1, z_r a1), (2, z_i x2), (3, z_i x3)] [z_i y10, z_i (x2 + 1), z_r a1] (sh, w9) Q
    obtain ⟨q12, h⟩ := h
    refine z_iast dL_tells_176 hh1 q12 ?_
    refine z_genw (fun w11 hw11 => ?_)
    replace h := h w11 hw11
    refine z_aload_n 1 dL_tells_177 rfl rfl ?_
    refine z_iload_n 2 dL_tells_178 rfl rfl ?_
    refine z_iconst dL_tells_179 (by decide) ?_
    obtain ⟨q13, h⟩ := h
    refine z_iadd dL_tells_180 q13 ?_
    refine z_aload_n 0 dL_tells_181 rfl rfl ?_
    refine z_iload_n 3 dL_tells_182 rfl rfl ?_
    refine z_iconst dL_tells_183 (by decide) ?_
    refine z_callV (As := [z_i x3, z_i 2]) (rest := [z_i (x2 + 2), z_r a1]) zmX8_log znX8_log zsX8_log (show z_Cl[8]? = some (RX8, TX8, 9) from rfl) zlRL_157 ⟨Nat.le_of_ble_eq_true rfl, Nat.le_of_ble_eq_true rfl⟩ dL_tells_184 hh0.1 rfl rfl (z_ai (z_ai z_a0)) (Nat.le_of_ble_eq_true rfl) (Nat.le_of_ble_eq_true rfl) ⟨rfl, rfl⟩ (z_CIm h ?_)
    intro y15 w14 h
    show z_Sem mL_tells (sh.length, 0) 187 [(0, z_r 0), (1, z_r a1), (2, z_i x2), (3, z_i x3)] [z_i y15, z_i (x2 + 2), z_r a1] (sh, w14) Q
    obtain ⟨q17, h⟩ := h
    refine z_iast dL_tells_187 hh1 q17 ?_
    refine z_genw (fun w16 hw16 => ?_)
    replace h := h w16 hw16
    obtain ⟨q18, h⟩ := h
    refine z_iinc (L' := [(2, z_i (x2 + 3)), (0, z_r 0), (1, z_r a1), (3, z_i x3)]) 2 dL_tells_188 rfl (by decide) rfl q18 ?_
    obtain ⟨q19, h⟩ := h
    refine z_iinc (L' := [(3, z_i (x3 + 1)), (2, z_i (x2 + 3)), (0, z_r 0), (1, z_r a1)]) 3 dL_tells_191 rfl (by decide) rfl q19 ?_
    refine z_goto (tgt := 147) dL_tells_194 (by decide) ?_
    refine z_sub (L' := [(0, z_r 0), (1, z_r a1), (2, z_i (x2 + 3)), (3, z_i (x3 + 1))]) [2, 3, 1, 0] rfl ?_
    exact h
set_option maxRecDepth 100000 in
theorem t_L_tells_114 {sh : List z_C} {w : Nat → Int → Int} {Q : Option z_V → z_S → Prop} {a1 : Nat} {x2 : Int} {x3 : Int} {x4 : Int} (hh0 : z_isTG sh 0) (hh1 : sh[a1]? = some (.inr (.inl (0, 400)))) (h : ((5 ≤ x4 → (z_R (x3 + 1)) ∧ z_Sem mL_tells (sh.length, 0) 102 [(0, z_r 0), (1, z_r a1), (2, z_i x2), (3, z_i (x3 + 1))] [] (sh, w) Q) ∧ (¬ 5 ≤ x4 → z_CI mX8_gap [z_r 0, z_i x3, z_i x4] sh w (fun y4 w3 => ((0 : Int) ≤ x2 ∧ x2 < 400) ∧ ∀ w5 : Nat → Int → Int, w5 = z_W w3 a1 x2 y4 → (z_R (x2 + 1)) ∧ (z_R (x4 + 1)) ∧ z_Sem mL_tells (sh.length, 0) 114 [(0, z_r 0), (1, z_r a1), (2, z_i (x2 + 1)), (3, z_i x3), (4, z_i (x4 + 1))] [] (sh, w5) Q)))) : z_Sem mL_tells (sh.length, 0) 114 [(0, z_r 0), (1, z_r a1), (2, z_i x2), (3, z_i x3), (4, z_i x4)] [] (sh, w) Q := by
  refine z_iload 4 dL_tells_114 rfl ?_
  refine z_iconst dL_tells_116 (by decide) ?_
  refine z_icmp_ge (tgt := 139) dL_tells_117 (by decide) (fun c1 => ?_) (fun c1 => ?_)
  · replace h := h.1 c1
    obtain ⟨q2, h⟩ := h
    refine z_iinc (L' := [(3, z_i (x3 + 1)), (0, z_r 0), (1, z_r a1), (2, z_i x2), (4, z_i x4)]) 3 dL_tells_139 rfl (by decide) rfl q2 ?_
    refine z_goto (tgt := 102) dL_tells_142 (by decide) ?_
    refine z_sub (L' := [(0, z_r 0), (1, z_r a1), (2, z_i x2), (3, z_i (x3 + 1))]) [1, 2, 3, 0] rfl ?_
    exact h
  · replace h := h.2 c1
    refine z_aload_n 1 dL_tells_120 rfl rfl ?_
    refine z_iload_n 2 dL_tells_121 rfl rfl ?_
    refine z_aload_n 0 dL_tells_122 rfl rfl ?_
    refine z_iload_n 3 dL_tells_123 rfl rfl ?_
    refine z_iload 4 dL_tells_124 rfl ?_
    refine z_callV (As := [z_i x3, z_i x4]) (rest := [z_i x2, z_r a1]) zmX8_gap znX8_gap zsX8_gap (show z_Cl[8]? = some (RX8, TX8, 9) from rfl) zlRL_154 ⟨Nat.le_of_ble_eq_true rfl, Nat.le_of_ble_eq_true rfl⟩ dL_tells_126 hh0.1 rfl rfl (z_ai (z_ai z_a0)) (Nat.le_of_ble_eq_true rfl) (Nat.le_of_ble_eq_true rfl) ⟨rfl, rfl⟩ (z_CIm h ?_)
    intro y4 w3 h
    show z_Sem mL_tells (sh.length, 0) 129 [(0, z_r 0), (1, z_r a1), (2, z_i x2), (3, z_i x3), (4, z_i x4)] [z_i y4, z_i x2, z_r a1] (sh, w3) Q
    obtain ⟨q6, h⟩ := h
    refine z_iast dL_tells_129 hh1 q6 ?_
    refine z_genw (fun w5 hw5 => ?_)
    replace h := h w5 hw5
    obtain ⟨q7, h⟩ := h
    refine z_iinc (L' := [(2, z_i (x2 + 1)), (0, z_r 0), (1, z_r a1), (3, z_i x3), (4, z_i x4)]) 2 dL_tells_130 rfl (by decide) rfl q7 ?_
    obtain ⟨q8, h⟩ := h
    refine z_iinc (L' := [(4, z_i (x4 + 1)), (2, z_i (x2 + 1)), (0, z_r 0), (1, z_r a1), (3, z_i x3)]) 4 dL_tells_133 rfl (by decide) rfl q8 ?_
    refine z_goto (tgt := 114) dL_tells_136 (by decide) ?_
    refine z_sub (L' := [(0, z_r 0), (1, z_r a1), (2, z_i (x2 + 1)), (3, z_i x3), (4, z_i (x4 + 1))]) [2, 3, 1, 4, 0] rfl ?_
    exact h
set_option maxRecDepth 100000 in
theorem t_L_isAs {sh : List z_C} {w : Nat → Int → Int} {Q : Option z_V → z_S → Prop} {a1 : Nat} {x2 : Int} {a3 : Nat} (hh0 : z_isTG sh 0) (hh1 : sh[a1]? = some (.inr (.inl (0, 400)))) (hh3 : sh[a3]? = some (.inr (.inl (0, 400)))) (h : z_CI mL_tells [z_r 0, z_r a3] sh w (fun y2 w1 => (y2 = x2) ∧ z_Sem mL_isAs (sh.length, 0) 19 [(1, z_r a1), (2, z_i x2), (3, z_r a3), (4, z_i 1), (5, z_i 0)] [] (sh, w1) Q)) : z_Sem mL_isAs (sh.length, 0) 0 [(0, z_r 0), (1, z_r a1), (2, z_i x2), (3, z_r a3)] [] (sh, w) Q := by
  refine z_aload_n 0 dL_isAs_0 rfl rfl ?_
  refine z_aload_n 3 dL_isAs_1 rfl rfl ?_
  refine z_callS (As := [z_r 0, z_r a3]) (rest := []) zmL_tells ztL_tells zlRL_160 ⟨Nat.le_of_ble_eq_true rfl, Nat.le_of_ble_eq_true rfl⟩ dL_isAs_2 rfl rfl (z_ar (z_ar z_a0)) (Nat.le_of_ble_eq_true rfl) (Nat.le_of_ble_eq_true rfl) ⟨rfl, rfl⟩ (z_CIm h ?_)
  intro y2 w1 h
  show z_Sem mL_isAs (sh.length, 0) 5 [(0, z_r 0), (1, z_r a1), (2, z_i x2), (3, z_r a3)] [z_i y2] (sh, w1) Q
  refine z_iload_n 2 dL_isAs_5 rfl rfl ?_
  obtain ⟨q3, h⟩ := h
  refine z_icmp_ne (tgt := 13) dL_isAs_6 (by decide) (fun c => absurd q3 c) (fun _ => ?_)
  refine z_iconst dL_isAs_9 (by decide) ?_
  refine z_goto (tgt := 14) dL_isAs_10 (by decide) ?_
  refine z_istore (L' := [(4, z_i 1), (0, z_r 0), (1, z_r a1), (2, z_i x2), (3, z_r a3)]) dL_isAs_14 (by decide) rfl ?_
  refine z_iconst dL_isAs_16 (by decide) ?_
  refine z_istore (L' := [(5, z_i 0), (4, z_i 1), (0, z_r 0), (1, z_r a1), (2, z_i x2), (3, z_r a3)]) dL_isAs_17 (by decide) rfl ?_
  refine z_sub (L' := [(1, z_r a1), (2, z_i x2), (3, z_r a3), (4, z_i 1), (5, z_i 0)]) [3, 4, 5, 1, 0] rfl ?_
  exact h
set_option maxRecDepth 100000 in
theorem t_L_isAs_19 {sh : List z_C} {w : Nat → Int → Int} {Q : Option z_V → z_S → Prop} {a1 : Nat} {a3 : Nat} {x2 : Int} {x5 : Int} (hh0 : z_isTG sh 0) (hh1 : sh[a1]? = some (.inr (.inl (0, 400)))) (hh3 : sh[a3]? = some (.inr (.inl (0, 400)))) (h : ((x2 ≤ x5 → Q (some (z_i 1)) (sh, w)) ∧ (¬ x2 ≤ x5 → ((0 : Int) ≤ x5 ∧ x5 < 400) ∧ ((0 : Int) ≤ x5 ∧ x5 < 400) ∧ ((w a3 x5) = (w a1 x5)) ∧ (z_R (x5 + 1)) ∧ z_Sem mL_isAs (sh.length, 0) 19 [(1, z_r a1), (2, z_i x2), (3, z_r a3), (4, z_i 1), (5, z_i (x5 + 1))] [] (sh, w) Q))) : z_Sem mL_isAs (sh.length, 0) 19 [(1, z_r a1), (2, z_i x2), (3, z_r a3), (4, z_i 1), (5, z_i x5)] [] (sh, w) Q := by
  refine z_iload 4 dL_isAs_19 rfl ?_
  refine z_iload_n 1 dL_isAs_21 rfl rfl ?_
  refine z_icmp_ge (tgt := 54) dL_isAs_22 (by decide) (fun c1 => ?_) (fun c1 => ?_)
  · replace h := h.1 c1
    refine z_iload 3 dL_isAs_54 rfl ?_
    exact z_ret (v := some (z_i 1)) dL_isAs_56 ⟨rfl, Or.inr (Or.inl ⟨rfl, (by decide)⟩)⟩ rfl h
  · replace h := h.2 c1
    refine z_iload 3 dL_isAs_25 rfl ?_
    refine z_if_eq (tgt := 54) dL_isAs_27 (by decide) (fun c => absurd c (by decide)) (fun _ => ?_)
    refine z_aload_n 2 dL_isAs_30 rfl rfl ?_
    refine z_iload 4 dL_isAs_31 rfl ?_
    obtain ⟨q2, h⟩ := h
    refine z_iald dL_isAs_33 hh3 q2 ?_
    refine z_aload_n 0 dL_isAs_34 rfl rfl ?_
    refine z_iload 4 dL_isAs_35 rfl ?_
    obtain ⟨q3, h⟩ := h
    refine z_iald dL_isAs_37 hh1 q3 ?_
    obtain ⟨q4, h⟩ := h
    refine z_icmp_ne (tgt := 45) dL_isAs_38 (by decide) (fun c => absurd q4 c) (fun _ => ?_)
    refine z_iconst dL_isAs_41 (by decide) ?_
    refine z_goto (tgt := 46) dL_isAs_42 (by decide) ?_
    refine z_istore (L' := [(4, z_i 1), (1, z_r a1), (2, z_i x2), (3, z_r a3), (5, z_i x5)]) dL_isAs_46 (by decide) rfl ?_
    obtain ⟨q5, h⟩ := h
    refine z_iinc (L' := [(5, z_i (x5 + 1)), (4, z_i 1), (1, z_r a1), (2, z_i x2), (3, z_r a3)]) 4 dL_isAs_48 rfl (by decide) rfl q5 ?_
    refine z_goto (tgt := 19) dL_isAs_51 (by decide) ?_
    refine z_sub (L' := [(1, z_r a1), (2, z_i x2), (3, z_r a3), (4, z_i 1), (5, z_i (x5 + 1))]) [2, 3, 4, 1, 0] rfl ?_
    exact h
set_option maxRecDepth 100000 in
theorem t_L_bear {sh : List z_C} {w : Nat → Int → Int} {Q : Option z_V → z_S → Prop} {x1 : Int} (hh0 : z_isTG sh 0) (h : z_Sem mL_bear (sh.length, 0) 4 [(0, z_r 0), (1, z_i x1), (2, z_i 1), (3, z_i 0)] [] (sh, w) Q) : z_Sem mL_bear (sh.length, 0) 0 [(0, z_r 0), (1, z_i x1)] [] (sh, w) Q := by
  refine z_iconst dL_bear_0 (by decide) ?_
  refine z_istore_n (L' := [(2, z_i 1), (0, z_r 0), (1, z_i x1)]) dL_bear_1 rfl (by decide) rfl ?_
  refine z_iconst dL_bear_2 (by decide) ?_
  refine z_istore_n (L' := [(3, z_i 0), (2, z_i 1), (0, z_r 0), (1, z_i x1)]) dL_bear_3 rfl (by decide) rfl ?_
  refine z_sub (L' := [(0, z_r 0), (1, z_i x1), (2, z_i 1), (3, z_i 0)]) [2, 3, 1, 0] rfl ?_
  exact h
set_option maxRecDepth 100000 in
theorem t_L_bear_4 {sh : List z_C} {w : Nat → Int → Int} {Q : Option z_V → z_S → Prop} {x1 : Int} {x3 : Int} (hh0 : z_isTG sh 0) (h : z_CI mX8_value [z_r 0, z_i 2] sh w (fun y2 w1 => ((y2 ≤ x3 → z_Sem mL_bear (sh.length, 0) 99 [(0, z_r 0), (1, z_i x1), (2, z_i 1), (3, z_i 0)] [] (sh, w1) Q) ∧ (¬ y2 ≤ x3 → z_CI mX8_gap [z_r 0, z_i x3, z_i 1] sh w1 (fun y5 w4 => z_CI mL_time [z_r 0, z_i y5, z_i x1] sh w4 (fun y7 w6 => z_CI mX8_gap [z_r 0, z_i x3, z_i 0] sh w6 (fun y9 w8 => z_CI mL_time [z_r 0, z_i y9, z_i x1] sh w8 (fun y11 w10 => (z_R (y7 - y11)) ∧ z_CI mX8_gap [z_r 0, z_i x3, z_i 4] sh w10 (fun y14 w13 => ((y14 = 0 → z_Sem mL_bear (sh.length, 0) 85 [(0, z_r 0), (1, z_i x1), (3, z_i x3)] [] (sh, w13) Q) ∧ (¬ y14 = 0 → z_CI mX8_gap [z_r 0, z_i x3, z_i 2] sh w13 (fun y17 w16 => ((y17 = 0 → z_CI mX8_gap [z_r 0, z_i x3, z_i 3] sh w16 (fun y23 w22 => (¬ y23 < (y7 - y11)) ∧ z_Sem mL_bear (sh.length, 0) 85 [(0, z_r 0), (1, z_i x1), (3, z_i x3)] [] (sh, w22) Q)) ∧ (¬ y17 = 0 → z_CI mX8_gap [z_r 0, z_i x3, z_i 3] sh w16 (fun y20 w19 => (¬ (y7 - y11) < y20) ∧ z_Sem mL_bear (sh.length, 0) 85 [(0, z_r 0), (1, z_i x1), (3, z_i x3)] [] (sh, w19) Q))))))))))))))) : z_Sem mL_bear (sh.length, 0) 4 [(0, z_r 0), (1, z_i x1), (2, z_i 1), (3, z_i x3)] [] (sh, w) Q := by
  refine z_iload_n 3 dL_bear_4 rfl rfl ?_
  refine z_aload_n 0 dL_bear_5 rfl rfl ?_
  refine z_iconst dL_bear_6 (by decide) ?_
  refine z_callV (As := [z_i 2]) (rest := [z_i x3]) zmX8_value znX8_value zsX8_value (show z_Cl[8]? = some (RX8, TX8, 9) from rfl) zlRL_103 ⟨Nat.le_of_ble_eq_true rfl, Nat.le_of_ble_eq_true rfl⟩ dL_bear_7 hh0.1 rfl rfl (z_ai z_a0) (Nat.le_of_ble_eq_true rfl) (Nat.le_of_ble_eq_true rfl) ⟨rfl, rfl⟩ (z_CIm h ?_)
  intro y2 w1 h
  show z_Sem mL_bear (sh.length, 0) 10 [(0, z_r 0), (1, z_i x1), (2, z_i 1), (3, z_i x3)] [z_i y2, z_i x3] (sh, w1) Q
  refine z_icmp_ge (tgt := 97) dL_bear_10 (by decide) (fun c3 => ?_) (fun c3 => ?_)
  · replace h := h.1 c3
    refine z_iconst dL_bear_97 (by decide) ?_
    refine z_istore_n (L' := [(3, z_i 0), (0, z_r 0), (1, z_i x1), (2, z_i 1)]) dL_bear_98 rfl (by decide) rfl ?_
    refine z_sub (L' := [(0, z_r 0), (1, z_i x1), (2, z_i 1), (3, z_i 0)]) [1, 2, 3, 0] rfl ?_
    exact h
  · replace h := h.2 c3
    refine z_iload_n 2 dL_bear_13 rfl rfl ?_
    refine z_if_eq (tgt := 97) dL_bear_14 (by decide) (fun c => absurd c (by decide)) (fun _ => ?_)
    refine z_aload_n 0 dL_bear_17 rfl rfl ?_
    refine z_aload_n 0 dL_bear_18 rfl rfl ?_
    refine z_iload_n 3 dL_bear_19 rfl rfl ?_
    refine z_iconst dL_bear_20 (by decide) ?_
    refine z_callV (As := [z_i x3, z_i 1]) (rest := [z_r 0]) zmX8_gap znX8_gap zsX8_gap (show z_Cl[8]? = some (RX8, TX8, 9) from rfl) zlRL_154 ⟨Nat.le_of_ble_eq_true rfl, Nat.le_of_ble_eq_true rfl⟩ dL_bear_21 hh0.1 rfl rfl (z_ai (z_ai z_a0)) (Nat.le_of_ble_eq_true rfl) (Nat.le_of_ble_eq_true rfl) ⟨rfl, rfl⟩ (z_CIm h ?_)
    intro y5 w4 h
    show z_Sem mL_bear (sh.length, 0) 24 [(0, z_r 0), (1, z_i x1), (2, z_i 1), (3, z_i x3)] [z_i y5, z_r 0] (sh, w4) Q
    refine z_iload_n 1 dL_bear_24 rfl rfl ?_
    refine z_callS (As := [z_r 0, z_i y5, z_i x1]) (rest := []) zmL_time ztL_time zlRL_164 ⟨Nat.le_of_ble_eq_true rfl, Nat.le_of_ble_eq_true rfl⟩ dL_bear_25 rfl rfl (z_ar (z_ai (z_ai z_a0))) (Nat.le_of_ble_eq_true rfl) (Nat.le_of_ble_eq_true rfl) ⟨rfl, rfl⟩ (z_CIm h ?_)
    intro y7 w6 h
    show z_Sem mL_bear (sh.length, 0) 28 [(0, z_r 0), (1, z_i x1), (2, z_i 1), (3, z_i x3)] [z_i y7] (sh, w6) Q
    refine z_aload_n 0 dL_bear_28 rfl rfl ?_
    refine z_aload_n 0 dL_bear_29 rfl rfl ?_
    refine z_iload_n 3 dL_bear_30 rfl rfl ?_
    refine z_iconst dL_bear_31 (by decide) ?_
    refine z_callV (As := [z_i x3, z_i 0]) (rest := [z_r 0, z_i y7]) zmX8_gap znX8_gap zsX8_gap (show z_Cl[8]? = some (RX8, TX8, 9) from rfl) zlRL_154 ⟨Nat.le_of_ble_eq_true rfl, Nat.le_of_ble_eq_true rfl⟩ dL_bear_32 hh0.1 rfl rfl (z_ai (z_ai z_a0)) (Nat.le_of_ble_eq_true rfl) (Nat.le_of_ble_eq_true rfl) ⟨rfl, rfl⟩ (z_CIm h ?_)
    intro y9 w8 h
    show z_Sem mL_bear (sh.length, 0) 35 [(0, z_r 0), (1, z_i x1), (2, z_i 1), (3, z_i x3)] [z_i y9, z_r 0, z_i y7] (sh, w8) Q
    refine z_iload_n 1 dL_bear_35 rfl rfl ?_
    refine z_callS (As := [z_r 0, z_i y9, z_i x1]) (rest := [z_i y7]) zmL_time ztL_time zlRL_164 ⟨Nat.le_of_ble_eq_true rfl, Nat.le_of_ble_eq_true rfl⟩ dL_bear_36 rfl rfl (z_ar (z_ai (z_ai z_a0))) (Nat.le_of_ble_eq_true rfl) (Nat.le_of_ble_eq_true rfl) ⟨rfl, rfl⟩ (z_CIm h ?_)
    intro y11 w10 h
    show z_Sem mL_bear (sh.length, 0) 39 [(0, z_r 0), (1, z_i x1), (2, z_i 1), (3, z_i x3)] [z_i y11, z_i y7] (sh, w10) Q
    obtain ⟨q12, h⟩ := h
    refine z_isub dL_bear_39 q12 ?_
    refine z_istore (L' := [(4, z_i (y7 - y11)), (0, z_r 0), (1, z_i x1), (2, z_i 1), (3, z_i x3)]) dL_bear_40 (by decide) rfl ?_
    refine z_aload_n 1 dL_bear_42 rfl rfl ?_
    refine z_iload_n 4 dL_bear_43 rfl rfl ?_
    refine z_iconst dL_bear_44 (by decide) ?_
    refine z_callV (As := [z_i x3, z_i 4]) (rest := []) zmX8_gap znX8_gap zsX8_gap (show z_Cl[8]? = some (RX8, TX8, 9) from rfl) zlRL_154 ⟨Nat.le_of_ble_eq_true rfl, Nat.le_of_ble_eq_true rfl⟩ dL_bear_45 hh0.1 rfl rfl (z_ai (z_ai z_a0)) (Nat.le_of_ble_eq_true rfl) (Nat.le_of_ble_eq_true rfl) ⟨rfl, rfl⟩ (z_CIm h ?_)
    intro y14 w13 h
    show z_Sem mL_bear (sh.length, 0) 48 [(4, z_i (y7 - y11)), (0, z_r 0), (1, z_i x1), (2, z_i 1), (3, z_i x3)] [z_i y14] (sh, w13) Q
    refine z_if_eq (tgt := 85) dL_bear_48 (by decide) (fun c15 => ?_) (fun c15 => ?_)
    · replace h := h.1 c15
      refine z_sub (L' := [(0, z_r 0), (1, z_i x1), (3, z_i x3)]) [1, 2, 4] rfl ?_
      exact h
    · replace h := h.2 c15
      refine z_aload_n 1 dL_bear_51 rfl rfl ?_
      refine z_iload_n 4 dL_bear_52 rfl rfl ?_
      refine z_iconst dL_bear_53 (by decide) ?_
      refine z_callV (As := [z_i x3, z_i 2]) (rest := []) zmX8_gap znX8_gap zsX8_gap (show z_Cl[8]? = some (RX8, TX8, 9) from rfl) zlRL_154 ⟨Nat.le_of_ble_eq_true rfl, Nat.le_of_ble_eq_true rfl⟩ dL_bear_54 hh0.1 rfl rfl (z_ai (z_ai z_a0)) (Nat.le_of_ble_eq_true rfl) (Nat.le_of_ble_eq_true rfl) ⟨rfl, rfl⟩ (z_CIm h ?_)
      intro y17 w16 h
      show z_Sem mL_bear (sh.length, 0) 57 [(4, z_i (y7 - y11)), (0, z_r 0), (1, z_i x1), (2, z_i 1), (3, z_i x3)] [z_i y17] (sh, w16) Q
      refine z_if_ne (tgt := 74) dL_bear_57 (by decide) (fun c18 => ?_) (fun c18 => ?_)
      · replace h := h.2 c18
        refine z_iload 0 dL_bear_74 rfl ?_
        refine z_aload_n 1 dL_bear_76 rfl rfl ?_
        refine z_iload_n 4 dL_bear_77 rfl rfl ?_
        refine z_iconst dL_bear_78 (by decide) ?_
        refine z_callV (As := [z_i x3, z_i 3]) (rest := [z_i (y7 - y11)]) zmX8_gap znX8_gap zsX8_gap (show z_Cl[8]? = some (RX8, TX8, 9) from rfl) zlRL_154 ⟨Nat.le_of_ble_eq_true rfl, Nat.le_of_ble_eq_true rfl⟩ dL_bear_79 hh0.1 rfl rfl (z_ai (z_ai z_a0)) (Nat.le_of_ble_eq_true rfl) (Nat.le_of_ble_eq_true rfl) ⟨rfl, rfl⟩ (z_CIm h ?_)
        intro y20 w19 h
        show z_Sem mL_bear (sh.length, 0) 82 [(4, z_i (y7 - y11)), (0, z_r 0), (1, z_i x1), (2, z_i 1), (3, z_i x3)] [z_i y20, z_i (y7 - y11)] (sh, w19) Q
        obtain ⟨q21, h⟩ := h
        refine z_icmp_lt (tgt := 89) dL_bear_82 (by decide) (fun c => absurd c q21) (fun _ => ?_)
        refine z_sub (L' := [(0, z_r 0), (1, z_i x1), (3, z_i x3)]) [1, 2, 4] rfl ?_
        exact h
      · replace h := h.1 c18
        refine z_iload 0 dL_bear_60 rfl ?_
        refine z_aload_n 1 dL_bear_62 rfl rfl ?_
        refine z_iload_n 4 dL_bear_63 rfl rfl ?_
        refine z_iconst dL_bear_64 (by decide) ?_
        refine z_callV (As := [z_i x3, z_i 3]) (rest := [z_i (y7 - y11)]) zmX8_gap znX8_gap zsX8_gap (show z_Cl[8]? = some (RX8, TX8, 9) from rfl) zlRL_154 ⟨Nat.le_of_ble_eq_true rfl, Nat.le_of_ble_eq_true rfl⟩ dL_bear_65 hh0.1 rfl rfl (z_ai (z_ai z_a0)) (Nat.le_of_ble_eq_true rfl) (Nat.le_of_ble_eq_true rfl) ⟨rfl, rfl⟩ (z_CIm h ?_)
        intro y23 w22 h
        show z_Sem mL_bear (sh.length, 0) 68 [(4, z_i (y7 - y11)), (0, z_r 0), (1, z_i x1), (2, z_i 1), (3, z_i x3)] [z_i y23, z_i (y7 - y11)] (sh, w22) Q
        obtain ⟨q24, h⟩ := h
        refine z_icmp_gt (tgt := 89) dL_bear_68 (by decide) (fun c => absurd c q24) (fun _ => ?_)
        refine z_goto (tgt := 85) dL_bear_71 (by decide) ?_
        refine z_sub (L' := [(0, z_r 0), (1, z_i x1), (3, z_i x3)]) [1, 2, 4] rfl ?_
        exact h
set_option maxRecDepth 100000 in
theorem t_L_bear_99 {sh : List z_C} {w : Nat → Int → Int} {Q : Option z_V → z_S → Prop} {x1 : Int} {x3 : Int} (hh0 : z_isTG sh 0) (h : z_CI mX8_value [z_r 0, z_i 1] sh w (fun y2 w1 => ((y2 ≤ x3 → Q (some (z_i 1)) (sh, w1)) ∧ (¬ y2 ≤ x3 → z_CI mL_time [z_r 0, z_i x3, z_i x1] sh w1 (fun y5 w4 => z_CI mX8_event [z_r 0, z_i x3, z_i 3] sh w4 (fun y7 w6 => (¬ y5 < 0) ∧ z_CI mX8_value [z_r 0, z_i 0] sh w6 (fun y10 w9 => (¬ y10 < y5) ∧ (¬ y7 < 0 → (y5 = y7) ∧ True) ∧ z_CI mX8_can [z_r 0, z_i x3, z_i y5] sh w9 (fun y19 w18 => (y19 = 1) ∧ (¬ 0 < x3 → (y5 = 0) ∧ True) ∧ (z_R (x3 + 1)) ∧ z_Sem mL_bear (sh.length, 0) 99 [(0, z_r 0), (1, z_i x1), (2, z_i 1), (3, z_i (x3 + 1))] [] (sh, w18) Q)))))))) : z_Sem mL_bear (sh.length, 0) 99 [(0, z_r 0), (1, z_i x1), (2, z_i 1), (3, z_i x3)] [] (sh, w) Q := by
  refine z_iload_n 3 dL_bear_99 rfl rfl ?_
  refine z_aload_n 0 dL_bear_100 rfl rfl ?_
  refine z_iconst dL_bear_101 (by decide) ?_
  refine z_callV (As := [z_i 1]) (rest := [z_i x3]) zmX8_value znX8_value zsX8_value (show z_Cl[8]? = some (RX8, TX8, 9) from rfl) zlRL_103 ⟨Nat.le_of_ble_eq_true rfl, Nat.le_of_ble_eq_true rfl⟩ dL_bear_102 hh0.1 rfl rfl (z_ai z_a0) (Nat.le_of_ble_eq_true rfl) (Nat.le_of_ble_eq_true rfl) ⟨rfl, rfl⟩ (z_CIm h ?_)
  intro y2 w1 h
  show z_Sem mL_bear (sh.length, 0) 105 [(0, z_r 0), (1, z_i x1), (2, z_i 1), (3, z_i x3)] [z_i y2, z_i x3] (sh, w1) Q
  refine z_icmp_ge (tgt := 187) dL_bear_105 (by decide) (fun c3 => ?_) (fun c3 => ?_)
  · replace h := h.1 c3
    refine z_iload_n 2 dL_bear_187 rfl rfl ?_
    exact z_ret (v := some (z_i 1)) dL_bear_188 ⟨rfl, Or.inr (Or.inl ⟨rfl, (by decide)⟩)⟩ rfl h
  · replace h := h.2 c3
    refine z_iload_n 2 dL_bear_108 rfl rfl ?_
    refine z_if_eq (tgt := 187) dL_bear_109 (by decide) (fun c => absurd c (by decide)) (fun _ => ?_)
    refine z_aload_n 0 dL_bear_112 rfl rfl ?_
    refine z_iload_n 3 dL_bear_113 rfl rfl ?_
    refine z_iload_n 1 dL_bear_114 rfl rfl ?_
    refine z_callS (As := [z_r 0, z_i x3, z_i x1]) (rest := []) zmL_time ztL_time zlRL_164 ⟨Nat.le_of_ble_eq_true rfl, Nat.le_of_ble_eq_true rfl⟩ dL_bear_115 rfl rfl (z_ar (z_ai (z_ai z_a0))) (Nat.le_of_ble_eq_true rfl) (Nat.le_of_ble_eq_true rfl) ⟨rfl, rfl⟩ (z_CIm h ?_)
    intro y5 w4 h
    show z_Sem mL_bear (sh.length, 0) 118 [(0, z_r 0), (1, z_i x1), (2, z_i 1), (3, z_i x3)] [z_i y5] (sh, w4) Q
    refine z_istore (L' := [(4, z_i y5), (0, z_r 0), (1, z_i x1), (2, z_i 1), (3, z_i x3)]) dL_bear_118 (by decide) rfl ?_
    refine z_aload_n 1 dL_bear_120 rfl rfl ?_
    refine z_iload_n 4 dL_bear_121 rfl rfl ?_
    refine z_iconst dL_bear_122 (by decide) ?_
    refine z_callV (As := [z_i x3, z_i 3]) (rest := []) zmX8_event znX8_event zsX8_event (show z_Cl[8]? = some (RX8, TX8, 9) from rfl) zlRL_148 ⟨Nat.le_of_ble_eq_true rfl, Nat.le_of_ble_eq_true rfl⟩ dL_bear_123 hh0.1 rfl rfl (z_ai (z_ai z_a0)) (Nat.le_of_ble_eq_true rfl) (Nat.le_of_ble_eq_true rfl) ⟨rfl, rfl⟩ (z_CIm h ?_)
    intro y7 w6 h
    show z_Sem mL_bear (sh.length, 0) 126 [(4, z_i y5), (0, z_r 0), (1, z_i x1), (2, z_i 1), (3, z_i x3)] [z_i y7] (sh, w6) Q
    refine z_istore (L' := [(5, z_i y7), (4, z_i y5), (0, z_r 0), (1, z_i x1), (2, z_i 1), (3, z_i x3)]) dL_bear_126 (by decide) rfl ?_
    refine z_iload 1 dL_bear_128 rfl ?_
    obtain ⟨q8, h⟩ := h
    refine z_if_lt (tgt := 179) dL_bear_130 (by decide) (fun c => absurd c q8) (fun _ => ?_)
    refine z_iload 1 dL_bear_133 rfl ?_
    refine z_aload_n 2 dL_bear_135 rfl rfl ?_
    refine z_iconst dL_bear_136 (by decide) ?_
    refine z_callV (As := [z_i 0]) (rest := [z_i y5]) zmX8_value znX8_value zsX8_value (show z_Cl[8]? = some (RX8, TX8, 9) from rfl) zlRL_103 ⟨Nat.le_of_ble_eq_true rfl, Nat.le_of_ble_eq_true rfl⟩ dL_bear_137 hh0.1 rfl rfl (z_ai z_a0) (Nat.le_of_ble_eq_true rfl) (Nat.le_of_ble_eq_true rfl) ⟨rfl, rfl⟩ (z_CIm h ?_)
    intro y10 w9 h
    show z_Sem mL_bear (sh.length, 0) 140 [(5, z_i y7), (4, z_i y5), (0, z_r 0), (1, z_i x1), (2, z_i 1), (3, z_i x3)] [z_i y10, z_i y5] (sh, w9) Q
    obtain ⟨q11, h⟩ := h
    refine z_icmp_gt (tgt := 179) dL_bear_140 (by decide) (fun c => absurd c q11) (fun _ => ?_)
    refine z_iload 0 dL_bear_143 rfl ?_
    obtain ⟨m14, h⟩ := h
    suffices hJ12 : z_Sem mL_bear (sh.length, 0) 155 [(0, z_r 0), (1, z_i x1), (3, z_i x3), (4, z_i y5)] [] (sh, w9) Q by
      refine z_if_lt (tgt := 155) dL_bear_145 (by decide) (fun c13 => ?_) (fun c13 => ?_)
      · skip
        refine z_sub (L' := [(0, z_r 0), (1, z_i x1), (3, z_i x3), (4, z_i y5)]) [2, 3, 5, 1] rfl ?_
        exact hJ12
      · skip
        have ho16 := m14 c13
        refine z_iload 1 dL_bear_148 rfl ?_
        refine z_iload 0 dL_bear_150 rfl ?_
        obtain ⟨q17, ho16⟩ := ho16
        refine z_icmp_ne (tgt := 179) dL_bear_152 (by decide) (fun c => absurd q17 c) (fun _ => ?_)
        refine z_sub (L' := [(0, z_r 0), (1, z_i x1), (3, z_i x3), (4, z_i y5)]) [2, 3, 5, 1] rfl ?_
        exact hJ12
    refine z_aload_n 0 dL_bear_155 rfl rfl ?_
    refine z_iload_n 2 dL_bear_156 rfl rfl ?_
    refine z_iload 3 dL_bear_157 rfl ?_
    refine z_callV (As := [z_i x3, z_i y5]) (rest := []) zmX8_can znX8_can zsX8_can (show z_Cl[8]? = some (RX8, TX8, 9) from rfl) zlRL_168 ⟨Nat.le_of_ble_eq_true rfl, Nat.le_of_ble_eq_true rfl⟩ dL_bear_159 hh0.1 rfl rfl (z_ai (z_ai z_a0)) (Nat.le_of_ble_eq_true rfl) (Nat.le_of_ble_eq_true rfl) ⟨rfl, rfl⟩ (z_CIm h ?_)
    intro y19 w18 h
    show z_Sem mL_bear (sh.length, 0) 162 [(0, z_r 0), (1, z_i x1), (3, z_i x3), (4, z_i y5)] [z_i y19] (sh, w18) Q
    refine z_iconst dL_bear_162 (by decide) ?_
    obtain ⟨q20, h⟩ := h
    refine z_icmp_ne (tgt := 179) dL_bear_163 (by decide) (fun c => absurd q20 c) (fun _ => ?_)
    refine z_iload_n 2 dL_bear_166 rfl rfl ?_
    obtain ⟨m23, h⟩ := h
    suffices hJ21 : z_Sem mL_bear (sh.length, 0) 175 [(0, z_r 0), (1, z_i x1), (3, z_i x3)] [] (sh, w18) Q by
      refine z_if_gt (tgt := 175) dL_bear_167 (by decide) (fun c22 => ?_) (fun c22 => ?_)
      · skip
        refine z_sub (L' := [(0, z_r 0), (1, z_i x1), (3, z_i x3)]) [0, 1, 2] rfl ?_
        exact hJ21
      · skip
        have ho25 := m23 c22
        refine z_iload 3 dL_bear_170 rfl ?_
        obtain ⟨q26, ho25⟩ := ho25
        refine z_if_ne (tgt := 179) dL_bear_172 (by decide) (fun c => absurd q26 c) (fun _ => ?_)
        refine z_sub (L' := [(0, z_r 0), (1, z_i x1), (3, z_i x3)]) [0, 1, 2] rfl ?_
        exact hJ21
    refine z_iconst dL_bear_175 (by decide) ?_
    refine z_goto (tgt := 180) dL_bear_176 (by decide) ?_
    refine z_istore_n (L' := [(2, z_i 1), (0, z_r 0), (1, z_i x1), (3, z_i x3)]) dL_bear_180 rfl (by decide) rfl ?_
    obtain ⟨q27, h⟩ := h
    refine z_iinc (L' := [(3, z_i (x3 + 1)), (2, z_i 1), (0, z_r 0), (1, z_i x1)]) 3 dL_bear_181 rfl (by decide) rfl q27 ?_
    refine z_goto (tgt := 99) dL_bear_184 (by decide) ?_
    refine z_sub (L' := [(0, z_r 0), (1, z_i x1), (2, z_i 1), (3, z_i (x3 + 1))]) [2, 3, 1, 0] rfl ?_
    exact h
set_option maxRecDepth 100000 in
theorem t_L_bear_85 {sh : List z_C} {w : Nat → Int → Int} {Q : Option z_V → z_S → Prop} {x1 : Int} {x3 : Int} (hh0 : z_isTG sh 0) (h : (z_R (x3 + 1)) ∧ z_Sem mL_bear (sh.length, 0) 4 [(0, z_r 0), (1, z_i x1), (2, z_i 1), (3, z_i (x3 + 1))] [] (sh, w) Q) : z_Sem mL_bear (sh.length, 0) 85 [(0, z_r 0), (1, z_i x1), (3, z_i x3)] [] (sh, w) Q := by
  refine z_iconst dL_bear_85 (by decide) ?_
  refine z_goto (tgt := 90) dL_bear_86 (by decide) ?_
  refine z_istore_n (L' := [(2, z_i 1), (0, z_r 0), (1, z_i x1), (3, z_i x3)]) dL_bear_90 rfl (by decide) rfl ?_
  obtain ⟨q1, h⟩ := h
  refine z_iinc (L' := [(3, z_i (x3 + 1)), (2, z_i 1), (0, z_r 0), (1, z_i x1)]) 3 dL_bear_91 rfl (by decide) rfl q1 ?_
  refine z_goto (tgt := 4) dL_bear_94 (by decide) ?_
  refine z_sub (L' := [(0, z_r 0), (1, z_i x1), (2, z_i 1), (3, z_i (x3 + 1))]) [2, 3, 1, 0] rfl ?_
  exact h
set_option maxRecDepth 100000 in
theorem t_L_bounds {sh : List z_C} {w : Nat → Int → Int} {Q : Option z_V → z_S → Prop}  (hh0 : z_isTG sh 0) (h : z_CI mX8_value [z_r 0, z_i 1] sh w (fun y2 w1 => z_CI mL_bear [z_r 0, z_i 0] sh w1 (fun y4 w3 => (¬ y4 = 0) ∧ z_CI mL_bear [z_r 0, z_i 1] sh w3 (fun y7 w6 => (¬ y7 = 0) ∧ z_Sem mL_bounds (sh.length, 0) 33 [(0, z_r 0), (1, z_i y2), (2, z_i 0), (3, z_i 1), (4, z_i 0)] [] (sh, w6) Q)))) : z_Sem mL_bounds (sh.length, 0) 0 [(0, z_r 0)] [] (sh, w) Q := by
  refine z_aload_n 0 dL_bounds_0 rfl rfl ?_
  refine z_iconst dL_bounds_1 (by decide) ?_
  refine z_callV (As := [z_i 1]) (rest := []) zmX8_value znX8_value zsX8_value (show z_Cl[8]? = some (RX8, TX8, 9) from rfl) zlRL_103 ⟨Nat.le_of_ble_eq_true rfl, Nat.le_of_ble_eq_true rfl⟩ dL_bounds_2 hh0.1 rfl rfl (z_ai z_a0) (Nat.le_of_ble_eq_true rfl) (Nat.le_of_ble_eq_true rfl) ⟨rfl, rfl⟩ (z_CIm h ?_)
  intro y2 w1 h
  show z_Sem mL_bounds (sh.length, 0) 5 [(0, z_r 0)] [z_i y2] (sh, w1) Q
  refine z_istore_n (L' := [(1, z_i y2), (0, z_r 0)]) dL_bounds_5 rfl (by decide) rfl ?_
  refine z_iconst dL_bounds_6 (by decide) ?_
  refine z_istore_n (L' := [(2, z_i 0), (1, z_i y2), (0, z_r 0)]) dL_bounds_7 rfl (by decide) rfl ?_
  refine z_aload_n 2 dL_bounds_8 rfl rfl ?_
  refine z_iconst dL_bounds_9 (by decide) ?_
  refine z_callS (As := [z_r 0, z_i 0]) (rest := []) zmL_bear ztL_bear zlRL_174 ⟨Nat.le_of_ble_eq_true rfl, Nat.le_of_ble_eq_true rfl⟩ dL_bounds_10 rfl rfl (z_ar (z_ai z_a0)) (Nat.le_of_ble_eq_true rfl) (Nat.le_of_ble_eq_true rfl) ⟨rfl, rfl⟩ (z_CIm h ?_)
  intro y4 w3 h
  show z_Sem mL_bounds (sh.length, 0) 13 [(2, z_i 0), (1, z_i y2), (0, z_r 0)] [z_i y4] (sh, w3) Q
  obtain ⟨q5, h⟩ := h
  refine z_if_eq (tgt := 28) dL_bounds_13 (by decide) (fun c => absurd c q5) (fun _ => ?_)
  refine z_aload_n 2 dL_bounds_16 rfl rfl ?_
  refine z_iconst dL_bounds_17 (by decide) ?_
  refine z_callS (As := [z_r 0, z_i 1]) (rest := []) zmL_bear ztL_bear zlRL_174 ⟨Nat.le_of_ble_eq_true rfl, Nat.le_of_ble_eq_true rfl⟩ dL_bounds_18 rfl rfl (z_ar (z_ai z_a0)) (Nat.le_of_ble_eq_true rfl) (Nat.le_of_ble_eq_true rfl) ⟨rfl, rfl⟩ (z_CIm h ?_)
  intro y7 w6 h
  show z_Sem mL_bounds (sh.length, 0) 21 [(2, z_i 0), (1, z_i y2), (0, z_r 0)] [z_i y7] (sh, w6) Q
  obtain ⟨q8, h⟩ := h
  refine z_if_eq (tgt := 28) dL_bounds_21 (by decide) (fun c => absurd c q8) (fun _ => ?_)
  refine z_iconst dL_bounds_24 (by decide) ?_
  refine z_goto (tgt := 29) dL_bounds_25 (by decide) ?_
  refine z_istore_n (L' := [(3, z_i 1), (2, z_i 0), (1, z_i y2), (0, z_r 0)]) dL_bounds_29 rfl (by decide) rfl ?_
  refine z_iconst dL_bounds_30 (by decide) ?_
  refine z_istore (L' := [(4, z_i 0), (3, z_i 1), (2, z_i 0), (1, z_i y2), (0, z_r 0)]) dL_bounds_31 (by decide) rfl ?_
  refine z_sub (L' := [(0, z_r 0), (1, z_i y2), (2, z_i 0), (3, z_i 1), (4, z_i 0)]) [4, 3, 2, 1, 0] rfl ?_
  exact h
set_option maxRecDepth 100000 in
theorem t_L_bounds_33 {sh : List z_C} {w : Nat → Int → Int} {Q : Option z_V → z_S → Prop} {x1 : Int} {x2 : Int} {x4 : Int} (hh0 : z_isTG sh 0) (h : ((x1 ≤ x4 → z_Sem mL_bounds (sh.length, 0) 431 [(0, z_r 0), (1, z_i x1), (2, z_i x2), (3, z_i 1), (4, z_i 0)] [] (sh, w) Q) ∧ (¬ x1 ≤ x4 → z_CI mX8_event [z_r 0, z_i x4, z_i 1] sh w (fun y3 w2 => z_CI mX8_event [z_r 0, z_i x4, z_i 0] sh w2 (fun y5 w4 => (z_R (y3 - y5)) ∧ (z_R (x2 + (y3 - y5))) ∧ z_CI mX8_event [z_r 0, z_i x4, z_i 0] sh w4 (fun y9 w8 => z_CI mX8_event [z_r 0, z_i x4, z_i 1] sh w8 (fun y11 w10 => (¬ y11 < y9) ∧ z_CI mX8_event [z_r 0, z_i x4, z_i 2] sh w10 (fun y14 w13 => z_CI mX8_event [z_r 0, z_i x4, z_i 1] sh w13 (fun y16 w15 => z_CI mX8_event [z_r 0, z_i x4, z_i 0] sh w15 (fun y18 w17 => (z_R (y16 - y18)) ∧ (z_R ((y16 - y18) + 1)) ∧ (y14 = ((y16 - y18) + 1)) ∧ z_CI mX8_bound [z_r 0, z_i x4, z_i x4] sh w17 (fun y23 w22 => (y23 = 0) ∧ z_CI mX8_event [z_r 0, z_i x4, z_i 1] sh w22 (fun y26 w25 => (z_R (y26 + 1)) ∧ z_CI mX8_can [z_r 0, z_i x4, z_i (y26 + 1)] sh w25 (fun y29 w28 => (y29 = 0) ∧ z_CI mX8_event [z_r 0, z_i x4, z_i 0] sh w28 (fun y32 w31 => (z_R (y32 - 1)) ∧ z_CI mX8_can [z_r 0, z_i x4, z_i (y32 - 1)] sh w31 (fun y35 w34 => (y35 = 0) ∧ z_Sem mL_bounds (sh.length, 0) 161 [(0, z_r 0), (1, z_i x1), (2, z_i (x2 + (y3 - y5))), (3, z_i 1), (4, z_i x4), (5, z_i 0)] [] (sh, w34) Q))))))))))))))) : z_Sem mL_bounds (sh.length, 0) 33 [(0, z_r 0), (1, z_i x1), (2, z_i x2), (3, z_i 1), (4, z_i x4)] [] (sh, w) Q := by
  refine z_iload 4 dL_bounds_33 rfl ?_
  refine z_iload_n 1 dL_bounds_35 rfl rfl ?_
  refine z_icmp_ge (tgt := 428) dL_bounds_36 (by decide) (fun c1 => ?_) (fun c1 => ?_)
  · replace h := h.1 c1
    refine z_iconst dL_bounds_428 (by decide) ?_
    refine z_istore (L' := [(4, z_i 0), (0, z_r 0), (1, z_i x1), (2, z_i x2), (3, z_i 1)]) dL_bounds_429 (by decide) rfl ?_
    refine z_sub (L' := [(0, z_r 0), (1, z_i x1), (2, z_i x2), (3, z_i 1), (4, z_i 0)]) [1, 2, 3, 4, 0] rfl ?_
    exact h
  · replace h := h.2 c1
    refine z_iload_n 3 dL_bounds_39 rfl rfl ?_
    refine z_if_eq (tgt := 428) dL_bounds_40 (by decide) (fun c => absurd c (by decide)) (fun _ => ?_)
    refine z_iload_n 2 dL_bounds_43 rfl rfl ?_
    refine z_aload_n 0 dL_bounds_44 rfl rfl ?_
    refine z_iload 4 dL_bounds_45 rfl ?_
    refine z_iconst dL_bounds_47 (by decide) ?_
    refine z_callV (As := [z_i x4, z_i 1]) (rest := [z_i x2]) zmX8_event znX8_event zsX8_event (show z_Cl[8]? = some (RX8, TX8, 9) from rfl) zlRL_148 ⟨Nat.le_of_ble_eq_true rfl, Nat.le_of_ble_eq_true rfl⟩ dL_bounds_48 hh0.1 rfl rfl (z_ai (z_ai z_a0)) (Nat.le_of_ble_eq_true rfl) (Nat.le_of_ble_eq_true rfl) ⟨rfl, rfl⟩ (z_CIm h ?_)
    intro y3 w2 h
    show z_Sem mL_bounds (sh.length, 0) 51 [(0, z_r 0), (1, z_i x1), (2, z_i x2), (3, z_i 1), (4, z_i x4)] [z_i y3, z_i x2] (sh, w2) Q
    refine z_aload_n 0 dL_bounds_51 rfl rfl ?_
    refine z_iload 4 dL_bounds_52 rfl ?_
    refine z_iconst dL_bounds_54 (by decide) ?_
    refine z_callV (As := [z_i x4, z_i 0]) (rest := [z_i y3, z_i x2]) zmX8_event znX8_event zsX8_event (show z_Cl[8]? = some (RX8, TX8, 9) from rfl) zlRL_148 ⟨Nat.le_of_ble_eq_true rfl, Nat.le_of_ble_eq_true rfl⟩ dL_bounds_55 hh0.1 rfl rfl (z_ai (z_ai z_a0)) (Nat.le_of_ble_eq_true rfl) (Nat.le_of_ble_eq_true rfl) ⟨rfl, rfl⟩ (z_CIm h ?_)
    intro y5 w4 h
    show z_Sem mL_bounds (sh.length, 0) 58 [(0, z_r 0), (1, z_i x1), (2, z_i x2), (3, z_i 1), (4, z_i x4)] [z_i y5, z_i y3, z_i x2] (sh, w4) Q
    obtain ⟨q6, h⟩ := h
    refine z_isub dL_bounds_58 q6 ?_
    obtain ⟨q7, h⟩ := h
    refine z_iadd dL_bounds_59 q7 ?_
    refine z_istore_n (L' := [(2, z_i (x2 + (y3 - y5))), (0, z_r 0), (1, z_i x1), (3, z_i 1), (4, z_i x4)]) dL_bounds_60 rfl (by decide) rfl ?_
    refine z_aload_n 1 dL_bounds_61 rfl rfl ?_
    refine z_iload 4 dL_bounds_62 rfl ?_
    refine z_iconst dL_bounds_64 (by decide) ?_
    refine z_callV (As := [z_i x4, z_i 0]) (rest := []) zmX8_event znX8_event zsX8_event (show z_Cl[8]? = some (RX8, TX8, 9) from rfl) zlRL_148 ⟨Nat.le_of_ble_eq_true rfl, Nat.le_of_ble_eq_true rfl⟩ dL_bounds_65 hh0.1 rfl rfl (z_ai (z_ai z_a0)) (Nat.le_of_ble_eq_true rfl) (Nat.le_of_ble_eq_true rfl) ⟨rfl, rfl⟩ (z_CIm h ?_)
    intro y9 w8 h
    show z_Sem mL_bounds (sh.length, 0) 68 [(2, z_i (x2 + (y3 - y5))), (0, z_r 0), (1, z_i x1), (3, z_i 1), (4, z_i x4)] [z_i y9] (sh, w8) Q
    refine z_aload_n 1 dL_bounds_68 rfl rfl ?_
    refine z_iload 4 dL_bounds_69 rfl ?_
    refine z_iconst dL_bounds_71 (by decide) ?_
    refine z_callV (As := [z_i x4, z_i 1]) (rest := [z_i y9]) zmX8_event znX8_event zsX8_event (show z_Cl[8]? = some (RX8, TX8, 9) from rfl) zlRL_148 ⟨Nat.le_of_ble_eq_true rfl, Nat.le_of_ble_eq_true rfl⟩ dL_bounds_72 hh0.1 rfl rfl (z_ai (z_ai z_a0)) (Nat.le_of_ble_eq_true rfl) (Nat.le_of_ble_eq_true rfl) ⟨rfl, rfl⟩ (z_CIm h ?_)
    intro y11 w10 h
    show z_Sem mL_bounds (sh.length, 0) 75 [(2, z_i (x2 + (y3 - y5))), (0, z_r 0), (1, z_i x1), (3, z_i 1), (4, z_i x4)] [z_i y11, z_i y9] (sh, w10) Q
    obtain ⟨q12, h⟩ := h
    refine z_icmp_gt (tgt := 156) dL_bounds_75 (by decide) (fun c => absurd c q12) (fun _ => ?_)
    refine z_aload_n 1 dL_bounds_78 rfl rfl ?_
    refine z_iload 4 dL_bounds_79 rfl ?_
    refine z_iconst dL_bounds_81 (by decide) ?_
    refine z_callV (As := [z_i x4, z_i 2]) (rest := []) zmX8_event znX8_event zsX8_event (show z_Cl[8]? = some (RX8, TX8, 9) from rfl) zlRL_148 ⟨Nat.le_of_ble_eq_true rfl, Nat.le_of_ble_eq_true rfl⟩ dL_bounds_82 hh0.1 rfl rfl (z_ai (z_ai z_a0)) (Nat.le_of_ble_eq_true rfl) (Nat.le_of_ble_eq_true rfl) ⟨rfl, rfl⟩ (z_CIm h ?_)
    intro y14 w13 h
    show z_Sem mL_bounds (sh.length, 0) 85 [(2, z_i (x2 + (y3 - y5))), (0, z_r 0), (1, z_i x1), (3, z_i 1), (4, z_i x4)] [z_i y14] (sh, w13) Q
    refine z_aload_n 1 dL_bounds_85 rfl rfl ?_
    refine z_iload 4 dL_bounds_86 rfl ?_
    refine z_iconst dL_bounds_88 (by decide) ?_
    refine z_callV (As := [z_i x4, z_i 1]) (rest := [z_i y14]) zmX8_event znX8_event zsX8_event (show z_Cl[8]? = some (RX8, TX8, 9) from rfl) zlRL_148 ⟨Nat.le_of_ble_eq_true rfl, Nat.le_of_ble_eq_true rfl⟩ dL_bounds_89 hh0.1 rfl rfl (z_ai (z_ai z_a0)) (Nat.le_of_ble_eq_true rfl) (Nat.le_of_ble_eq_true rfl) ⟨rfl, rfl⟩ (z_CIm h ?_)
    intro y16 w15 h
    show z_Sem mL_bounds (sh.length, 0) 92 [(2, z_i (x2 + (y3 - y5))), (0, z_r 0), (1, z_i x1), (3, z_i 1), (4, z_i x4)] [z_i y16, z_i y14] (sh, w15) Q
    refine z_aload_n 1 dL_bounds_92 rfl rfl ?_
    refine z_iload 4 dL_bounds_93 rfl ?_
    refine z_iconst dL_bounds_95 (by decide) ?_
    refine z_callV (As := [z_i x4, z_i 0]) (rest := [z_i y16, z_i y14]) zmX8_event znX8_event zsX8_event (show z_Cl[8]? = some (RX8, TX8, 9) from rfl) zlRL_148 ⟨Nat.le_of_ble_eq_true rfl, Nat.le_of_ble_eq_true rfl⟩ dL_bounds_96 hh0.1 rfl rfl (z_ai (z_ai z_a0)) (Nat.le_of_ble_eq_true rfl) (Nat.le_of_ble_eq_true rfl) ⟨rfl, rfl⟩ (z_CIm h ?_)
    intro y18 w17 h
    show z_Sem mL_bounds (sh.length, 0) 99 [(2, z_i (x2 + (y3 - y5))), (0, z_r 0), (1, z_i x1), (3, z_i 1), (4, z_i x4)] [z_i y18, z_i y16, z_i y14] (sh, w17) Q
    obtain ⟨q19, h⟩ := h
    refine z_isub dL_bounds_99 q19 ?_
    refine z_iconst dL_bounds_100 (by decide) ?_
    obtain ⟨q20, h⟩ := h
    refine z_iadd dL_bounds_101 q20 ?_
    obtain ⟨q21, h⟩ := h
    refine z_icmp_ne (tgt := 156) dL_bounds_102 (by decide) (fun c => absurd q21 c) (fun _ => ?_)
    refine z_aload_n 1 dL_bounds_105 rfl rfl ?_
    refine z_iload 4 dL_bounds_106 rfl ?_
    refine z_iload 4 dL_bounds_108 rfl ?_
    refine z_callV (As := [z_i x4, z_i x4]) (rest := []) zmX8_bound znX8_bound zsX8_bound (show z_Cl[8]? = some (RX8, TX8, 9) from rfl) zlRL_178 ⟨Nat.le_of_ble_eq_true rfl, Nat.le_of_ble_eq_true rfl⟩ dL_bounds_110 hh0.1 rfl rfl (z_ai (z_ai z_a0)) (Nat.le_of_ble_eq_true rfl) (Nat.le_of_ble_eq_true rfl) ⟨rfl, rfl⟩ (z_CIm h ?_)
    intro y23 w22 h
    show z_Sem mL_bounds (sh.length, 0) 113 [(2, z_i (x2 + (y3 - y5))), (0, z_r 0), (1, z_i x1), (3, z_i 1), (4, z_i x4)] [z_i y23] (sh, w22) Q
    obtain ⟨q24, h⟩ := h
    refine z_if_ne (tgt := 156) dL_bounds_113 (by decide) (fun c => absurd q24 c) (fun _ => ?_)
    refine z_aload_n 1 dL_bounds_116 rfl rfl ?_
    refine z_iload 4 dL_bounds_117 rfl ?_
    refine z_aload_n 1 dL_bounds_119 rfl rfl ?_
    refine z_iload 4 dL_bounds_120 rfl ?_
    refine z_iconst dL_bounds_122 (by decide) ?_
    refine z_callV (As := [z_i x4, z_i 1]) (rest := [z_i x4, z_r 0]) zmX8_event znX8_event zsX8_event (show z_Cl[8]? = some (RX8, TX8, 9) from rfl) zlRL_148 ⟨Nat.le_of_ble_eq_true rfl, Nat.le_of_ble_eq_true rfl⟩ dL_bounds_123 hh0.1 rfl rfl (z_ai (z_ai z_a0)) (Nat.le_of_ble_eq_true rfl) (Nat.le_of_ble_eq_true rfl) ⟨rfl, rfl⟩ (z_CIm h ?_)
    intro y26 w25 h
    show z_Sem mL_bounds (sh.length, 0) 126 [(2, z_i (x2 + (y3 - y5))), (0, z_r 0), (1, z_i x1), (3, z_i 1), (4, z_i x4)] [z_i y26, z_i x4, z_r 0] (sh, w25) Q
    refine z_iconst dL_bounds_126 (by decide) ?_
    obtain ⟨q27, h⟩ := h
    refine z_iadd dL_bounds_127 q27 ?_
    refine z_callV (As := [z_i x4, z_i (y26 + 1)]) (rest := []) zmX8_can znX8_can zsX8_can (show z_Cl[8]? = some (RX8, TX8, 9) from rfl) zlRL_168 ⟨Nat.le_of_ble_eq_true rfl, Nat.le_of_ble_eq_true rfl⟩ dL_bounds_128 hh0.1 rfl rfl (z_ai (z_ai z_a0)) (Nat.le_of_ble_eq_true rfl) (Nat.le_of_ble_eq_true rfl) ⟨rfl, rfl⟩ (z_CIm h ?_)
    intro y29 w28 h
    show z_Sem mL_bounds (sh.length, 0) 131 [(2, z_i (x2 + (y3 - y5))), (0, z_r 0), (1, z_i x1), (3, z_i 1), (4, z_i x4)] [z_i y29] (sh, w28) Q
    obtain ⟨q30, h⟩ := h
    refine z_if_ne (tgt := 156) dL_bounds_131 (by decide) (fun c => absurd q30 c) (fun _ => ?_)
    refine z_aload_n 1 dL_bounds_134 rfl rfl ?_
    refine z_iload 4 dL_bounds_135 rfl ?_
    refine z_aload_n 1 dL_bounds_137 rfl rfl ?_
    refine z_iload 4 dL_bounds_138 rfl ?_
    refine z_iconst dL_bounds_140 (by decide) ?_
    refine z_callV (As := [z_i x4, z_i 0]) (rest := [z_i x4, z_r 0]) zmX8_event znX8_event zsX8_event (show z_Cl[8]? = some (RX8, TX8, 9) from rfl) zlRL_148 ⟨Nat.le_of_ble_eq_true rfl, Nat.le_of_ble_eq_true rfl⟩ dL_bounds_141 hh0.1 rfl rfl (z_ai (z_ai z_a0)) (Nat.le_of_ble_eq_true rfl) (Nat.le_of_ble_eq_true rfl) ⟨rfl, rfl⟩ (z_CIm h ?_)
    intro y32 w31 h
    show z_Sem mL_bounds (sh.length, 0) 144 [(2, z_i (x2 + (y3 - y5))), (0, z_r 0), (1, z_i x1), (3, z_i 1), (4, z_i x4)] [z_i y32, z_i x4, z_r 0] (sh, w31) Q
    refine z_iconst dL_bounds_144 (by decide) ?_
    obtain ⟨q33, h⟩ := h
    refine z_isub dL_bounds_145 q33 ?_
    refine z_callV (As := [z_i x4, z_i (y32 - 1)]) (rest := []) zmX8_can znX8_can zsX8_can (show z_Cl[8]? = some (RX8, TX8, 9) from rfl) zlRL_168 ⟨Nat.le_of_ble_eq_true rfl, Nat.le_of_ble_eq_true rfl⟩ dL_bounds_146 hh0.1 rfl rfl (z_ai (z_ai z_a0)) (Nat.le_of_ble_eq_true rfl) (Nat.le_of_ble_eq_true rfl) ⟨rfl, rfl⟩ (z_CIm h ?_)
    intro y35 w34 h
    show z_Sem mL_bounds (sh.length, 0) 149 [(2, z_i (x2 + (y3 - y5))), (0, z_r 0), (1, z_i x1), (3, z_i 1), (4, z_i x4)] [z_i y35] (sh, w34) Q
    obtain ⟨q36, h⟩ := h
    refine z_if_ne (tgt := 156) dL_bounds_149 (by decide) (fun c => absurd q36 c) (fun _ => ?_)
    refine z_iconst dL_bounds_152 (by decide) ?_
    refine z_goto (tgt := 157) dL_bounds_153 (by decide) ?_
    refine z_istore_n (L' := [(3, z_i 1), (2, z_i (x2 + (y3 - y5))), (0, z_r 0), (1, z_i x1), (4, z_i x4)]) dL_bounds_157 rfl (by decide) rfl ?_
    refine z_iconst dL_bounds_158 (by decide) ?_
    refine z_istore (L' := [(5, z_i 0), (3, z_i 1), (2, z_i (x2 + (y3 - y5))), (0, z_r 0), (1, z_i x1), (4, z_i x4)]) dL_bounds_159 (by decide) rfl ?_
    refine z_sub (L' := [(0, z_r 0), (1, z_i x1), (2, z_i (x2 + (y3 - y5))), (3, z_i 1), (4, z_i x4), (5, z_i 0)]) [3, 4, 2, 1, 5, 0] rfl ?_
    exact h
set_option maxRecDepth 100000 in
theorem t_L_bounds_431 {sh : List z_C} {w : Nat → Int → Int} {Q : Option z_V → z_S → Prop} {x1 : Int} {x2 : Int} {x4 : Int} (hh0 : z_isTG sh 0) (h : z_CI mX8_value [z_r 0, z_i 2] sh w (fun y2 w1 => ((y2 ≤ x4 → z_CI mX8_value [z_r 0, z_i 10] sh w1 (fun y5 w4 => (y5 = x2) ∧ z_CD mX8_meanRoom [z_r 0] sh w4 (fun y8 w7 => (vf_n64 (FP.ddiv (FP.i2d (Int32.ofInt x2)) (FP.i2d (Int32.ofInt x1)))) ∧ (Op.cmpValue (FP.dcmp y8 (FP.ddiv (FP.i2d (Int32.ofInt x2)) (FP.i2d (Int32.ofInt x1)))) .l = Int32.ofInt 0) ∧ z_CF mX8_tightShare [z_r 0] sh w7 (fun y12 w11 => z_CI mX8_value [z_r 0, z_i 3] sh w11 (fun y14 w13 => ((y14 = 0 → (Op.cmpValue (FP.fcmp y12 (FP.fconst0)) .l = Int32.ofInt 0) ∧ Q (some (z_i 1)) (sh, w13)) ∧ (¬ y14 = 0 → z_CI mX8_value [z_r 0, z_i 6] sh w13 (fun y17 w16 => z_CI mX8_value [z_r 0, z_i 3] sh w16 (fun y19 w18 => (vf_n32 (FP.fdiv (FP.i2f (Int32.ofInt y17)) (FP.i2f (Int32.ofInt y19)))) ∧ (Op.cmpValue (FP.fcmp y12 (FP.fdiv (FP.i2f (Int32.ofInt y17)) (FP.i2f (Int32.ofInt y19)))) .l = Int32.ofInt 0) ∧ Q (some (z_i 1)) (sh, w18)))))))))) ∧ (¬ y2 ≤ x4 → z_CI mX8_gap [z_r 0, z_i x4, z_i 7] sh w1 (fun y24 w23 => z_CI mX8_gap [z_r 0, z_i x4, z_i 4] sh w23 (fun y26 w25 => ∀ y31 : Int, y31 = (if y26 = 1 then 1 else 0) → (¬ y24 < 0) ∧ z_CI mX8_gap [z_r 0, z_i x4, z_i 5] sh w25 (fun y34 w33 => ((if y34 = 1 then (1 : Int) else 0) = (if y31 = 0 then (0 : Int) else if y24 = 0 then (1 : Int) else 0)) ∧ z_CI mX8_gap [z_r 0, z_i x4, z_i 6] sh w33 (fun y49 w48 => z_CI mX8_gap [z_r 0, z_i x4, z_i 5] sh w48 (fun y51 w50 => (¬ y51 < y49) ∧ (z_R (x4 + 1)) ∧ z_Sem mL_bounds (sh.length, 0) 431 [(0, z_r 0), (1, z_i x1), (2, z_i x2), (3, z_i 1), (4, z_i (x4 + 1))] [] (sh, w50) Q))))))))) : z_Sem mL_bounds (sh.length, 0) 431 [(0, z_r 0), (1, z_i x1), (2, z_i x2), (3, z_i 1), (4, z_i x4)] [] (sh, w) Q := by
  refine z_iload 4 dL_bounds_431 rfl ?_
  refine z_aload_n 0 dL_bounds_433 rfl rfl ?_
  refine z_iconst dL_bounds_434 (by decide) ?_
  refine z_callV (As := [z_i 2]) (rest := [z_i x4]) zmX8_value znX8_value zsX8_value (show z_Cl[8]? = some (RX8, TX8, 9) from rfl) zlRL_103 ⟨Nat.le_of_ble_eq_true rfl, Nat.le_of_ble_eq_true rfl⟩ dL_bounds_435 hh0.1 rfl rfl (z_ai z_a0) (Nat.le_of_ble_eq_true rfl) (Nat.le_of_ble_eq_true rfl) ⟨rfl, rfl⟩ (z_CIm h ?_)
  intro y2 w1 h
  show z_Sem mL_bounds (sh.length, 0) 438 [(0, z_r 0), (1, z_i x1), (2, z_i x2), (3, z_i 1), (4, z_i x4)] [z_i y2, z_i x4] (sh, w1) Q
  refine z_icmp_ge (tgt := 542) dL_bounds_438 (by decide) (fun c3 => ?_) (fun c3 => ?_)
  · replace h := h.1 c3
    refine z_iload_n 3 dL_bounds_542 rfl rfl ?_
    refine z_if_eq (tgt := 607) dL_bounds_543 (by decide) (fun c => absurd c (by decide)) (fun _ => ?_)
    refine z_aload_n 0 dL_bounds_546 rfl rfl ?_
    refine z_bipush dL_bounds_547 (by decide) (by decide) ?_
    refine z_callV (As := [z_i 10]) (rest := []) zmX8_value znX8_value zsX8_value (show z_Cl[8]? = some (RX8, TX8, 9) from rfl) zlRL_103 ⟨Nat.le_of_ble_eq_true rfl, Nat.le_of_ble_eq_true rfl⟩ dL_bounds_549 hh0.1 rfl rfl (z_ai z_a0) (Nat.le_of_ble_eq_true rfl) (Nat.le_of_ble_eq_true rfl) ⟨rfl, rfl⟩ (z_CIm h ?_)
    intro y5 w4 h
    show z_Sem mL_bounds (sh.length, 0) 552 [(0, z_r 0), (1, z_i x1), (2, z_i x2), (3, z_i 1), (4, z_i x4)] [z_i y5] (sh, w4) Q
    refine z_iload_n 2 dL_bounds_552 rfl rfl ?_
    obtain ⟨q6, h⟩ := h
    refine z_icmp_ne (tgt := 607) dL_bounds_553 (by decide) (fun c => absurd q6 c) (fun _ => ?_)
    refine z_aload_n 0 dL_bounds_556 rfl rfl ?_
    refine z_callV (As := []) (rest := []) zmX8_meanRoom znX8_meanRoom zsX8_meanRoom (show z_Cl[8]? = some (RX8, TX8, 9) from rfl) zlRL_198 ⟨Nat.le_of_ble_eq_true rfl, Nat.le_of_ble_eq_true rfl⟩ dL_bounds_557 hh0.1 rfl rfl z_a0 (Nat.le_of_ble_eq_true rfl) (Nat.le_of_ble_eq_true rfl) ⟨rfl, rfl⟩ (z_CDm h ?_)
    intro y8 w7 h
    show z_Sem mL_bounds (sh.length, 0) 560 [(0, z_r 0), (1, z_i x1), (2, z_i x2), (3, z_i 1), (4, z_i x4)] [z_d y8] (sh, w7) Q
    refine z_iload_n 2 dL_bounds_560 rfl rfl ?_
    refine z_i2d dL_bounds_561 ?_
    refine z_iload_n 1 dL_bounds_562 rfl rfl ?_
    refine z_i2d dL_bounds_563 ?_
    obtain ⟨q9, h⟩ := h
    refine z_ddiv dL_bounds_564 q9 ?_
    obtain ⟨q10, h⟩ := h
    refine z_dcmp (v := 0) dL_bounds_565 q10 (by decide) ?_
    refine z_if_ne (tgt := 607) dL_bounds_566 (by decide) (fun c => absurd c (by decide)) (fun _ => ?_)
    refine z_aload_n 0 dL_bounds_569 rfl rfl ?_
    refine z_callV (As := []) (rest := []) zmX8_tightShare znX8_tightShare zsX8_tightShare (show z_Cl[8]? = some (RX8, TX8, 9) from rfl) zlRL_202 ⟨Nat.le_of_ble_eq_true rfl, Nat.le_of_ble_eq_true rfl⟩ dL_bounds_570 hh0.1 rfl rfl z_a0 (Nat.le_of_ble_eq_true rfl) (Nat.le_of_ble_eq_true rfl) ⟨rfl, rfl⟩ (z_CFm h ?_)
    intro y12 w11 h
    show z_Sem mL_bounds (sh.length, 0) 573 [(0, z_r 0), (1, z_i x1), (2, z_i x2), (3, z_i 1), (4, z_i x4)] [z_f y12] (sh, w11) Q
    refine z_aload_n 0 dL_bounds_573 rfl rfl ?_
    refine z_iconst dL_bounds_574 (by decide) ?_
    refine z_callV (As := [z_i 3]) (rest := [z_f y12]) zmX8_value znX8_value zsX8_value (show z_Cl[8]? = some (RX8, TX8, 9) from rfl) zlRL_103 ⟨Nat.le_of_ble_eq_true rfl, Nat.le_of_ble_eq_true rfl⟩ dL_bounds_575 hh0.1 rfl rfl (z_ai z_a0) (Nat.le_of_ble_eq_true rfl) (Nat.le_of_ble_eq_true rfl) ⟨rfl, rfl⟩ (z_CIm h ?_)
    intro y14 w13 h
    show z_Sem mL_bounds (sh.length, 0) 578 [(0, z_r 0), (1, z_i x1), (2, z_i x2), (3, z_i 1), (4, z_i x4)] [z_i y14, z_f y12] (sh, w13) Q
    refine z_if_ne (tgt := 585) dL_bounds_578 (by decide) (fun c15 => ?_) (fun c15 => ?_)
    · replace h := h.2 c15
      refine z_aload_n 0 dL_bounds_585 rfl rfl ?_
      refine z_bipush dL_bounds_586 (by decide) (by decide) ?_
      refine z_callV (As := [z_i 6]) (rest := [z_f y12]) zmX8_value znX8_value zsX8_value (show z_Cl[8]? = some (RX8, TX8, 9) from rfl) zlRL_103 ⟨Nat.le_of_ble_eq_true rfl, Nat.le_of_ble_eq_true rfl⟩ dL_bounds_588 hh0.1 rfl rfl (z_ai z_a0) (Nat.le_of_ble_eq_true rfl) (Nat.le_of_ble_eq_true rfl) ⟨rfl, rfl⟩ (z_CIm h ?_)
      intro y17 w16 h
      show z_Sem mL_bounds (sh.length, 0) 591 [(0, z_r 0), (1, z_i x1), (2, z_i x2), (3, z_i 1), (4, z_i x4)] [z_i y17, z_f y12] (sh, w16) Q
      refine z_i2f dL_bounds_591 ?_
      refine z_aload_n 0 dL_bounds_592 rfl rfl ?_
      refine z_iconst dL_bounds_593 (by decide) ?_
      refine z_callV (As := [z_i 3]) (rest := [z_f (FP.i2f (Int32.ofInt y17)), z_f y12]) zmX8_value znX8_value zsX8_value (show z_Cl[8]? = some (RX8, TX8, 9) from rfl) zlRL_103 ⟨Nat.le_of_ble_eq_true rfl, Nat.le_of_ble_eq_true rfl⟩ dL_bounds_594 hh0.1 rfl rfl (z_ai z_a0) (Nat.le_of_ble_eq_true rfl) (Nat.le_of_ble_eq_true rfl) ⟨rfl, rfl⟩ (z_CIm h ?_)
      intro y19 w18 h
      show z_Sem mL_bounds (sh.length, 0) 597 [(0, z_r 0), (1, z_i x1), (2, z_i x2), (3, z_i 1), (4, z_i x4)] [z_i y19, z_f (FP.i2f (Int32.ofInt y17)), z_f y12] (sh, w18) Q
      refine z_i2f dL_bounds_597 ?_
      obtain ⟨q20, h⟩ := h
      refine z_fdiv dL_bounds_598 q20 ?_
      obtain ⟨q21, h⟩ := h
      refine z_fcmp (v := 0) dL_bounds_599 q21 (by decide) ?_
      refine z_if_ne (tgt := 607) dL_bounds_600 (by decide) (fun c => absurd c (by decide)) (fun _ => ?_)
      refine z_iconst dL_bounds_603 (by decide) ?_
      refine z_goto (tgt := 608) dL_bounds_604 (by decide) ?_
      exact z_ret (v := some (z_i 1)) dL_bounds_608 ⟨rfl, Or.inr (Or.inl ⟨rfl, (by decide)⟩)⟩ rfl h
    · replace h := h.1 c15
      refine z_fconst0 dL_bounds_581 ?_
      refine z_goto (tgt := 599) dL_bounds_582 (by decide) ?_
      obtain ⟨q22, h⟩ := h
      refine z_fcmp (v := 0) dL_bounds_599 q22 (by decide) ?_
      refine z_if_ne (tgt := 607) dL_bounds_600 (by decide) (fun c => absurd c (by decide)) (fun _ => ?_)
      refine z_iconst dL_bounds_603 (by decide) ?_
      refine z_goto (tgt := 608) dL_bounds_604 (by decide) ?_
      exact z_ret (v := some (z_i 1)) dL_bounds_608 ⟨rfl, Or.inr (Or.inl ⟨rfl, (by decide)⟩)⟩ rfl h
  · replace h := h.2 c3
    refine z_iload_n 3 dL_bounds_441 rfl rfl ?_
    refine z_if_eq (tgt := 542) dL_bounds_442 (by decide) (fun c => absurd c (by decide)) (fun _ => ?_)
    refine z_aload_n 0 dL_bounds_445 rfl rfl ?_
    refine z_iload 4 dL_bounds_446 rfl ?_
    refine z_bipush dL_bounds_448 (by decide) (by decide) ?_
    refine z_callV (As := [z_i x4, z_i 7]) (rest := []) zmX8_gap znX8_gap zsX8_gap (show z_Cl[8]? = some (RX8, TX8, 9) from rfl) zlRL_154 ⟨Nat.le_of_ble_eq_true rfl, Nat.le_of_ble_eq_true rfl⟩ dL_bounds_450 hh0.1 rfl rfl (z_ai (z_ai z_a0)) (Nat.le_of_ble_eq_true rfl) (Nat.le_of_ble_eq_true rfl) ⟨rfl, rfl⟩ (z_CIm h ?_)
    intro y24 w23 h
    show z_Sem mL_bounds (sh.length, 0) 453 [(0, z_r 0), (1, z_i x1), (2, z_i x2), (3, z_i 1), (4, z_i x4)] [z_i y24] (sh, w23) Q
    refine z_istore (L' := [(5, z_i y24), (0, z_r 0), (1, z_i x1), (2, z_i x2), (3, z_i 1), (4, z_i x4)]) dL_bounds_453 (by decide) rfl ?_
    refine z_aload_n 1 dL_bounds_455 rfl rfl ?_
    refine z_iload 5 dL_bounds_456 rfl ?_
    refine z_iconst dL_bounds_458 (by decide) ?_
    refine z_callV (As := [z_i x4, z_i 4]) (rest := []) zmX8_gap znX8_gap zsX8_gap (show z_Cl[8]? = some (RX8, TX8, 9) from rfl) zlRL_154 ⟨Nat.le_of_ble_eq_true rfl, Nat.le_of_ble_eq_true rfl⟩ dL_bounds_459 hh0.1 rfl rfl (z_ai (z_ai z_a0)) (Nat.le_of_ble_eq_true rfl) (Nat.le_of_ble_eq_true rfl) ⟨rfl, rfl⟩ (z_CIm h ?_)
    intro y26 w25 h
    show z_Sem mL_bounds (sh.length, 0) 462 [(5, z_i y24), (0, z_r 0), (1, z_i x1), (2, z_i x2), (3, z_i 1), (4, z_i x4)] [z_i y26] (sh, w25) Q
    refine z_iconst dL_bounds_462 (by decide) ?_
    suffices hJ27 : z_Sem mL_bounds (sh.length, 0) 471 [(0, z_r 0), (1, z_i x1), (2, z_i x2), (4, z_i x4), (5, z_i y24)] [z_i (if y26 = 1 then 1 else 0)] (sh, w25) Q by
      refine z_icmp_ne (tgt := 470) dL_bounds_463 (by decide) (fun c28 => ?_) (fun c28 => ?_)
      · skip
        refine z_iconst dL_bounds_470 (by decide) ?_
        refine z_sub (L' := [(0, z_r 0), (1, z_i x1), (2, z_i x2), (4, z_i x4), (5, z_i y24)]) [1, 2, 3, 5, 0] rfl ?_
        simp only [if_neg c28] at hJ27
        exact hJ27
      · skip
        refine z_iconst dL_bounds_466 (by decide) ?_
        refine z_goto (tgt := 471) dL_bounds_467 (by decide) ?_
        refine z_sub (L' := [(0, z_r 0), (1, z_i x1), (2, z_i x2), (4, z_i x4), (5, z_i y24)]) [1, 2, 3, 5, 0] rfl ?_
        simp only [if_pos c28] at hJ27
        exact hJ27
    refine z_nam (fun y31 hy31 => ?_)
    replace h := h y31 hy31
    refine z_istore (L' := [(6, z_i y31), (0, z_r 0), (1, z_i x1), (2, z_i x2), (4, z_i x4), (5, z_i y24)]) dL_bounds_471 (by decide) rfl ?_
    refine z_iload 5 dL_bounds_473 rfl ?_
    obtain ⟨q32, h⟩ := h
    refine z_if_lt (tgt := 534) dL_bounds_475 (by decide) (fun c => absurd c q32) (fun _ => ?_)
    refine z_aload_n 1 dL_bounds_478 rfl rfl ?_
    refine z_iload 4 dL_bounds_479 rfl ?_
    refine z_iconst dL_bounds_481 (by decide) ?_
    refine z_callV (As := [z_i x4, z_i 5]) (rest := []) zmX8_gap znX8_gap zsX8_gap (show z_Cl[8]? = some (RX8, TX8, 9) from rfl) zlRL_154 ⟨Nat.le_of_ble_eq_true rfl, Nat.le_of_ble_eq_true rfl⟩ dL_bounds_482 hh0.1 rfl rfl (z_ai (z_ai z_a0)) (Nat.le_of_ble_eq_true rfl) (Nat.le_of_ble_eq_true rfl) ⟨rfl, rfl⟩ (z_CIm h ?_)
    intro y34 w33 h
    show z_Sem mL_bounds (sh.length, 0) 485 [(6, z_i y31), (0, z_r 0), (1, z_i x1), (2, z_i x2), (4, z_i x4), (5, z_i y24)] [z_i y34] (sh, w33) Q
    refine z_iconst dL_bounds_485 (by decide) ?_
    suffices hJ35 : z_Sem mL_bounds (sh.length, 0) 494 [(0, z_r 0), (1, z_i x1), (2, z_i x2), (4, z_i x4), (5, z_i y24), (6, z_i y31)] [z_i (if y34 = 1 then 1 else 0)] (sh, w33) Q by
      refine z_icmp_ne (tgt := 493) dL_bounds_486 (by decide) (fun c36 => ?_) (fun c36 => ?_)
      · skip
        refine z_iconst dL_bounds_493 (by decide) ?_
        refine z_sub (L' := [(0, z_r 0), (1, z_i x1), (2, z_i x2), (4, z_i x4), (5, z_i y24), (6, z_i y31)]) [1, 2, 3, 4, 5, 0] rfl ?_
        simp only [if_neg c36] at hJ35
        exact hJ35
      · skip
        refine z_iconst dL_bounds_489 (by decide) ?_
        refine z_goto (tgt := 494) dL_bounds_490 (by decide) ?_
        refine z_sub (L' := [(0, z_r 0), (1, z_i x1), (2, z_i x2), (4, z_i x4), (5, z_i y24), (6, z_i y31)]) [1, 2, 3, 4, 5, 0] rfl ?_
        simp only [if_pos c36] at hJ35
        exact hJ35
    refine z_iload 5 dL_bounds_494 rfl ?_
    suffices hJ39 : z_Sem mL_bounds (sh.length, 0) 509 [(0, z_r 0), (1, z_i x1), (2, z_i x2), (4, z_i x4)] [z_i (if y31 = 0 then 0 else if y24 = 0 then 1 else 0), z_i (if y34 = 1 then 1 else 0)] (sh, w33) Q by
      refine z_if_eq (tgt := 508) dL_bounds_496 (by decide) (fun c40 => ?_) (fun c40 => ?_)
      · skip
        refine z_iconst dL_bounds_508 (by decide) ?_
        refine z_sub (L' := [(0, z_r 0), (1, z_i x1), (2, z_i x2), (4, z_i x4)]) [0, 1, 2, 3] rfl ?_
        simp only [if_pos c40] at hJ39
        exact hJ39
      · skip
        refine z_iload 4 dL_bounds_499 rfl ?_
        suffices hJ43 : z_Sem mL_bounds (sh.length, 0) 509 [(0, z_r 0), (1, z_i x1), (2, z_i x2), (4, z_i x4)] [z_i (if y24 = 0 then 1 else 0), z_i (if y34 = 1 then 1 else 0)] (sh, w33) Q by
          refine z_if_ne (tgt := 508) dL_bounds_501 (by decide) (fun c44 => ?_) (fun c44 => ?_)
          · skip
            refine z_iconst dL_bounds_508 (by decide) ?_
            refine z_sub (L' := [(0, z_r 0), (1, z_i x1), (2, z_i x2), (4, z_i x4)]) [0, 1, 2, 3] rfl ?_
            simp only [if_neg c44] at hJ43
            exact hJ43
          · skip
            refine z_iconst dL_bounds_504 (by decide) ?_
            refine z_goto (tgt := 509) dL_bounds_505 (by decide) ?_
            refine z_sub (L' := [(0, z_r 0), (1, z_i x1), (2, z_i x2), (4, z_i x4)]) [0, 1, 2, 3] rfl ?_
            simp only [if_pos c44] at hJ43
            exact hJ43
        simp only [if_neg c40] at hJ39
        exact hJ39
    obtain ⟨q47, h⟩ := h
    refine z_icmp_ne (tgt := 534) dL_bounds_509 (by decide) (fun c => absurd q47 c) (fun _ => ?_)
    refine z_aload_n 0 dL_bounds_512 rfl rfl ?_
    refine z_iload 3 dL_bounds_513 rfl ?_
    refine z_bipush dL_bounds_515 (by decide) (by decide) ?_
    refine z_callV (As := [z_i x4, z_i 6]) (rest := []) zmX8_gap znX8_gap zsX8_gap (show z_Cl[8]? = some (RX8, TX8, 9) from rfl) zlRL_154 ⟨Nat.le_of_ble_eq_true rfl, Nat.le_of_ble_eq_true rfl⟩ dL_bounds_517 hh0.1 rfl rfl (z_ai (z_ai z_a0)) (Nat.le_of_ble_eq_true rfl) (Nat.le_of_ble_eq_true rfl) ⟨rfl, rfl⟩ (z_CIm h ?_)
    intro y49 w48 h
    show z_Sem mL_bounds (sh.length, 0) 520 [(0, z_r 0), (1, z_i x1), (2, z_i x2), (4, z_i x4)] [z_i y49] (sh, w48) Q
    refine z_aload_n 0 dL_bounds_520 rfl rfl ?_
    refine z_iload 3 dL_bounds_521 rfl ?_
    refine z_iconst dL_bounds_523 (by decide) ?_
    refine z_callV (As := [z_i x4, z_i 5]) (rest := [z_i y49]) zmX8_gap znX8_gap zsX8_gap (show z_Cl[8]? = some (RX8, TX8, 9) from rfl) zlRL_154 ⟨Nat.le_of_ble_eq_true rfl, Nat.le_of_ble_eq_true rfl⟩ dL_bounds_524 hh0.1 rfl rfl (z_ai (z_ai z_a0)) (Nat.le_of_ble_eq_true rfl) (Nat.le_of_ble_eq_true rfl) ⟨rfl, rfl⟩ (z_CIm h ?_)
    intro y51 w50 h
    show z_Sem mL_bounds (sh.length, 0) 527 [(0, z_r 0), (1, z_i x1), (2, z_i x2), (4, z_i x4)] [z_i y51, z_i y49] (sh, w50) Q
    obtain ⟨q52, h⟩ := h
    refine z_icmp_gt (tgt := 534) dL_bounds_527 (by decide) (fun c => absurd c q52) (fun _ => ?_)
    refine z_iconst dL_bounds_530 (by decide) ?_
    refine z_goto (tgt := 535) dL_bounds_531 (by decide) ?_
    refine z_istore_n (L' := [(3, z_i 1), (0, z_r 0), (1, z_i x1), (2, z_i x2), (4, z_i x4)]) dL_bounds_535 rfl (by decide) rfl ?_
    obtain ⟨q53, h⟩ := h
    refine z_iinc (L' := [(4, z_i (x4 + 1)), (3, z_i 1), (0, z_r 0), (1, z_i x1), (2, z_i x2)]) 4 dL_bounds_536 rfl (by decide) rfl q53 ?_
    refine z_goto (tgt := 431) dL_bounds_539 (by decide) ?_
    refine z_sub (L' := [(0, z_r 0), (1, z_i x1), (2, z_i x2), (3, z_i 1), (4, z_i (x4 + 1))]) [2, 3, 4, 1, 0] rfl ?_
    exact h
set_option maxRecDepth 100000 in
theorem t_L_bounds_161 {sh : List z_C} {w : Nat → Int → Int} {Q : Option z_V → z_S → Prop} {x1 : Int} {x2 : Int} {x4 : Int} {x5 : Int} (hh0 : z_isTG sh 0) (h : ((x1 ≤ x5 → (z_R (x4 + 1)) ∧ z_Sem mL_bounds (sh.length, 0) 33 [(0, z_r 0), (1, z_i x1), (2, z_i x2), (3, z_i 1), (4, z_i (x4 + 1))] [] (sh, w) Q) ∧ (¬ x1 ≤ x5 → z_CI mX8_bound [z_r 0, z_i x4, z_i x5] sh w (fun y4 w3 => z_CI mX8_bound [z_r 0, z_i x5, z_i x4] sh w3 (fun y6 w5 => (z_R (y4 + y6)) ∧ (¬ (y4 + y6) < 0) ∧ ((x4 = x5 → z_Sem mL_bounds (sh.length, 0) 372 [(0, z_r 0), (1, z_i x1), (2, z_i x2), (3, z_i 1), (4, z_i x4), (5, z_i x5), (6, z_i y4), (7, z_i 0)] [] (sh, w5) Q) ∧ (¬ x4 = x5 → z_CI mX8_wayLength [z_r 0, z_i x4, z_i x5] sh w5 (fun y11 w10 => z_Sem mL_bounds (sh.length, 0) 228 [(0, z_r 0), (1, z_i x1), (2, z_i x2), (4, z_i x4), (5, z_i x5), (6, z_i y4), (7, z_i 0), (8, z_i y11), (9, z_i 0)] [] (sh, w10) Q)))))))) : z_Sem mL_bounds (sh.length, 0) 161 [(0, z_r 0), (1, z_i x1), (2, z_i x2), (3, z_i 1), (4, z_i x4), (5, z_i x5)] [] (sh, w) Q := by
  refine z_iload 5 dL_bounds_161 rfl ?_
  refine z_iload_n 1 dL_bounds_163 rfl rfl ?_
  refine z_icmp_ge (tgt := 422) dL_bounds_164 (by decide) (fun c1 => ?_) (fun c1 => ?_)
  · replace h := h.1 c1
    obtain ⟨q2, h⟩ := h
    refine z_iinc (L' := [(4, z_i (x4 + 1)), (0, z_r 0), (1, z_i x1), (2, z_i x2), (3, z_i 1), (5, z_i x5)]) 4 dL_bounds_422 rfl (by decide) rfl q2 ?_
    refine z_goto (tgt := 33) dL_bounds_425 (by decide) ?_
    refine z_sub (L' := [(0, z_r 0), (1, z_i x1), (2, z_i x2), (3, z_i 1), (4, z_i (x4 + 1))]) [1, 2, 3, 4, 0] rfl ?_
    exact h
  · replace h := h.2 c1
    refine z_iload_n 3 dL_bounds_167 rfl rfl ?_
    refine z_if_eq (tgt := 422) dL_bounds_168 (by decide) (fun c => absurd c (by decide)) (fun _ => ?_)
    refine z_aload_n 0 dL_bounds_171 rfl rfl ?_
    refine z_iload 4 dL_bounds_172 rfl ?_
    refine z_iload 5 dL_bounds_174 rfl ?_
    refine z_callV (As := [z_i x4, z_i x5]) (rest := []) zmX8_bound znX8_bound zsX8_bound (show z_Cl[8]? = some (RX8, TX8, 9) from rfl) zlRL_178 ⟨Nat.le_of_ble_eq_true rfl, Nat.le_of_ble_eq_true rfl⟩ dL_bounds_176 hh0.1 rfl rfl (z_ai (z_ai z_a0)) (Nat.le_of_ble_eq_true rfl) (Nat.le_of_ble_eq_true rfl) ⟨rfl, rfl⟩ (z_CIm h ?_)
    intro y4 w3 h
    show z_Sem mL_bounds (sh.length, 0) 179 [(0, z_r 0), (1, z_i x1), (2, z_i x2), (3, z_i 1), (4, z_i x4), (5, z_i x5)] [z_i y4] (sh, w3) Q
    refine z_istore (L' := [(6, z_i y4), (0, z_r 0), (1, z_i x1), (2, z_i x2), (3, z_i 1), (4, z_i x4), (5, z_i x5)]) dL_bounds_179 (by decide) rfl ?_
    refine z_iload 0 dL_bounds_181 rfl ?_
    refine z_aload_n 1 dL_bounds_183 rfl rfl ?_
    refine z_iload 6 dL_bounds_184 rfl ?_
    refine z_iload 5 dL_bounds_186 rfl ?_
    refine z_callV (As := [z_i x5, z_i x4]) (rest := [z_i y4]) zmX8_bound znX8_bound zsX8_bound (show z_Cl[8]? = some (RX8, TX8, 9) from rfl) zlRL_178 ⟨Nat.le_of_ble_eq_true rfl, Nat.le_of_ble_eq_true rfl⟩ dL_bounds_188 hh0.1 rfl rfl (z_ai (z_ai z_a0)) (Nat.le_of_ble_eq_true rfl) (Nat.le_of_ble_eq_true rfl) ⟨rfl, rfl⟩ (z_CIm h ?_)
    intro y6 w5 h
    show z_Sem mL_bounds (sh.length, 0) 191 [(6, z_i y4), (0, z_r 0), (1, z_i x1), (2, z_i x2), (3, z_i 1), (4, z_i x4), (5, z_i x5)] [z_i y6, z_i y4] (sh, w5) Q
    obtain ⟨q7, h⟩ := h
    refine z_iadd dL_bounds_191 q7 ?_
    obtain ⟨q8, h⟩ := h
    refine z_if_lt (tgt := 199) dL_bounds_192 (by decide) (fun c => absurd c q8) (fun _ => ?_)
    refine z_iconst dL_bounds_195 (by decide) ?_
    refine z_goto (tgt := 200) dL_bounds_196 (by decide) ?_
    refine z_istore_n (L' := [(3, z_i 1), (6, z_i y4), (0, z_r 0), (1, z_i x1), (2, z_i x2), (4, z_i x4), (5, z_i x5)]) dL_bounds_200 rfl (by decide) rfl ?_
    refine z_iload 5 dL_bounds_201 rfl ?_
    refine z_iload 6 dL_bounds_203 rfl ?_
    refine z_icmp_eq (tgt := 369) dL_bounds_205 (by decide) (fun c9 => ?_) (fun c9 => ?_)
    · replace h := h.1 c9
      refine z_iconst dL_bounds_369 (by decide) ?_
      refine z_istore (L' := [(7, z_i 0), (3, z_i 1), (6, z_i y4), (0, z_r 0), (1, z_i x1), (2, z_i x2), (4, z_i x4), (5, z_i x5)]) dL_bounds_370 (by decide) rfl ?_
      refine z_sub (L' := [(0, z_r 0), (1, z_i x1), (2, z_i x2), (3, z_i 1), (4, z_i x4), (5, z_i x5), (6, z_i y4), (7, z_i 0)]) [3, 4, 5, 1, 6, 7, 2, 0] rfl ?_
      exact h
    · replace h := h.2 c9
      refine z_iload_n 0 dL_bounds_208 rfl rfl ?_
      refine z_if_eq (tgt := 369) dL_bounds_209 (by decide) (fun c => absurd c (by decide)) (fun _ => ?_)
      refine z_iconst dL_bounds_212 (by decide) ?_
      refine z_istore (L' := [(7, z_i 0), (3, z_i 1), (6, z_i y4), (0, z_r 0), (1, z_i x1), (2, z_i x2), (4, z_i x4), (5, z_i x5)]) dL_bounds_213 (by decide) rfl ?_
      refine z_aload_n 3 dL_bounds_215 rfl rfl ?_
      refine z_iload 6 dL_bounds_216 rfl ?_
      refine z_iload 7 dL_bounds_218 rfl ?_
      refine z_callV (As := [z_i x4, z_i x5]) (rest := []) zmX8_wayLength znX8_wayLength zsX8_wayLength (show z_Cl[8]? = some (RX8, TX8, 9) from rfl) zlRL_181 ⟨Nat.le_of_ble_eq_true rfl, Nat.le_of_ble_eq_true rfl⟩ dL_bounds_220 hh0.1 rfl rfl (z_ai (z_ai z_a0)) (Nat.le_of_ble_eq_true rfl) (Nat.le_of_ble_eq_true rfl) ⟨rfl, rfl⟩ (z_CIm h ?_)
      intro y11 w10 h
      show z_Sem mL_bounds (sh.length, 0) 223 [(7, z_i 0), (3, z_i 1), (6, z_i y4), (0, z_r 0), (1, z_i x1), (2, z_i x2), (4, z_i x4), (5, z_i x5)] [z_i y11] (sh, w10) Q
      refine z_istore (L' := [(8, z_i y11), (7, z_i 0), (3, z_i 1), (6, z_i y4), (0, z_r 0), (1, z_i x1), (2, z_i x2), (4, z_i x4), (5, z_i x5)]) dL_bounds_223 (by decide) rfl ?_
      refine z_iconst dL_bounds_225 (by decide) ?_
      refine z_istore (L' := [(9, z_i 0), (8, z_i y11), (7, z_i 0), (3, z_i 1), (6, z_i y4), (0, z_r 0), (1, z_i x1), (2, z_i x2), (4, z_i x4), (5, z_i x5)]) dL_bounds_226 (by decide) rfl ?_
      refine z_sub (L' := [(0, z_r 0), (1, z_i x1), (2, z_i x2), (4, z_i x4), (5, z_i x5), (6, z_i y4), (7, z_i 0), (8, z_i y11), (9, z_i 0)]) [5, 6, 7, 8, 9, 4, 2, 1, 0] rfl ?_
      exact h
set_option maxRecDepth 100000 in
theorem t_L_bounds_372 {sh : List z_C} {w : Nat → Int → Int} {Q : Option z_V → z_S → Prop} {x1 : Int} {x2 : Int} {x4 : Int} {x5 : Int} {x6 : Int} {x7 : Int} (hh0 : z_isTG sh 0) (h : ((x1 ≤ x7 → (z_R (x5 + 1)) ∧ z_Sem mL_bounds (sh.length, 0) 161 [(0, z_r 0), (1, z_i x1), (2, z_i x2), (3, z_i 1), (4, z_i x4), (5, z_i (x5 + 1))] [] (sh, w) Q) ∧ (¬ x1 ≤ x7 → z_CI mX8_bound [z_r 0, z_i x4, z_i x7] sh w (fun y4 w3 => z_CI mX8_bound [z_r 0, z_i x7, z_i x5] sh w3 (fun y6 w5 => (z_R (y4 + y6)) ∧ (¬ (y4 + y6) < x6) ∧ (z_R (x7 + 1)) ∧ z_Sem mL_bounds (sh.length, 0) 372 [(0, z_r 0), (1, z_i x1), (2, z_i x2), (3, z_i 1), (4, z_i x4), (5, z_i x5), (6, z_i x6), (7, z_i (x7 + 1))] [] (sh, w5) Q))))) : z_Sem mL_bounds (sh.length, 0) 372 [(0, z_r 0), (1, z_i x1), (2, z_i x2), (3, z_i 1), (4, z_i x4), (5, z_i x5), (6, z_i x6), (7, z_i x7)] [] (sh, w) Q := by
  refine z_iload 7 dL_bounds_372 rfl ?_
  refine z_iload_n 1 dL_bounds_374 rfl rfl ?_
  refine z_icmp_ge (tgt := 416) dL_bounds_375 (by decide) (fun c1 => ?_) (fun c1 => ?_)
  · replace h := h.1 c1
    obtain ⟨q2, h⟩ := h
    refine z_iinc (L' := [(5, z_i (x5 + 1)), (0, z_r 0), (1, z_i x1), (2, z_i x2), (3, z_i 1), (4, z_i x4), (6, z_i x6), (7, z_i x7)]) 5 dL_bounds_416 rfl (by decide) rfl q2 ?_
    refine z_goto (tgt := 161) dL_bounds_419 (by decide) ?_
    refine z_sub (L' := [(0, z_r 0), (1, z_i x1), (2, z_i x2), (3, z_i 1), (4, z_i x4), (5, z_i (x5 + 1))]) [1, 2, 3, 4, 5, 0] rfl ?_
    exact h
  · replace h := h.2 c1
    refine z_iload_n 3 dL_bounds_378 rfl rfl ?_
    refine z_if_eq (tgt := 416) dL_bounds_379 (by decide) (fun c => absurd c (by decide)) (fun _ => ?_)
    refine z_iload 6 dL_bounds_382 rfl ?_
    refine z_aload_n 0 dL_bounds_384 rfl rfl ?_
    refine z_iload 4 dL_bounds_385 rfl ?_
    refine z_iload 7 dL_bounds_387 rfl ?_
    refine z_callV (As := [z_i x4, z_i x7]) (rest := [z_i x6]) zmX8_bound znX8_bound zsX8_bound (show z_Cl[8]? = some (RX8, TX8, 9) from rfl) zlRL_178 ⟨Nat.le_of_ble_eq_true rfl, Nat.le_of_ble_eq_true rfl⟩ dL_bounds_389 hh0.1 rfl rfl (z_ai (z_ai z_a0)) (Nat.le_of_ble_eq_true rfl) (Nat.le_of_ble_eq_true rfl) ⟨rfl, rfl⟩ (z_CIm h ?_)
    intro y4 w3 h
    show z_Sem mL_bounds (sh.length, 0) 392 [(0, z_r 0), (1, z_i x1), (2, z_i x2), (3, z_i 1), (4, z_i x4), (5, z_i x5), (6, z_i x6), (7, z_i x7)] [z_i y4, z_i x6] (sh, w3) Q
    refine z_aload_n 0 dL_bounds_392 rfl rfl ?_
    refine z_iload 7 dL_bounds_393 rfl ?_
    refine z_iload 5 dL_bounds_395 rfl ?_
    refine z_callV (As := [z_i x7, z_i x5]) (rest := [z_i y4, z_i x6]) zmX8_bound znX8_bound zsX8_bound (show z_Cl[8]? = some (RX8, TX8, 9) from rfl) zlRL_178 ⟨Nat.le_of_ble_eq_true rfl, Nat.le_of_ble_eq_true rfl⟩ dL_bounds_397 hh0.1 rfl rfl (z_ai (z_ai z_a0)) (Nat.le_of_ble_eq_true rfl) (Nat.le_of_ble_eq_true rfl) ⟨rfl, rfl⟩ (z_CIm h ?_)
    intro y6 w5 h
    show z_Sem mL_bounds (sh.length, 0) 400 [(0, z_r 0), (1, z_i x1), (2, z_i x2), (3, z_i 1), (4, z_i x4), (5, z_i x5), (6, z_i x6), (7, z_i x7)] [z_i y6, z_i y4, z_i x6] (sh, w5) Q
    obtain ⟨q7, h⟩ := h
    refine z_iadd dL_bounds_400 q7 ?_
    obtain ⟨q8, h⟩ := h
    refine z_icmp_gt (tgt := 408) dL_bounds_401 (by decide) (fun c => absurd c q8) (fun _ => ?_)
    refine z_iconst dL_bounds_404 (by decide) ?_
    refine z_goto (tgt := 409) dL_bounds_405 (by decide) ?_
    refine z_istore_n (L' := [(3, z_i 1), (0, z_r 0), (1, z_i x1), (2, z_i x2), (4, z_i x4), (5, z_i x5), (6, z_i x6), (7, z_i x7)]) dL_bounds_409 rfl (by decide) rfl ?_
    obtain ⟨q9, h⟩ := h
    refine z_iinc (L' := [(7, z_i (x7 + 1)), (3, z_i 1), (0, z_r 0), (1, z_i x1), (2, z_i x2), (4, z_i x4), (5, z_i x5), (6, z_i x6)]) 7 dL_bounds_410 rfl (by decide) rfl q9 ?_
    refine z_goto (tgt := 372) dL_bounds_413 (by decide) ?_
    refine z_sub (L' := [(0, z_r 0), (1, z_i x1), (2, z_i x2), (3, z_i 1), (4, z_i x4), (5, z_i x5), (6, z_i x6), (7, z_i (x7 + 1))]) [2, 3, 4, 1, 5, 6, 7, 0] rfl ?_
    exact h
set_option maxRecDepth 100000 in
theorem t_L_bounds_228 {sh : List z_C} {w : Nat → Int → Int} {Q : Option z_V → z_S → Prop} {x1 : Int} {x2 : Int} {x4 : Int} {x5 : Int} {x6 : Int} {x7 : Int} {x8 : Int} {x9 : Int} (hh0 : z_isTG sh 0) (h : ((x8 ≤ x9 → z_CI mX8_relation [z_r 0, z_i x4, z_i x5] sh w (fun y3 w2 => z_CI mX8_relation [z_r 0, z_i x5, z_i x4] sh w2 (fun y5 w4 => (x7 = x6) ∧ z_CI mX8_way [z_r 0, z_i x4, z_i x5, z_i x8] sh w4 (fun y8 w7 => (y8 = (-2)) ∧ z_CI mX8_play [z_r 0, z_i x4, z_i x5] sh w7 (fun y11 w10 => z_CI mX8_bound [z_r 0, z_i x5, z_i x4] sh w10 (fun y13 w12 => (z_R (x6 + y13)) ∧ (y11 = (x6 + y13)) ∧ (¬ y3 = 0 → (¬ y3 = 5 → (3 ≤ y3 → (z_R (7 - y3)) ∧ True) ∧ (¬ 3 ≤ y3 → (z_R (3 - y3)) ∧ True) ∧ True) ∧ True) ∧ (y5 = (if y3 = 0 then y3 else if y3 = 5 then y3 else if 3 ≤ y3 then 7 - y3 else 3 - y3)) ∧ z_Sem mL_bounds (sh.length, 0) 372 [(0, z_r 0), (1, z_i x1), (2, z_i x2), (3, z_i 1), (4, z_i x4), (5, z_i x5), (6, z_i x6), (7, z_i 0)] [] (sh, w12) Q)))))) ∧ (¬ x8 ≤ x9 → z_CI mX8_way [z_r 0, z_i x4, z_i x5, z_i x9] sh w (fun y36 w35 => z_CI mL_lengthOf [z_r 0, z_i y36] sh w35 (fun y38 w37 => (z_R (x7 + y38)) ∧ (z_R (x9 + 1)) ∧ z_Sem mL_bounds (sh.length, 0) 228 [(0, z_r 0), (1, z_i x1), (2, z_i x2), (4, z_i x4), (5, z_i x5), (6, z_i x6), (7, z_i (x7 + y38)), (8, z_i x8), (9, z_i (x9 + 1))] [] (sh, w37) Q))))) : z_Sem mL_bounds (sh.length, 0) 228 [(0, z_r 0), (1, z_i x1), (2, z_i x2), (4, z_i x4), (5, z_i x5), (6, z_i x6), (7, z_i x7), (8, z_i x8), (9, z_i x9)] [] (sh, w) Q := by
  refine z_iload 8 dL_bounds_228 rfl ?_
  refine z_iload 7 dL_bounds_230 rfl ?_
  refine z_icmp_ge (tgt := 260) dL_bounds_232 (by decide) (fun c1 => ?_) (fun c1 => ?_)
  · replace h := h.1 c1
    refine z_aload_n 0 dL_bounds_260 rfl rfl ?_
    refine z_iload 3 dL_bounds_261 rfl ?_
    refine z_iload 4 dL_bounds_263 rfl ?_
    refine z_callV (As := [z_i x4, z_i x5]) (rest := []) zmX8_relation znX8_relation zsX8_relation (show z_Cl[8]? = some (RX8, TX8, 9) from rfl) zlRL_192 ⟨Nat.le_of_ble_eq_true rfl, Nat.le_of_ble_eq_true rfl⟩ dL_bounds_265 hh0.1 rfl rfl (z_ai (z_ai z_a0)) (Nat.le_of_ble_eq_true rfl) (Nat.le_of_ble_eq_true rfl) ⟨rfl, rfl⟩ (z_CIm h ?_)
    intro y3 w2 h
    show z_Sem mL_bounds (sh.length, 0) 268 [(0, z_r 0), (1, z_i x1), (2, z_i x2), (4, z_i x4), (5, z_i x5), (6, z_i x6), (7, z_i x7), (8, z_i x8), (9, z_i x9)] [z_i y3] (sh, w2) Q
    refine z_istore (L' := [(9, z_i y3), (0, z_r 0), (1, z_i x1), (2, z_i x2), (4, z_i x4), (5, z_i x5), (6, z_i x6), (7, z_i x7), (8, z_i x8)]) dL_bounds_268 (by decide) rfl ?_
    refine z_aload_n 1 dL_bounds_270 rfl rfl ?_
    refine z_iload 5 dL_bounds_271 rfl ?_
    refine z_iload 4 dL_bounds_273 rfl ?_
    refine z_callV (As := [z_i x5, z_i x4]) (rest := []) zmX8_relation znX8_relation zsX8_relation (show z_Cl[8]? = some (RX8, TX8, 9) from rfl) zlRL_192 ⟨Nat.le_of_ble_eq_true rfl, Nat.le_of_ble_eq_true rfl⟩ dL_bounds_275 hh0.1 rfl rfl (z_ai (z_ai z_a0)) (Nat.le_of_ble_eq_true rfl) (Nat.le_of_ble_eq_true rfl) ⟨rfl, rfl⟩ (z_CIm h ?_)
    intro y5 w4 h
    show z_Sem mL_bounds (sh.length, 0) 278 [(9, z_i y3), (0, z_r 0), (1, z_i x1), (2, z_i x2), (4, z_i x4), (5, z_i x5), (6, z_i x6), (7, z_i x7), (8, z_i x8)] [z_i y5] (sh, w4) Q
    refine z_istore (L' := [(10, z_i y5), (9, z_i y3), (0, z_r 0), (1, z_i x1), (2, z_i x2), (4, z_i x4), (5, z_i x5), (6, z_i x6), (7, z_i x7), (8, z_i x8)]) dL_bounds_278 (by decide) rfl ?_
    refine z_iload 8 dL_bounds_280 rfl ?_
    refine z_iload 7 dL_bounds_282 rfl ?_
    obtain ⟨q6, h⟩ := h
    refine z_icmp_ne (tgt := 367) dL_bounds_284 (by decide) (fun c => absurd q6 c) (fun _ => ?_)
    refine z_aload_n 2 dL_bounds_287 rfl rfl ?_
    refine z_iload 5 dL_bounds_288 rfl ?_
    refine z_iload 6 dL_bounds_290 rfl ?_
    refine z_iload 9 dL_bounds_292 rfl ?_
    refine z_callV (As := [z_i x4, z_i x5, z_i x8]) (rest := []) zmX8_way znX8_way zsX8_way (show z_Cl[8]? = some (RX8, TX8, 9) from rfl) zlRL_184 ⟨Nat.le_of_ble_eq_true rfl, Nat.le_of_ble_eq_true rfl⟩ dL_bounds_294 hh0.1 rfl rfl (z_ai (z_ai (z_ai z_a0))) (Nat.le_of_ble_eq_true rfl) (Nat.le_of_ble_eq_true rfl) ⟨rfl, rfl⟩ (z_CIm h ?_)
    intro y8 w7 h
    show z_Sem mL_bounds (sh.length, 0) 297 [(10, z_i y5), (9, z_i y3), (0, z_r 0), (1, z_i x1), (2, z_i x2), (4, z_i x4), (5, z_i x5), (6, z_i x6), (7, z_i x7), (8, z_i x8)] [z_i y8] (sh, w7) Q
    refine z_bipush dL_bounds_297 (by decide) (by decide) ?_
    obtain ⟨q9, h⟩ := h
    refine z_icmp_ne (tgt := 367) dL_bounds_299 (by decide) (fun c => absurd q9 c) (fun _ => ?_)
    refine z_aload_n 2 dL_bounds_302 rfl rfl ?_
    refine z_iload 5 dL_bounds_303 rfl ?_
    refine z_iload 6 dL_bounds_305 rfl ?_
    refine z_callV (As := [z_i x4, z_i x5]) (rest := []) zmX8_play znX8_play zsX8_play (show z_Cl[8]? = some (RX8, TX8, 9) from rfl) zlRL_195 ⟨Nat.le_of_ble_eq_true rfl, Nat.le_of_ble_eq_true rfl⟩ dL_bounds_307 hh0.1 rfl rfl (z_ai (z_ai z_a0)) (Nat.le_of_ble_eq_true rfl) (Nat.le_of_ble_eq_true rfl) ⟨rfl, rfl⟩ (z_CIm h ?_)
    intro y11 w10 h
    show z_Sem mL_bounds (sh.length, 0) 310 [(10, z_i y5), (9, z_i y3), (0, z_r 0), (1, z_i x1), (2, z_i x2), (4, z_i x4), (5, z_i x5), (6, z_i x6), (7, z_i x7), (8, z_i x8)] [z_i y11] (sh, w10) Q
    refine z_iload 7 dL_bounds_310 rfl ?_
    refine z_aload_n 2 dL_bounds_312 rfl rfl ?_
    refine z_iload 6 dL_bounds_313 rfl ?_
    refine z_iload 5 dL_bounds_315 rfl ?_
    refine z_callV (As := [z_i x5, z_i x4]) (rest := [z_i x6, z_i y11]) zmX8_bound znX8_bound zsX8_bound (show z_Cl[8]? = some (RX8, TX8, 9) from rfl) zlRL_178 ⟨Nat.le_of_ble_eq_true rfl, Nat.le_of_ble_eq_true rfl⟩ dL_bounds_317 hh0.1 rfl rfl (z_ai (z_ai z_a0)) (Nat.le_of_ble_eq_true rfl) (Nat.le_of_ble_eq_true rfl) ⟨rfl, rfl⟩ (z_CIm h ?_)
    intro y13 w12 h
    show z_Sem mL_bounds (sh.length, 0) 320 [(10, z_i y5), (9, z_i y3), (0, z_r 0), (1, z_i x1), (2, z_i x2), (4, z_i x4), (5, z_i x5), (6, z_i x6), (7, z_i x7), (8, z_i x8)] [z_i y13, z_i x6, z_i y11] (sh, w12) Q
    obtain ⟨q14, h⟩ := h
    refine z_iadd dL_bounds_320 q14 ?_
    obtain ⟨q15, h⟩ := h
    refine z_icmp_ne (tgt := 367) dL_bounds_321 (by decide) (fun c => absurd q15 c) (fun _ => ?_)
    refine z_iload 0 dL_bounds_324 rfl ?_
    refine z_iload 1 dL_bounds_326 rfl ?_
    obtain ⟨m18, h⟩ := h
    suffices hJ16 : z_Sem mL_bounds (sh.length, 0) 360 [(0, z_r 0), (1, z_i x1), (2, z_i x2), (4, z_i x4), (5, z_i x5), (6, z_i x6)] [z_i (if y3 = 0 then y3 else if y3 = 5 then y3 else if 3 ≤ y3 then 7 - y3 else 3 - y3), z_i y5] (sh, w12) Q by
      refine z_if_eq (tgt := 337) dL_bounds_328 (by decide) (fun c17 => ?_) (fun c17 => ?_)
      · skip
        refine z_iload 1 dL_bounds_337 rfl ?_
        refine z_goto (tgt := 360) dL_bounds_339 (by decide) ?_
        refine z_sub (L' := [(0, z_r 0), (1, z_i x1), (2, z_i x2), (4, z_i x4), (5, z_i x5), (6, z_i x6)]) [2, 3, 4, 5, 6, 7] rfl ?_
        simp only [if_pos c17] at hJ16
        exact hJ16
      · skip
        have ho20 := m18 c17
        refine z_iload 1 dL_bounds_331 rfl ?_
        refine z_iconst dL_bounds_333 (by decide) ?_
        obtain ⟨m23, ho20⟩ := ho20
        suffices hJ21 : z_Sem mL_bounds (sh.length, 0) 360 [(0, z_r 0), (1, z_i x1), (2, z_i x2), (4, z_i x4), (5, z_i x5), (6, z_i x6)] [z_i (if y3 = 5 then y3 else if 3 ≤ y3 then 7 - y3 else 3 - y3), z_i y5] (sh, w12) Q by
          refine z_icmp_ne (tgt := 342) dL_bounds_334 (by decide) (fun c22 => ?_) (fun c22 => ?_)
          · skip
            have ho24 := m23 c22
            refine z_iload 1 dL_bounds_342 rfl ?_
            refine z_iconst dL_bounds_344 (by decide) ?_
            obtain ⟨m27, m28, ho24⟩ := ho24
            suffices hJ25 : z_Sem mL_bounds (sh.length, 0) 360 [(0, z_r 0), (1, z_i x1), (2, z_i x2), (4, z_i x4), (5, z_i x5), (6, z_i x6)] [z_i (if 3 ≤ y3 then 7 - y3 else 3 - y3), z_i y5] (sh, w12) Q by
              refine z_icmp_ge (tgt := 355) dL_bounds_345 (by decide) (fun c26 => ?_) (fun c26 => ?_)
              · skip
                have ho29 := m27 c26
                refine z_bipush dL_bounds_355 (by decide) (by decide) ?_
                refine z_iload 1 dL_bounds_357 rfl ?_
                obtain ⟨q30, ho29⟩ := ho29
                refine z_isub dL_bounds_359 q30 ?_
                refine z_sub (L' := [(0, z_r 0), (1, z_i x1), (2, z_i x2), (4, z_i x4), (5, z_i x5), (6, z_i x6)]) [2, 3, 4, 5, 6, 7] rfl ?_
                simp only [if_pos c26] at hJ25
                exact hJ25
              · skip
                have ho31 := m28 c26
                refine z_iconst dL_bounds_348 (by decide) ?_
                refine z_iload 1 dL_bounds_349 rfl ?_
                obtain ⟨q32, ho31⟩ := ho31
                refine z_isub dL_bounds_351 q32 ?_
                refine z_goto (tgt := 360) dL_bounds_352 (by decide) ?_
                refine z_sub (L' := [(0, z_r 0), (1, z_i x1), (2, z_i x2), (4, z_i x4), (5, z_i x5), (6, z_i x6)]) [2, 3, 4, 5, 6, 7] rfl ?_
                simp only [if_neg c26] at hJ25
                exact hJ25
            simp only [if_neg c22] at hJ21
            exact hJ21
          · skip
            refine z_iload 1 dL_bounds_337 rfl ?_
            refine z_goto (tgt := 360) dL_bounds_339 (by decide) ?_
            refine z_sub (L' := [(0, z_r 0), (1, z_i x1), (2, z_i x2), (4, z_i x4), (5, z_i x5), (6, z_i x6)]) [2, 3, 4, 5, 6, 7] rfl ?_
            simp only [if_pos c22] at hJ21
            exact hJ21
        simp only [if_neg c17] at hJ16
        exact hJ16
    obtain ⟨q34, h⟩ := h
    refine z_icmp_ne (tgt := 367) dL_bounds_360 (by decide) (fun c => absurd q34 c) (fun _ => ?_)
    refine z_iconst dL_bounds_363 (by decide) ?_
    refine z_goto (tgt := 368) dL_bounds_364 (by decide) ?_
    refine z_istore_n (L' := [(3, z_i 1), (0, z_r 0), (1, z_i x1), (2, z_i x2), (4, z_i x4), (5, z_i x5), (6, z_i x6)]) dL_bounds_368 rfl (by decide) rfl ?_
    refine z_iconst dL_bounds_369 (by decide) ?_
    refine z_istore (L' := [(7, z_i 0), (3, z_i 1), (0, z_r 0), (1, z_i x1), (2, z_i x2), (4, z_i x4), (5, z_i x5), (6, z_i x6)]) dL_bounds_370 (by decide) rfl ?_
    refine z_sub (L' := [(0, z_r 0), (1, z_i x1), (2, z_i x2), (3, z_i 1), (4, z_i x4), (5, z_i x5), (6, z_i x6), (7, z_i 0)]) [2, 3, 4, 1, 5, 6, 7, 0] rfl ?_
    exact h
  · replace h := h.2 c1
    refine z_iload 6 dL_bounds_235 rfl ?_
    refine z_aload_n 0 dL_bounds_237 rfl rfl ?_
    refine z_aload_n 0 dL_bounds_238 rfl rfl ?_
    refine z_iload 3 dL_bounds_239 rfl ?_
    refine z_iload 4 dL_bounds_241 rfl ?_
    refine z_iload 8 dL_bounds_243 rfl ?_
    refine z_callV (As := [z_i x4, z_i x5, z_i x9]) (rest := [z_r 0, z_i x7]) zmX8_way znX8_way zsX8_way (show z_Cl[8]? = some (RX8, TX8, 9) from rfl) zlRL_184 ⟨Nat.le_of_ble_eq_true rfl, Nat.le_of_ble_eq_true rfl⟩ dL_bounds_245 hh0.1 rfl rfl (z_ai (z_ai (z_ai z_a0))) (Nat.le_of_ble_eq_true rfl) (Nat.le_of_ble_eq_true rfl) ⟨rfl, rfl⟩ (z_CIm h ?_)
    intro y36 w35 h
    show z_Sem mL_bounds (sh.length, 0) 248 [(0, z_r 0), (1, z_i x1), (2, z_i x2), (4, z_i x4), (5, z_i x5), (6, z_i x6), (7, z_i x7), (8, z_i x8), (9, z_i x9)] [z_i y36, z_r 0, z_i x7] (sh, w35) Q
    refine z_callS (As := [z_r 0, z_i y36]) (rest := [z_i x7]) zmL_lengthOf ztL_lengthOf zlRL_188 ⟨Nat.le_of_ble_eq_true rfl, Nat.le_of_ble_eq_true rfl⟩ dL_bounds_248 rfl rfl (z_ar (z_ai z_a0)) (Nat.le_of_ble_eq_true rfl) (Nat.le_of_ble_eq_true rfl) ⟨rfl, rfl⟩ (z_CIm h ?_)
    intro y38 w37 h
    show z_Sem mL_bounds (sh.length, 0) 251 [(0, z_r 0), (1, z_i x1), (2, z_i x2), (4, z_i x4), (5, z_i x5), (6, z_i x6), (7, z_i x7), (8, z_i x8), (9, z_i x9)] [z_i y38, z_i x7] (sh, w37) Q
    obtain ⟨q39, h⟩ := h
    refine z_iadd dL_bounds_251 q39 ?_
    refine z_istore (L' := [(7, z_i (x7 + y38)), (0, z_r 0), (1, z_i x1), (2, z_i x2), (4, z_i x4), (5, z_i x5), (6, z_i x6), (8, z_i x8), (9, z_i x9)]) dL_bounds_252 (by decide) rfl ?_
    obtain ⟨q40, h⟩ := h
    refine z_iinc (L' := [(9, z_i (x9 + 1)), (7, z_i (x7 + y38)), (0, z_r 0), (1, z_i x1), (2, z_i x2), (4, z_i x4), (5, z_i x5), (6, z_i x6), (8, z_i x8)]) 8 dL_bounds_254 rfl (by decide) rfl q40 ?_
    refine z_goto (tgt := 228) dL_bounds_257 (by decide) ?_
    refine z_sub (L' := [(0, z_r 0), (1, z_i x1), (2, z_i x2), (4, z_i x4), (5, z_i x5), (6, z_i x6), (7, z_i (x7 + y38)), (8, z_i x8), (9, z_i (x9 + 1))]) [2, 3, 4, 5, 6, 7, 1, 8, 0] rfl ?_
    exact h
set_option maxRecDepth 100000 in
theorem t_L_gaps {sh : List z_C} {w : Nat → Int → Int} {Q : Option z_V → z_S → Prop} {a1 : Nat} {a2 : Nat} {a3 : Nat} (hh0 : z_isTG sh 0) (hh1 : sh[a1]? = some (.inr (.inl (0, 8)))) (hh2 : sh[a2]? = some (.inr (.inl (0, 400)))) (hh3 : sh[a3]? = some (.inr (.inl (0, 400)))) (h : z_CI mL_draw [z_r a1] sh w (fun y2 w1 => z_CI mX8_value [z_r 0, z_i 1] sh w1 (fun y4 w3 => ((0 : Int) < y4) ∧ (z_R ((y2.tmod y4) + 1)) ∧ z_CI mL_draw [z_r a1] sh w3 (fun y8 w7 => z_CI mX8_value [z_r 0, z_i 1] sh w7 (fun y10 w9 => (z_R (y10 - 1)) ∧ ((0 : Int) < (f_J9_max_7cf53 w9 1 (y10 - 1))) ∧ (z_R (((y2.tmod y4) + 1) + (y8.tmod (f_J9_max_7cf53 w9 1 (y10 - 1))))) ∧ z_CI mX8_value [z_r 0, z_i 1] sh w9 (fun y15 w14 => ((0 : Int) < y15) ∧ ∀ y17 : Int, y17 = ((((y2.tmod y4) + 1) + (y8.tmod (f_J9_max_7cf53 w9 1 (y10 - 1)))).tmod y15) → z_CI mL_draw [z_r a1] sh w14 (fun y19 w18 => z_CI mL_draw [z_r a1] sh w18 (fun y21 w20 => (((y2.tmod y4) = y17 → Q (some (z_i 1)) (sh, w20)) ∧ (¬ (y2.tmod y4) = y17 → z_CI mX8_value [z_r 0, z_i 2] sh w20 (fun y24 w23 => ((y24 = 24 → Q (some (z_i 1)) (sh, w23)) ∧ (¬ y24 = 24 → z_CI mL_tells [z_r 0, z_r a2] sh w23 (fun y27 w26 => z_CI mX8_why [z_r 0, z_i (y2.tmod y4), z_i y17, z_i (y19.tmod 2), z_i (y21.tmod 60), z_i 0] sh w26 (fun y29 w28 => z_CI mX8_why [z_r 0, z_i (y2.tmod y4), z_i y17, z_i (y19.tmod 2), z_i (y21.tmod 60), z_i 1] sh w28 (fun y31 w30 => z_CI mX8_ifTold [z_r 0, z_i (y2.tmod y4), z_i y17, z_i (y19.tmod 2), z_i (y21.tmod 60), z_i 0] sh w30 (fun y33 w32 => z_CI mX8_ifTold [z_r 0, z_i (y2.tmod y4), z_i y17, z_i (y19.tmod 2), z_i (y21.tmod 60), z_i 1] sh w32 (fun y35 w34 => z_CI mX8_ifTold [z_r 0, z_i (y2.tmod y4), z_i y17, z_i (y19.tmod 2), z_i (y21.tmod 60), z_i 2] sh w34 (fun y37 w36 => z_CI mX8_culprit [z_r 0, z_i (y2.tmod y4), z_i y17, z_i (y19.tmod 2), z_i (y21.tmod 60)] sh w36 (fun y39 w38 => z_CI mX8_tightest [z_r 0, z_i (y2.tmod y4), z_i y17, z_i (y19.tmod 2)] sh w38 (fun y41 w40 => z_CI mL_isAs [z_r 0, z_r a2, z_i y27, z_r a3] sh w40 (fun y43 w42 => (¬ y43 = 0) ∧ ((if y29 = 0 then (1 : Int) else 0) = (if y31 = (-2) then (1 : Int) else 0)) ∧ (y29 = 0 → (¬ y33 < 0) ∧ (¬ y33 < y35) ∧ True) ∧ (¬ y29 = 0 → (y33 = (-5)) ∧ (y37 = (-5)) ∧ (y35 = (-5)) ∧ (¬ y31 ≤ 0) ∧ True) ∧ ((y29 ≤ 0 → z_Sem mL_gaps (sh.length, 0) 516 [(0, z_r 0), (2, z_r a2), (3, z_r a3), (4, z_i (y2.tmod y4)), (5, z_i y17), (6, z_i (y19.tmod 2)), (7, z_i (y21.tmod 60)), (8, z_i y27), (9, z_i y29), (13, z_i y37), (15, z_i y41), (16, z_i 1)] [] (sh, w42) Q) ∧ (¬ y29 ≤ 0 → ∀ y71 : Int, y71 = (if (y19.tmod 2) = 0 then y17 else y2.tmod y4) → ∀ y76 : Int, y76 = (if (y19.tmod 2) = 0 then y2.tmod y4 else y17) → (¬ (y19.tmod 2) = 0 → (z_R (-(y21.tmod 60))) ∧ True) ∧ ∀ y83 : Int, y83 = (if (y19.tmod 2) = 0 then y21.tmod 60 else -(y21.tmod 60)) → z_Sem mL_gaps (sh.length, 0) 330 [(0, z_r 0), (2, z_r a2), (3, z_r a3), (4, z_i (y2.tmod y4)), (5, z_i y17), (6, z_i (y19.tmod 2)), (7, z_i (y21.tmod 60)), (8, z_i y27), (9, z_i y29), (10, z_i y31), (13, z_i y37), (14, z_i y39), (15, z_i y41), (17, z_i y71), (18, z_i y76), (19, z_i y83), (20, z_i 0)] [] (sh, w42) Q)))))))))))))))))))))))) : z_Sem mL_gaps (sh.length, 0) 0 [(0, z_r 0), (1, z_r a1), (2, z_r a2), (3, z_r a3)] [] (sh, w) Q := by
  refine z_aload_n 1 dL_gaps_0 rfl rfl ?_
  refine z_callS (As := [z_r a1]) (rest := []) zmL_draw ztL_draw zlRL_62 ⟨Nat.le_of_ble_eq_true rfl, Nat.le_of_ble_eq_true rfl⟩ dL_gaps_1 rfl rfl (z_ar z_a0) (Nat.le_of_ble_eq_true rfl) (Nat.le_of_ble_eq_true rfl) ⟨rfl, rfl⟩ (z_CIm h ?_)
  intro y2 w1 h
  show z_Sem mL_gaps (sh.length, 0) 4 [(0, z_r 0), (1, z_r a1), (2, z_r a2), (3, z_r a3)] [z_i y2] (sh, w1) Q
  refine z_aload_n 0 dL_gaps_4 rfl rfl ?_
  refine z_iconst dL_gaps_5 (by decide) ?_
  refine z_callV (As := [z_i 1]) (rest := [z_i y2]) zmX8_value znX8_value zsX8_value (show z_Cl[8]? = some (RX8, TX8, 9) from rfl) zlRL_103 ⟨Nat.le_of_ble_eq_true rfl, Nat.le_of_ble_eq_true rfl⟩ dL_gaps_6 hh0.1 rfl rfl (z_ai z_a0) (Nat.le_of_ble_eq_true rfl) (Nat.le_of_ble_eq_true rfl) ⟨rfl, rfl⟩ (z_CIm h ?_)
  intro y4 w3 h
  show z_Sem mL_gaps (sh.length, 0) 9 [(0, z_r 0), (1, z_r a1), (2, z_r a2), (3, z_r a3)] [z_i y4, z_i y2] (sh, w3) Q
  obtain ⟨q5, h⟩ := h
  refine z_irem dL_gaps_9 q5 ?_
  refine z_istore (L' := [(4, z_i (y2.tmod y4)), (0, z_r 0), (1, z_r a1), (2, z_r a2), (3, z_r a3)]) dL_gaps_10 (by decide) rfl ?_
  refine z_iload 0 dL_gaps_12 rfl ?_
  refine z_iconst dL_gaps_14 (by decide) ?_
  obtain ⟨q6, h⟩ := h
  refine z_iadd dL_gaps_15 q6 ?_
  refine z_aload_n 2 dL_gaps_16 rfl rfl ?_
  refine z_callS (As := [z_r a1]) (rest := [z_i ((y2.tmod y4) + 1)]) zmL_draw ztL_draw zlRL_62 ⟨Nat.le_of_ble_eq_true rfl, Nat.le_of_ble_eq_true rfl⟩ dL_gaps_17 rfl rfl (z_ar z_a0) (Nat.le_of_ble_eq_true rfl) (Nat.le_of_ble_eq_true rfl) ⟨rfl, rfl⟩ (z_CIm h ?_)
  intro y8 w7 h
  show z_Sem mL_gaps (sh.length, 0) 20 [(4, z_i (y2.tmod y4)), (0, z_r 0), (1, z_r a1), (2, z_r a2), (3, z_r a3)] [z_i y8, z_i ((y2.tmod y4) + 1)] (sh, w7) Q
  refine z_iconst dL_gaps_20 (by decide) ?_
  refine z_aload_n 1 dL_gaps_21 rfl rfl ?_
  refine z_iconst dL_gaps_22 (by decide) ?_
  refine z_callV (As := [z_i 1]) (rest := [z_i 1, z_i y8, z_i ((y2.tmod y4) + 1)]) zmX8_value znX8_value zsX8_value (show z_Cl[8]? = some (RX8, TX8, 9) from rfl) zlRL_103 ⟨Nat.le_of_ble_eq_true rfl, Nat.le_of_ble_eq_true rfl⟩ dL_gaps_23 hh0.1 rfl rfl (z_ai z_a0) (Nat.le_of_ble_eq_true rfl) (Nat.le_of_ble_eq_true rfl) ⟨rfl, rfl⟩ (z_CIm h ?_)
  intro y10 w9 h
  show z_Sem mL_gaps (sh.length, 0) 26 [(4, z_i (y2.tmod y4)), (0, z_r 0), (1, z_r a1), (2, z_r a2), (3, z_r a3)] [z_i y10, z_i 1, z_i y8, z_i ((y2.tmod y4) + 1)] (sh, w9) Q
  refine z_iconst dL_gaps_26 (by decide) ?_
  obtain ⟨q11, h⟩ := h
  refine z_isub dL_gaps_27 q11 ?_
  refine z_callS (As := [z_i 1, z_i (y10 - 1)]) (rest := [z_i y8, z_i ((y2.tmod y4) + 1)]) zmJ9_max_7cf53 ztJ9_max_7cf53 zlRL_81 ⟨Nat.le_of_ble_eq_true rfl, Nat.le_of_ble_eq_true rfl⟩ dL_gaps_28 rfl rfl (z_ai (z_ai z_a0)) (Nat.le_of_ble_eq_true rfl) (Nat.le_of_ble_eq_true rfl) ⟨rfl, rfl⟩ ?_
  refine t_J9_max_7cf53  ?_
  show z_Sem mL_gaps (sh.length, 0) 31 [(4, z_i (y2.tmod y4)), (0, z_r 0), (1, z_r a1), (2, z_r a2), (3, z_r a3)] [z_i (f_J9_max_7cf53 w9 1 (y10 - 1)), z_i y8, z_i ((y2.tmod y4) + 1)] (sh, w9) Q
  obtain ⟨q12, h⟩ := h
  refine z_irem dL_gaps_31 q12 ?_
  obtain ⟨q13, h⟩ := h
  refine z_iadd dL_gaps_32 q13 ?_
  refine z_aload_n 1 dL_gaps_33 rfl rfl ?_
  refine z_iconst dL_gaps_34 (by decide) ?_
  refine z_callV (As := [z_i 1]) (rest := [z_i (((y2.tmod y4) + 1) + (y8.tmod (f_J9_max_7cf53 w9 1 (y10 - 1))))]) zmX8_value znX8_value zsX8_value (show z_Cl[8]? = some (RX8, TX8, 9) from rfl) zlRL_103 ⟨Nat.le_of_ble_eq_true rfl, Nat.le_of_ble_eq_true rfl⟩ dL_gaps_35 hh0.1 rfl rfl (z_ai z_a0) (Nat.le_of_ble_eq_true rfl) (Nat.le_of_ble_eq_true rfl) ⟨rfl, rfl⟩ (z_CIm h ?_)
  intro y15 w14 h
  show z_Sem mL_gaps (sh.length, 0) 38 [(4, z_i (y2.tmod y4)), (0, z_r 0), (1, z_r a1), (2, z_r a2), (3, z_r a3)] [z_i y15, z_i (((y2.tmod y4) + 1) + (y8.tmod (f_J9_max_7cf53 w9 1 (y10 - 1))))] (sh, w14) Q
  obtain ⟨q16, h⟩ := h
  refine z_irem dL_gaps_38 q16 ?_
  refine z_nam (fun y17 hy17 => ?_)
  replace h := h y17 hy17
  refine z_istore (L' := [(5, z_i y17), (4, z_i (y2.tmod y4)), (0, z_r 0), (1, z_r a1), (2, z_r a2), (3, z_r a3)]) dL_gaps_39 (by decide) rfl ?_
  refine z_aload_n 3 dL_gaps_41 rfl rfl ?_
  refine z_callS (As := [z_r a1]) (rest := []) zmL_draw ztL_draw zlRL_62 ⟨Nat.le_of_ble_eq_true rfl, Nat.le_of_ble_eq_true rfl⟩ dL_gaps_42 rfl rfl (z_ar z_a0) (Nat.le_of_ble_eq_true rfl) (Nat.le_of_ble_eq_true rfl) ⟨rfl, rfl⟩ (z_CIm h ?_)
  intro y19 w18 h
  show z_Sem mL_gaps (sh.length, 0) 45 [(5, z_i y17), (4, z_i (y2.tmod y4)), (0, z_r 0), (1, z_r a1), (2, z_r a2), (3, z_r a3)] [z_i y19] (sh, w18) Q
  refine z_iconst dL_gaps_45 (by decide) ?_
  refine z_irem dL_gaps_46 (by decide) ?_
  refine z_istore (L' := [(6, z_i (y19.tmod 2)), (5, z_i y17), (4, z_i (y2.tmod y4)), (0, z_r 0), (1, z_r a1), (2, z_r a2), (3, z_r a3)]) dL_gaps_47 (by decide) rfl ?_
  refine z_aload_n 4 dL_gaps_49 rfl rfl ?_
  refine z_callS (As := [z_r a1]) (rest := []) zmL_draw ztL_draw zlRL_62 ⟨Nat.le_of_ble_eq_true rfl, Nat.le_of_ble_eq_true rfl⟩ dL_gaps_50 rfl rfl (z_ar z_a0) (Nat.le_of_ble_eq_true rfl) (Nat.le_of_ble_eq_true rfl) ⟨rfl, rfl⟩ (z_CIm h ?_)
  intro y21 w20 h
  show z_Sem mL_gaps (sh.length, 0) 53 [(6, z_i (y19.tmod 2)), (5, z_i y17), (4, z_i (y2.tmod y4)), (0, z_r 0), (1, z_r a1), (2, z_r a2), (3, z_r a3)] [z_i y21] (sh, w20) Q
  refine z_bipush dL_gaps_53 (by decide) (by decide) ?_
  refine z_irem dL_gaps_55 (by decide) ?_
  refine z_istore (L' := [(7, z_i (y21.tmod 60)), (6, z_i (y19.tmod 2)), (5, z_i y17), (4, z_i (y2.tmod y4)), (0, z_r 0), (1, z_r a1), (2, z_r a2), (3, z_r a3)]) dL_gaps_56 (by decide) rfl ?_
  refine z_iload 3 dL_gaps_58 rfl ?_
  refine z_iload 2 dL_gaps_60 rfl ?_
  refine z_icmp_eq (tgt := 75) dL_gaps_62 (by decide) (fun c22 => ?_) (fun c22 => ?_)
  · replace h := h.1 c22
    refine z_iconst dL_gaps_75 (by decide) ?_
    exact z_ret (v := some (z_i 1)) dL_gaps_76 ⟨rfl, Or.inr (Or.inl ⟨rfl, (by decide)⟩)⟩ rfl h
  · replace h := h.2 c22
    refine z_aload_n 4 dL_gaps_65 rfl rfl ?_
    refine z_iconst dL_gaps_66 (by decide) ?_
    refine z_callV (As := [z_i 2]) (rest := []) zmX8_value znX8_value zsX8_value (show z_Cl[8]? = some (RX8, TX8, 9) from rfl) zlRL_103 ⟨Nat.le_of_ble_eq_true rfl, Nat.le_of_ble_eq_true rfl⟩ dL_gaps_67 hh0.1 rfl rfl (z_ai z_a0) (Nat.le_of_ble_eq_true rfl) (Nat.le_of_ble_eq_true rfl) ⟨rfl, rfl⟩ (z_CIm h ?_)
    intro y24 w23 h
    show z_Sem mL_gaps (sh.length, 0) 70 [(7, z_i (y21.tmod 60)), (6, z_i (y19.tmod 2)), (5, z_i y17), (4, z_i (y2.tmod y4)), (0, z_r 0), (1, z_r a1), (2, z_r a2), (3, z_r a3)] [z_i y24] (sh, w23) Q
    refine z_bipush dL_gaps_70 (by decide) (by decide) ?_
    refine z_icmp_ne (tgt := 77) dL_gaps_72 (by decide) (fun c25 => ?_) (fun c25 => ?_)
    · replace h := h.2 c25
      refine z_aload_n 4 dL_gaps_77 rfl rfl ?_
      refine z_aload_n 6 dL_gaps_78 rfl rfl ?_
      refine z_callS (As := [z_r 0, z_r a2]) (rest := []) zmL_tells ztL_tells zlRL_160 ⟨Nat.le_of_ble_eq_true rfl, Nat.le_of_ble_eq_true rfl⟩ dL_gaps_79 rfl rfl (z_ar (z_ar z_a0)) (Nat.le_of_ble_eq_true rfl) (Nat.le_of_ble_eq_true rfl) ⟨rfl, rfl⟩ (z_CIm h ?_)
      intro y27 w26 h
      show z_Sem mL_gaps (sh.length, 0) 82 [(7, z_i (y21.tmod 60)), (6, z_i (y19.tmod 2)), (5, z_i y17), (4, z_i (y2.tmod y4)), (0, z_r 0), (1, z_r a1), (2, z_r a2), (3, z_r a3)] [z_i y27] (sh, w26) Q
      refine z_istore (L' := [(8, z_i y27), (7, z_i (y21.tmod 60)), (6, z_i (y19.tmod 2)), (5, z_i y17), (4, z_i (y2.tmod y4)), (0, z_r 0), (1, z_r a1), (2, z_r a2), (3, z_r a3)]) dL_gaps_82 (by decide) rfl ?_
      refine z_aload_n 5 dL_gaps_84 rfl rfl ?_
      refine z_iload 4 dL_gaps_85 rfl ?_
      refine z_iload 3 dL_gaps_87 rfl ?_
      refine z_iload 2 dL_gaps_89 rfl ?_
      refine z_iload 1 dL_gaps_91 rfl ?_
      refine z_iconst dL_gaps_93 (by decide) ?_
      refine z_callV (As := [z_i (y2.tmod y4), z_i y17, z_i (y19.tmod 2), z_i (y21.tmod 60), z_i 0]) (rest := []) zmX8_why znX8_why zsX8_why (show z_Cl[8]? = some (RX8, TX8, 9) from rfl) zlRL_206 ⟨Nat.le_of_ble_eq_true rfl, Nat.le_of_ble_eq_true rfl⟩ dL_gaps_94 hh0.1 rfl rfl (z_ai (z_ai (z_ai (z_ai (z_ai z_a0))))) (Nat.le_of_ble_eq_true rfl) (Nat.le_of_ble_eq_true rfl) ⟨rfl, rfl⟩ (z_CIm h ?_)
      intro y29 w28 h
      show z_Sem mL_gaps (sh.length, 0) 97 [(8, z_i y27), (7, z_i (y21.tmod 60)), (6, z_i (y19.tmod 2)), (5, z_i y17), (4, z_i (y2.tmod y4)), (0, z_r 0), (1, z_r a1), (2, z_r a2), (3, z_r a3)] [z_i y29] (sh, w28) Q
      refine z_istore (L' := [(9, z_i y29), (8, z_i y27), (7, z_i (y21.tmod 60)), (6, z_i (y19.tmod 2)), (5, z_i y17), (4, z_i (y2.tmod y4)), (0, z_r 0), (1, z_r a1), (2, z_r a2), (3, z_r a3)]) dL_gaps_97 (by decide) rfl ?_
      refine z_aload_n 6 dL_gaps_99 rfl rfl ?_
      refine z_iload 5 dL_gaps_100 rfl ?_
      refine z_iload 4 dL_gaps_102 rfl ?_
      refine z_iload 3 dL_gaps_104 rfl ?_
      refine z_iload 2 dL_gaps_106 rfl ?_
      refine z_iconst dL_gaps_108 (by decide) ?_
      refine z_callV (As := [z_i (y2.tmod y4), z_i y17, z_i (y19.tmod 2), z_i (y21.tmod 60), z_i 1]) (rest := []) zmX8_why znX8_why zsX8_why (show z_Cl[8]? = some (RX8, TX8, 9) from rfl) zlRL_206 ⟨Nat.le_of_ble_eq_true rfl, Nat.le_of_ble_eq_true rfl⟩ dL_gaps_109 hh0.1 rfl rfl (z_ai (z_ai (z_ai (z_ai (z_ai z_a0))))) (Nat.le_of_ble_eq_true rfl) (Nat.le_of_ble_eq_true rfl) ⟨rfl, rfl⟩ (z_CIm h ?_)
      intro y31 w30 h
      show z_Sem mL_gaps (sh.length, 0) 112 [(9, z_i y29), (8, z_i y27), (7, z_i (y21.tmod 60)), (6, z_i (y19.tmod 2)), (5, z_i y17), (4, z_i (y2.tmod y4)), (0, z_r 0), (1, z_r a1), (2, z_r a2), (3, z_r a3)] [z_i y31] (sh, w30) Q
      refine z_istore (L' := [(10, z_i y31), (9, z_i y29), (8, z_i y27), (7, z_i (y21.tmod 60)), (6, z_i (y19.tmod 2)), (5, z_i y17), (4, z_i (y2.tmod y4)), (0, z_r 0), (1, z_r a1), (2, z_r a2), (3, z_r a3)]) dL_gaps_112 (by decide) rfl ?_
      refine z_aload_n 7 dL_gaps_114 rfl rfl ?_
      refine z_iload 6 dL_gaps_115 rfl ?_
      refine z_iload 5 dL_gaps_117 rfl ?_
      refine z_iload 4 dL_gaps_119 rfl ?_
      refine z_iload 3 dL_gaps_121 rfl ?_
      refine z_iconst dL_gaps_123 (by decide) ?_
      refine z_callV (As := [z_i (y2.tmod y4), z_i y17, z_i (y19.tmod 2), z_i (y21.tmod 60), z_i 0]) (rest := []) zmX8_ifTold znX8_ifTold zsX8_ifTold (show z_Cl[8]? = some (RX8, TX8, 9) from rfl) zlRL_209 ⟨Nat.le_of_ble_eq_true rfl, Nat.le_of_ble_eq_true rfl⟩ dL_gaps_124 hh0.1 rfl rfl (z_ai (z_ai (z_ai (z_ai (z_ai z_a0))))) (Nat.le_of_ble_eq_true rfl) (Nat.le_of_ble_eq_true rfl) ⟨rfl, rfl⟩ (z_CIm h ?_)
      intro y33 w32 h
      show z_Sem mL_gaps (sh.length, 0) 127 [(10, z_i y31), (9, z_i y29), (8, z_i y27), (7, z_i (y21.tmod 60)), (6, z_i (y19.tmod 2)), (5, z_i y17), (4, z_i (y2.tmod y4)), (0, z_r 0), (1, z_r a1), (2, z_r a2), (3, z_r a3)] [z_i y33] (sh, w32) Q
      refine z_istore (L' := [(11, z_i y33), (10, z_i y31), (9, z_i y29), (8, z_i y27), (7, z_i (y21.tmod 60)), (6, z_i (y19.tmod 2)), (5, z_i y17), (4, z_i (y2.tmod y4)), (0, z_r 0), (1, z_r a1), (2, z_r a2), (3, z_r a3)]) dL_gaps_127 (by decide) rfl ?_
      refine z_aload_n 8 dL_gaps_129 rfl rfl ?_
      refine z_iload 7 dL_gaps_130 rfl ?_
      refine z_iload 6 dL_gaps_132 rfl ?_
      refine z_iload 5 dL_gaps_134 rfl ?_
      refine z_iload 4 dL_gaps_136 rfl ?_
      refine z_iconst dL_gaps_138 (by decide) ?_
      refine z_callV (As := [z_i (y2.tmod y4), z_i y17, z_i (y19.tmod 2), z_i (y21.tmod 60), z_i 1]) (rest := []) zmX8_ifTold znX8_ifTold zsX8_ifTold (show z_Cl[8]? = some (RX8, TX8, 9) from rfl) zlRL_209 ⟨Nat.le_of_ble_eq_true rfl, Nat.le_of_ble_eq_true rfl⟩ dL_gaps_139 hh0.1 rfl rfl (z_ai (z_ai (z_ai (z_ai (z_ai z_a0))))) (Nat.le_of_ble_eq_true rfl) (Nat.le_of_ble_eq_true rfl) ⟨rfl, rfl⟩ (z_CIm h ?_)
      intro y35 w34 h
      show z_Sem mL_gaps (sh.length, 0) 142 [(11, z_i y33), (10, z_i y31), (9, z_i y29), (8, z_i y27), (7, z_i (y21.tmod 60)), (6, z_i (y19.tmod 2)), (5, z_i y17), (4, z_i (y2.tmod y4)), (0, z_r 0), (1, z_r a1), (2, z_r a2), (3, z_r a3)] [z_i y35] (sh, w34) Q
      refine z_istore (L' := [(12, z_i y35), (11, z_i y33), (10, z_i y31), (9, z_i y29), (8, z_i y27), (7, z_i (y21.tmod 60)), (6, z_i (y19.tmod 2)), (5, z_i y17), (4, z_i (y2.tmod y4)), (0, z_r 0), (1, z_r a1), (2, z_r a2), (3, z_r a3)]) dL_gaps_142 (by decide) rfl ?_
      refine z_aload_n 9 dL_gaps_144 rfl rfl ?_
      refine z_iload 8 dL_gaps_145 rfl ?_
      refine z_iload 7 dL_gaps_147 rfl ?_
      refine z_iload 6 dL_gaps_149 rfl ?_
      refine z_iload 5 dL_gaps_151 rfl ?_
      refine z_iconst dL_gaps_153 (by decide) ?_
      refine z_callV (As := [z_i (y2.tmod y4), z_i y17, z_i (y19.tmod 2), z_i (y21.tmod 60), z_i 2]) (rest := []) zmX8_ifTold znX8_ifTold zsX8_ifTold (show z_Cl[8]? = some (RX8, TX8, 9) from rfl) zlRL_209 ⟨Nat.le_of_ble_eq_true rfl, Nat.le_of_ble_eq_true rfl⟩ dL_gaps_154 hh0.1 rfl rfl (z_ai (z_ai (z_ai (z_ai (z_ai z_a0))))) (Nat.le_of_ble_eq_true rfl) (Nat.le_of_ble_eq_true rfl) ⟨rfl, rfl⟩ (z_CIm h ?_)
      intro y37 w36 h
      show z_Sem mL_gaps (sh.length, 0) 157 [(12, z_i y35), (11, z_i y33), (10, z_i y31), (9, z_i y29), (8, z_i y27), (7, z_i (y21.tmod 60)), (6, z_i (y19.tmod 2)), (5, z_i y17), (4, z_i (y2.tmod y4)), (0, z_r 0), (1, z_r a1), (2, z_r a2), (3, z_r a3)] [z_i y37] (sh, w36) Q
      refine z_istore (L' := [(13, z_i y37), (12, z_i y35), (11, z_i y33), (10, z_i y31), (9, z_i y29), (8, z_i y27), (7, z_i (y21.tmod 60)), (6, z_i (y19.tmod 2)), (5, z_i y17), (4, z_i (y2.tmod y4)), (0, z_r 0), (1, z_r a1), (2, z_r a2), (3, z_r a3)]) dL_gaps_157 (by decide) rfl ?_
      refine z_aload_n 10 dL_gaps_159 rfl rfl ?_
      refine z_iload 9 dL_gaps_160 rfl ?_
      refine z_iload 8 dL_gaps_162 rfl ?_
      refine z_iload 7 dL_gaps_164 rfl ?_
      refine z_iload 6 dL_gaps_166 rfl ?_
      refine z_callV (As := [z_i (y2.tmod y4), z_i y17, z_i (y19.tmod 2), z_i (y21.tmod 60)]) (rest := []) zmX8_culprit znX8_culprit zsX8_culprit (show z_Cl[8]? = some (RX8, TX8, 9) from rfl) zlRL_212 ⟨Nat.le_of_ble_eq_true rfl, Nat.le_of_ble_eq_true rfl⟩ dL_gaps_168 hh0.1 rfl rfl (z_ai (z_ai (z_ai (z_ai z_a0)))) (Nat.le_of_ble_eq_true rfl) (Nat.le_of_ble_eq_true rfl) ⟨rfl, rfl⟩ (z_CIm h ?_)
      intro y39 w38 h
      show z_Sem mL_gaps (sh.length, 0) 171 [(13, z_i y37), (12, z_i y35), (11, z_i y33), (10, z_i y31), (9, z_i y29), (8, z_i y27), (7, z_i (y21.tmod 60)), (6, z_i (y19.tmod 2)), (5, z_i y17), (4, z_i (y2.tmod y4)), (0, z_r 0), (1, z_r a1), (2, z_r a2), (3, z_r a3)] [z_i y39] (sh, w38) Q
      refine z_istore (L' := [(14, z_i y39), (13, z_i y37), (12, z_i y35), (11, z_i y33), (10, z_i y31), (9, z_i y29), (8, z_i y27), (7, z_i (y21.tmod 60)), (6, z_i (y19.tmod 2)), (5, z_i y17), (4, z_i (y2.tmod y4)), (0, z_r 0), (1, z_r a1), (2, z_r a2), (3, z_r a3)]) dL_gaps_171 (by decide) rfl ?_
      refine z_aload_n 11 dL_gaps_173 rfl rfl ?_
      refine z_iload 10 dL_gaps_174 rfl ?_
      refine z_iload 9 dL_gaps_176 rfl ?_
      refine z_iload 8 dL_gaps_178 rfl ?_
      refine z_callV (As := [z_i (y2.tmod y4), z_i y17, z_i (y19.tmod 2)]) (rest := []) zmX8_tightest znX8_tightest zsX8_tightest (show z_Cl[8]? = some (RX8, TX8, 9) from rfl) zlRL_215 ⟨Nat.le_of_ble_eq_true rfl, Nat.le_of_ble_eq_true rfl⟩ dL_gaps_180 hh0.1 rfl rfl (z_ai (z_ai (z_ai z_a0))) (Nat.le_of_ble_eq_true rfl) (Nat.le_of_ble_eq_true rfl) ⟨rfl, rfl⟩ (z_CIm h ?_)
      intro y41 w40 h
      show z_Sem mL_gaps (sh.length, 0) 183 [(14, z_i y39), (13, z_i y37), (12, z_i y35), (11, z_i y33), (10, z_i y31), (9, z_i y29), (8, z_i y27), (7, z_i (y21.tmod 60)), (6, z_i (y19.tmod 2)), (5, z_i y17), (4, z_i (y2.tmod y4)), (0, z_r 0), (1, z_r a1), (2, z_r a2), (3, z_r a3)] [z_i y41] (sh, w40) Q
      refine z_istore (L' := [(15, z_i y41), (14, z_i y39), (13, z_i y37), (12, z_i y35), (11, z_i y33), (10, z_i y31), (9, z_i y29), (8, z_i y27), (7, z_i (y21.tmod 60)), (6, z_i (y19.tmod 2)), (5, z_i y17), (4, z_i (y2.tmod y4)), (0, z_r 0), (1, z_r a1), (2, z_r a2), (3, z_r a3)]) dL_gaps_183 (by decide) rfl ?_
      refine z_aload_n 12 dL_gaps_185 rfl rfl ?_
      refine z_aload_n 14 dL_gaps_186 rfl rfl ?_
      refine z_iload 7 dL_gaps_187 rfl ?_
      refine z_aload_n 15 dL_gaps_189 rfl rfl ?_
      refine z_callS (As := [z_r 0, z_r a2, z_i y27, z_r a3]) (rest := []) zmL_isAs ztL_isAs zlRL_218 ⟨Nat.le_of_ble_eq_true rfl, Nat.le_of_ble_eq_true rfl⟩ dL_gaps_190 rfl rfl (z_ar (z_ar (z_ai (z_ar z_a0)))) (Nat.le_of_ble_eq_true rfl) (Nat.le_of_ble_eq_true rfl) ⟨rfl, rfl⟩ (z_CIm h ?_)
      intro y43 w42 h
      show z_Sem mL_gaps (sh.length, 0) 193 [(15, z_i y41), (14, z_i y39), (13, z_i y37), (12, z_i y35), (11, z_i y33), (10, z_i y31), (9, z_i y29), (8, z_i y27), (7, z_i (y21.tmod 60)), (6, z_i (y19.tmod 2)), (5, z_i y17), (4, z_i (y2.tmod y4)), (0, z_r 0), (1, z_r a1), (2, z_r a2), (3, z_r a3)] [z_i y43] (sh, w42) Q
      obtain ⟨q44, h⟩ := h
      refine z_if_eq (tgt := 271) dL_gaps_193 (by decide) (fun c => absurd c q44) (fun _ => ?_)
      refine z_iload 6 dL_gaps_196 rfl ?_
      suffices hJ45 : z_Sem mL_gaps (sh.length, 0) 206 [(0, z_r 0), (2, z_r a2), (3, z_r a3), (4, z_i (y2.tmod y4)), (5, z_i y17), (6, z_i (y19.tmod 2)), (7, z_i (y21.tmod 60)), (8, z_i y27), (9, z_i y29), (10, z_i y31), (11, z_i y33), (12, z_i y35), (13, z_i y37), (14, z_i y39), (15, z_i y41)] [z_i (if y29 = 0 then 1 else 0)] (sh, w42) Q by
        refine z_if_ne (tgt := 205) dL_gaps_198 (by decide) (fun c46 => ?_) (fun c46 => ?_)
        · skip
          refine z_iconst dL_gaps_205 (by decide) ?_
          refine z_sub (L' := [(0, z_r 0), (2, z_r a2), (3, z_r a3), (4, z_i (y2.tmod y4)), (5, z_i y17), (6, z_i (y19.tmod 2)), (7, z_i (y21.tmod 60)), (8, z_i y27), (9, z_i y29), (10, z_i y31), (11, z_i y33), (12, z_i y35), (13, z_i y37), (14, z_i y39), (15, z_i y41)]) [12, 14, 15, 11, 10, 9, 8, 7, 6, 5, 4, 3, 2, 1, 0] rfl ?_
          simp only [if_neg c46] at hJ45
          exact hJ45
        · skip
          refine z_iconst dL_gaps_201 (by decide) ?_
          refine z_goto (tgt := 206) dL_gaps_202 (by decide) ?_
          refine z_sub (L' := [(0, z_r 0), (2, z_r a2), (3, z_r a3), (4, z_i (y2.tmod y4)), (5, z_i y17), (6, z_i (y19.tmod 2)), (7, z_i (y21.tmod 60)), (8, z_i y27), (9, z_i y29), (10, z_i y31), (11, z_i y33), (12, z_i y35), (13, z_i y37), (14, z_i y39), (15, z_i y41)]) [12, 14, 15, 11, 10, 9, 8, 7, 6, 5, 4, 3, 2, 1, 0] rfl ?_
          simp only [if_pos c46] at hJ45
          exact hJ45
      refine z_iload 9 dL_gaps_206 rfl ?_
      refine z_bipush dL_gaps_208 (by decide) (by decide) ?_
      suffices hJ49 : z_Sem mL_gaps (sh.length, 0) 218 [(0, z_r 0), (2, z_r a2), (3, z_r a3), (4, z_i (y2.tmod y4)), (5, z_i y17), (6, z_i (y19.tmod 2)), (7, z_i (y21.tmod 60)), (8, z_i y27), (9, z_i y29), (10, z_i y31), (11, z_i y33), (12, z_i y35), (13, z_i y37), (14, z_i y39), (15, z_i y41)] [z_i (if y31 = (-2) then 1 else 0), z_i (if y29 = 0 then 1 else 0)] (sh, w42) Q by
        refine z_icmp_ne (tgt := 217) dL_gaps_210 (by decide) (fun c50 => ?_) (fun c50 => ?_)
        · skip
          refine z_iconst dL_gaps_217 (by decide) ?_
          simp only [if_neg c50] at hJ49
          exact hJ49
        · skip
          refine z_iconst dL_gaps_213 (by decide) ?_
          refine z_goto (tgt := 218) dL_gaps_214 (by decide) ?_
          simp only [if_pos c50] at hJ49
          exact hJ49
      obtain ⟨q53, h⟩ := h
      refine z_icmp_ne (tgt := 271) dL_gaps_218 (by decide) (fun c => absurd q53 c) (fun _ => ?_)
      refine z_iload 8 dL_gaps_221 rfl ?_
      obtain ⟨m56, m57, h⟩ := h
      suffices hJ54 : z_Sem mL_gaps (sh.length, 0) 267 [(0, z_r 0), (2, z_r a2), (3, z_r a3), (4, z_i (y2.tmod y4)), (5, z_i y17), (6, z_i (y19.tmod 2)), (7, z_i (y21.tmod 60)), (8, z_i y27), (9, z_i y29), (10, z_i y31), (13, z_i y37), (14, z_i y39), (15, z_i y41)] [] (sh, w42) Q by
        refine z_if_ne (tgt := 241) dL_gaps_223 (by decide) (fun c55 => ?_) (fun c55 => ?_)
        · skip
          have ho58 := m57 c55
          refine z_iload 10 dL_gaps_241 rfl ?_
          refine z_bipush dL_gaps_243 (by decide) (by decide) ?_
          obtain ⟨q59, ho58⟩ := ho58
          refine z_icmp_ne (tgt := 271) dL_gaps_245 (by decide) (fun c => absurd q59 c) (fun _ => ?_)
          refine z_iload 12 dL_gaps_248 rfl ?_
          refine z_bipush dL_gaps_250 (by decide) (by decide) ?_
          obtain ⟨q60, ho58⟩ := ho58
          refine z_icmp_ne (tgt := 271) dL_gaps_252 (by decide) (fun c => absurd q60 c) (fun _ => ?_)
          refine z_iload 11 dL_gaps_255 rfl ?_
          refine z_bipush dL_gaps_257 (by decide) (by decide) ?_
          obtain ⟨q61, ho58⟩ := ho58
          refine z_icmp_ne (tgt := 271) dL_gaps_259 (by decide) (fun c => absurd q61 c) (fun _ => ?_)
          refine z_iload 9 dL_gaps_262 rfl ?_
          obtain ⟨q62, ho58⟩ := ho58
          refine z_if_le (tgt := 271) dL_gaps_264 (by decide) (fun c => absurd c q62) (fun _ => ?_)
          refine z_sub (L' := [(0, z_r 0), (2, z_r a2), (3, z_r a3), (4, z_i (y2.tmod y4)), (5, z_i y17), (6, z_i (y19.tmod 2)), (7, z_i (y21.tmod 60)), (8, z_i y27), (9, z_i y29), (10, z_i y31), (13, z_i y37), (14, z_i y39), (15, z_i y41)]) [0, 1, 2, 3, 4, 5, 6, 7, 8, 9, 12, 13, 14] rfl ?_
          exact hJ54
        · skip
          have ho63 := m56 c55
          refine z_iload 10 dL_gaps_226 rfl ?_
          obtain ⟨q64, ho63⟩ := ho63
          refine z_if_lt (tgt := 271) dL_gaps_228 (by decide) (fun c => absurd c q64) (fun _ => ?_)
          refine z_iload 10 dL_gaps_231 rfl ?_
          refine z_iload 11 dL_gaps_233 rfl ?_
          obtain ⟨q65, ho63⟩ := ho63
          refine z_icmp_lt (tgt := 271) dL_gaps_235 (by decide) (fun c => absurd c q65) (fun _ => ?_)
          refine z_goto (tgt := 267) dL_gaps_238 (by decide) ?_
          refine z_sub (L' := [(0, z_r 0), (2, z_r a2), (3, z_r a3), (4, z_i (y2.tmod y4)), (5, z_i y17), (6, z_i (y19.tmod 2)), (7, z_i (y21.tmod 60)), (8, z_i y27), (9, z_i y29), (10, z_i y31), (13, z_i y37), (14, z_i y39), (15, z_i y41)]) [0, 1, 2, 3, 4, 5, 6, 7, 8, 9, 12, 13, 14] rfl ?_
          exact hJ54
      refine z_iconst dL_gaps_267 (by decide) ?_
      refine z_goto (tgt := 272) dL_gaps_268 (by decide) ?_
      refine z_istore (L' := [(16, z_i 1), (0, z_r 0), (2, z_r a2), (3, z_r a3), (4, z_i (y2.tmod y4)), (5, z_i y17), (6, z_i (y19.tmod 2)), (7, z_i (y21.tmod 60)), (8, z_i y27), (9, z_i y29), (10, z_i y31), (13, z_i y37), (14, z_i y39), (15, z_i y41)]) dL_gaps_272 (by decide) rfl ?_
      refine z_iload 9 dL_gaps_274 rfl ?_
      refine z_if_le (tgt := 516) dL_gaps_276 (by decide) (fun c66 => ?_) (fun c66 => ?_)
      · replace h := h.1 c66
        refine z_sub (L' := [(0, z_r 0), (2, z_r a2), (3, z_r a3), (4, z_i (y2.tmod y4)), (5, z_i y17), (6, z_i (y19.tmod 2)), (7, z_i (y21.tmod 60)), (8, z_i y27), (9, z_i y29), (13, z_i y37), (15, z_i y41), (16, z_i 1)]) [1, 2, 3, 4, 5, 6, 7, 8, 9, 11, 13, 0] rfl ?_
        exact h
      · replace h := h.2 c66
        refine z_iload 0 dL_gaps_279 rfl ?_
        refine z_if_eq (tgt := 516) dL_gaps_281 (by decide) (fun c => absurd c (by decide)) (fun _ => ?_)
        refine z_iload 6 dL_gaps_284 rfl ?_
        suffices hJ67 : z_Sem mL_gaps (sh.length, 0) 296 [(0, z_r 0), (2, z_r a2), (3, z_r a3), (4, z_i (y2.tmod y4)), (5, z_i y17), (6, z_i (y19.tmod 2)), (7, z_i (y21.tmod 60)), (8, z_i y27), (9, z_i y29), (10, z_i y31), (13, z_i y37), (14, z_i y39), (15, z_i y41)] [z_i (if (y19.tmod 2) = 0 then y17 else y2.tmod y4)] (sh, w42) Q by
          refine z_if_ne (tgt := 294) dL_gaps_286 (by decide) (fun c68 => ?_) (fun c68 => ?_)
          · skip
            refine z_iload 4 dL_gaps_294 rfl ?_
            refine z_sub (L' := [(0, z_r 0), (2, z_r a2), (3, z_r a3), (4, z_i (y2.tmod y4)), (5, z_i y17), (6, z_i (y19.tmod 2)), (7, z_i (y21.tmod 60)), (8, z_i y27), (9, z_i y29), (10, z_i y31), (13, z_i y37), (14, z_i y39), (15, z_i y41)]) [1, 2, 3, 4, 5, 6, 7, 8, 9, 10, 11, 12, 13] rfl ?_
            simp only [if_neg c68] at hJ67
            exact hJ67
          · skip
            refine z_iload 5 dL_gaps_289 rfl ?_
            refine z_goto (tgt := 296) dL_gaps_291 (by decide) ?_
            refine z_sub (L' := [(0, z_r 0), (2, z_r a2), (3, z_r a3), (4, z_i (y2.tmod y4)), (5, z_i y17), (6, z_i (y19.tmod 2)), (7, z_i (y21.tmod 60)), (8, z_i y27), (9, z_i y29), (10, z_i y31), (13, z_i y37), (14, z_i y39), (15, z_i y41)]) [1, 2, 3, 4, 5, 6, 7, 8, 9, 10, 11, 12, 13] rfl ?_
            simp only [if_pos c68] at hJ67
            exact hJ67
        refine z_nam (fun y71 hy71 => ?_)
        replace h := h y71 hy71
        refine z_istore (L' := [(17, z_i y71), (0, z_r 0), (2, z_r a2), (3, z_r a3), (4, z_i (y2.tmod y4)), (5, z_i y17), (6, z_i (y19.tmod 2)), (7, z_i (y21.tmod 60)), (8, z_i y27), (9, z_i y29), (10, z_i y31), (13, z_i y37), (14, z_i y39), (15, z_i y41)]) dL_gaps_296 (by decide) rfl ?_
        refine z_iload 6 dL_gaps_298 rfl ?_
        suffices hJ72 : z_Sem mL_gaps (sh.length, 0) 310 [(0, z_r 0), (2, z_r a2), (3, z_r a3), (4, z_i (y2.tmod y4)), (5, z_i y17), (6, z_i (y19.tmod 2)), (7, z_i (y21.tmod 60)), (8, z_i y27), (9, z_i y29), (10, z_i y31), (13, z_i y37), (14, z_i y39), (15, z_i y41), (17, z_i y71)] [z_i (if (y19.tmod 2) = 0 then y2.tmod y4 else y17)] (sh, w42) Q by
          refine z_if_ne (tgt := 308) dL_gaps_300 (by decide) (fun c73 => ?_) (fun c73 => ?_)
          · skip
            refine z_iload 5 dL_gaps_308 rfl ?_
            refine z_sub (L' := [(0, z_r 0), (2, z_r a2), (3, z_r a3), (4, z_i (y2.tmod y4)), (5, z_i y17), (6, z_i (y19.tmod 2)), (7, z_i (y21.tmod 60)), (8, z_i y27), (9, z_i y29), (10, z_i y31), (13, z_i y37), (14, z_i y39), (15, z_i y41), (17, z_i y71)]) [1, 2, 3, 4, 5, 6, 7, 8, 9, 10, 11, 12, 13, 0] rfl ?_
            simp only [if_neg c73] at hJ72
            exact hJ72
          · skip
            refine z_iload 4 dL_gaps_303 rfl ?_
            refine z_goto (tgt := 310) dL_gaps_305 (by decide) ?_
            refine z_sub (L' := [(0, z_r 0), (2, z_r a2), (3, z_r a3), (4, z_i (y2.tmod y4)), (5, z_i y17), (6, z_i (y19.tmod 2)), (7, z_i (y21.tmod 60)), (8, z_i y27), (9, z_i y29), (10, z_i y31), (13, z_i y37), (14, z_i y39), (15, z_i y41), (17, z_i y71)]) [1, 2, 3, 4, 5, 6, 7, 8, 9, 10, 11, 12, 13, 0] rfl ?_
            simp only [if_pos c73] at hJ72
            exact hJ72
        refine z_nam (fun y76 hy76 => ?_)
        replace h := h y76 hy76
        refine z_istore (L' := [(18, z_i y76), (0, z_r 0), (2, z_r a2), (3, z_r a3), (4, z_i (y2.tmod y4)), (5, z_i y17), (6, z_i (y19.tmod 2)), (7, z_i (y21.tmod 60)), (8, z_i y27), (9, z_i y29), (10, z_i y31), (13, z_i y37), (14, z_i y39), (15, z_i y41), (17, z_i y71)]) dL_gaps_310 (by decide) rfl ?_
        refine z_iload 6 dL_gaps_312 rfl ?_
        obtain ⟨m79, h⟩ := h
        suffices hJ77 : z_Sem mL_gaps (sh.length, 0) 325 [(0, z_r 0), (2, z_r a2), (3, z_r a3), (4, z_i (y2.tmod y4)), (5, z_i y17), (6, z_i (y19.tmod 2)), (7, z_i (y21.tmod 60)), (8, z_i y27), (9, z_i y29), (10, z_i y31), (13, z_i y37), (14, z_i y39), (15, z_i y41), (17, z_i y71), (18, z_i y76)] [z_i (if (y19.tmod 2) = 0 then y21.tmod 60 else -(y21.tmod 60))] (sh, w42) Q by
          refine z_if_ne (tgt := 322) dL_gaps_314 (by decide) (fun c78 => ?_) (fun c78 => ?_)
          · skip
            have ho80 := m79 c78
            refine z_iload 7 dL_gaps_322 rfl ?_
            obtain ⟨q81, ho80⟩ := ho80
            refine z_ineg dL_gaps_324 q81 ?_
            refine z_sub (L' := [(0, z_r 0), (2, z_r a2), (3, z_r a3), (4, z_i (y2.tmod y4)), (5, z_i y17), (6, z_i (y19.tmod 2)), (7, z_i (y21.tmod 60)), (8, z_i y27), (9, z_i y29), (10, z_i y31), (13, z_i y37), (14, z_i y39), (15, z_i y41), (17, z_i y71), (18, z_i y76)]) [1, 2, 3, 4, 5, 6, 7, 8, 9, 10, 11, 12, 13, 14, 0] rfl ?_
            simp only [if_neg c78] at hJ77
            exact hJ77
          · skip
            refine z_iload 7 dL_gaps_317 rfl ?_
            refine z_goto (tgt := 325) dL_gaps_319 (by decide) ?_
            refine z_sub (L' := [(0, z_r 0), (2, z_r a2), (3, z_r a3), (4, z_i (y2.tmod y4)), (5, z_i y17), (6, z_i (y19.tmod 2)), (7, z_i (y21.tmod 60)), (8, z_i y27), (9, z_i y29), (10, z_i y31), (13, z_i y37), (14, z_i y39), (15, z_i y41), (17, z_i y71), (18, z_i y76)]) [1, 2, 3, 4, 5, 6, 7, 8, 9, 10, 11, 12, 13, 14, 0] rfl ?_
            simp only [if_pos c78] at hJ77
            exact hJ77
        refine z_nam (fun y83 hy83 => ?_)
        replace h := h y83 hy83
        refine z_istore (L' := [(19, z_i y83), (0, z_r 0), (2, z_r a2), (3, z_r a3), (4, z_i (y2.tmod y4)), (5, z_i y17), (6, z_i (y19.tmod 2)), (7, z_i (y21.tmod 60)), (8, z_i y27), (9, z_i y29), (10, z_i y31), (13, z_i y37), (14, z_i y39), (15, z_i y41), (17, z_i y71), (18, z_i y76)]) dL_gaps_325 (by decide) rfl ?_
        refine z_iconst dL_gaps_327 (by decide) ?_
        refine z_istore (L' := [(20, z_i 0), (19, z_i y83), (0, z_r 0), (2, z_r a2), (3, z_r a3), (4, z_i (y2.tmod y4)), (5, z_i y17), (6, z_i (y19.tmod 2)), (7, z_i (y21.tmod 60)), (8, z_i y27), (9, z_i y29), (10, z_i y31), (13, z_i y37), (14, z_i y39), (15, z_i y41), (17, z_i y71), (18, z_i y76)]) dL_gaps_328 (by decide) rfl ?_
        refine z_sub (L' := [(0, z_r 0), (2, z_r a2), (3, z_r a3), (4, z_i (y2.tmod y4)), (5, z_i y17), (6, z_i (y19.tmod 2)), (7, z_i (y21.tmod 60)), (8, z_i y27), (9, z_i y29), (10, z_i y31), (13, z_i y37), (14, z_i y39), (15, z_i y41), (17, z_i y71), (18, z_i y76), (19, z_i y83), (20, z_i 0)]) [2, 3, 4, 5, 6, 7, 8, 9, 10, 11, 12, 13, 14, 15, 16, 1, 0] rfl ?_
        exact h
    · replace h := h.1 c25
      refine z_iconst dL_gaps_75 (by decide) ?_
      exact z_ret (v := some (z_i 1)) dL_gaps_76 ⟨rfl, Or.inr (Or.inl ⟨rfl, (by decide)⟩)⟩ rfl h
set_option maxRecDepth 100000 in
theorem t_L_gaps_516 {sh : List z_C} {w : Nat → Int → Int} {Q : Option z_V → z_S → Prop} {a1 : Nat} {a2 : Nat} {a3 : Nat} {x4 : Int} {x5 : Int} {x6 : Int} {x7 : Int} {x8 : Int} {x9 : Int} {x13 : Int} {x15 : Int} (hh0 : z_isTG sh 0) (hh1 : sh[a1]? = some (.inr (.inl (0, 8)))) (hh2 : sh[a2]? = some (.inr (.inl (0, 400)))) (hh3 : sh[a3]? = some (.inr (.inl (0, 400)))) (h : z_CI mX8_tell [z_r 0, z_i x4, z_i x5, z_i x6, z_i x7] sh w (fun y2 w1 => ((if y2 = (-5) then (1 : Int) else 0) = (if x9 ≤ 0 then (0 : Int) else 1)) ∧ ((y2 = (-5) → z_Sem mL_gaps (sh.length, 0) 605 [(0, z_r 0), (2, z_r a2), (3, z_r a3), (4, z_i x4), (5, z_i x5), (6, z_i x6), (8, z_i x8), (15, z_i x15)] [] (sh, w1) Q) ∧ (¬ y2 = (-5) → z_CI mX8_value [z_r 0, z_i 10] sh w1 (fun y14 w13 => (y14 = x13) ∧ z_CI mX8_spare [z_r 0, z_i y2] sh w13 (fun y17 w16 => (x6 = 0 → (z_R (x7 - x15)) ∧ True) ∧ (¬ x6 = 0 → (z_R (x15 - x7)) ∧ True) ∧ (y17 = (if x6 = 0 then x7 - x15 else x15 - x7)) ∧ z_Sem mL_gaps (sh.length, 0) 605 [(0, z_r 0), (2, z_r a2), (3, z_r a3), (4, z_i x4), (5, z_i x5), (6, z_i x6), (8, z_i x8), (15, z_i x15)] [] (sh, w16) Q)))))) : z_Sem mL_gaps (sh.length, 0) 516 [(0, z_r 0), (2, z_r a2), (3, z_r a3), (4, z_i x4), (5, z_i x5), (6, z_i x6), (7, z_i x7), (8, z_i x8), (9, z_i x9), (13, z_i x13), (15, z_i x15), (16, z_i 1)] [] (sh, w) Q := by
  refine z_aload_n 0 dL_gaps_516 rfl rfl ?_
  refine z_iload 3 dL_gaps_517 rfl ?_
  refine z_iload 4 dL_gaps_519 rfl ?_
  refine z_iload 5 dL_gaps_521 rfl ?_
  refine z_iload 6 dL_gaps_523 rfl ?_
  refine z_callV (As := [z_i x4, z_i x5, z_i x6, z_i x7]) (rest := []) zmX8_tell znX8_tell zsX8_tell (show z_Cl[8]? = some (RX8, TX8, 9) from rfl) zlRL_106 ⟨Nat.le_of_ble_eq_true rfl, Nat.le_of_ble_eq_true rfl⟩ dL_gaps_525 hh0.1 rfl rfl (z_ai (z_ai (z_ai (z_ai z_a0)))) (Nat.le_of_ble_eq_true rfl) (Nat.le_of_ble_eq_true rfl) ⟨rfl, rfl⟩ (z_CIm h ?_)
  intro y2 w1 h
  show z_Sem mL_gaps (sh.length, 0) 528 [(0, z_r 0), (2, z_r a2), (3, z_r a3), (4, z_i x4), (5, z_i x5), (6, z_i x6), (7, z_i x7), (8, z_i x8), (9, z_i x9), (13, z_i x13), (15, z_i x15), (16, z_i 1)] [z_i y2] (sh, w1) Q
  refine z_istore (L' := [(17, z_i y2), (0, z_r 0), (2, z_r a2), (3, z_r a3), (4, z_i x4), (5, z_i x5), (6, z_i x6), (7, z_i x7), (8, z_i x8), (9, z_i x9), (13, z_i x13), (15, z_i x15), (16, z_i 1)]) dL_gaps_528 (by decide) rfl ?_
  refine z_iload 12 dL_gaps_530 rfl ?_
  refine z_if_eq (tgt := 627) dL_gaps_532 (by decide) (fun c => absurd c (by decide)) (fun _ => ?_)
  refine z_iload 0 dL_gaps_535 rfl ?_
  refine z_bipush dL_gaps_537 (by decide) (by decide) ?_
  suffices hJ3 : z_Sem mL_gaps (sh.length, 0) 547 [(0, z_r 0), (2, z_r a2), (3, z_r a3), (4, z_i x4), (5, z_i x5), (6, z_i x6), (7, z_i x7), (8, z_i x8), (9, z_i x9), (13, z_i x13), (15, z_i x15), (17, z_i y2)] [z_i (if y2 = (-5) then 1 else 0)] (sh, w1) Q by
    refine z_icmp_ne (tgt := 546) dL_gaps_539 (by decide) (fun c4 => ?_) (fun c4 => ?_)
    · skip
      refine z_iconst dL_gaps_546 (by decide) ?_
      refine z_sub (L' := [(0, z_r 0), (2, z_r a2), (3, z_r a3), (4, z_i x4), (5, z_i x5), (6, z_i x6), (7, z_i x7), (8, z_i x8), (9, z_i x9), (13, z_i x13), (15, z_i x15), (17, z_i y2)]) [1, 2, 3, 4, 5, 6, 7, 8, 9, 10, 11, 0] rfl ?_
      simp only [if_neg c4] at hJ3
      exact hJ3
    · skip
      refine z_iconst dL_gaps_542 (by decide) ?_
      refine z_goto (tgt := 547) dL_gaps_543 (by decide) ?_
      refine z_sub (L' := [(0, z_r 0), (2, z_r a2), (3, z_r a3), (4, z_i x4), (5, z_i x5), (6, z_i x6), (7, z_i x7), (8, z_i x8), (9, z_i x9), (13, z_i x13), (15, z_i x15), (17, z_i y2)]) [1, 2, 3, 4, 5, 6, 7, 8, 9, 10, 11, 0] rfl ?_
      simp only [if_pos c4] at hJ3
      exact hJ3
  refine z_iload 8 dL_gaps_547 rfl ?_
  suffices hJ7 : z_Sem mL_gaps (sh.length, 0) 557 [(0, z_r 0), (2, z_r a2), (3, z_r a3), (4, z_i x4), (5, z_i x5), (6, z_i x6), (7, z_i x7), (8, z_i x8), (13, z_i x13), (15, z_i x15), (17, z_i y2)] [z_i (if x9 ≤ 0 then 0 else 1), z_i (if y2 = (-5) then 1 else 0)] (sh, w1) Q by
    refine z_if_le (tgt := 556) dL_gaps_549 (by decide) (fun c8 => ?_) (fun c8 => ?_)
    · skip
      refine z_iconst dL_gaps_556 (by decide) ?_
      refine z_sub (L' := [(0, z_r 0), (2, z_r a2), (3, z_r a3), (4, z_i x4), (5, z_i x5), (6, z_i x6), (7, z_i x7), (8, z_i x8), (13, z_i x13), (15, z_i x15), (17, z_i y2)]) [0, 1, 2, 3, 4, 5, 6, 7, 9, 10, 11] rfl ?_
      simp only [if_pos c8] at hJ7
      exact hJ7
    · skip
      refine z_iconst dL_gaps_552 (by decide) ?_
      refine z_goto (tgt := 557) dL_gaps_553 (by decide) ?_
      refine z_sub (L' := [(0, z_r 0), (2, z_r a2), (3, z_r a3), (4, z_i x4), (5, z_i x5), (6, z_i x6), (7, z_i x7), (8, z_i x8), (13, z_i x13), (15, z_i x15), (17, z_i y2)]) [0, 1, 2, 3, 4, 5, 6, 7, 9, 10, 11] rfl ?_
      simp only [if_neg c8] at hJ7
      exact hJ7
  obtain ⟨q11, h⟩ := h
  refine z_icmp_ne (tgt := 627) dL_gaps_557 (by decide) (fun c => absurd q11 c) (fun _ => ?_)
  refine z_iload 10 dL_gaps_560 rfl ?_
  refine z_bipush dL_gaps_562 (by decide) (by decide) ?_
  refine z_icmp_eq (tgt := 605) dL_gaps_564 (by decide) (fun c12 => ?_) (fun c12 => ?_)
  · replace h := h.1 c12
    refine z_sub (L' := [(0, z_r 0), (2, z_r a2), (3, z_r a3), (4, z_i x4), (5, z_i x5), (6, z_i x6), (8, z_i x8), (15, z_i x15)]) [0, 1, 2, 3, 4, 5, 7, 9] rfl ?_
    exact h
  · replace h := h.2 c12
    refine z_aload_n 0 dL_gaps_567 rfl rfl ?_
    refine z_bipush dL_gaps_568 (by decide) (by decide) ?_
    refine z_callV (As := [z_i 10]) (rest := []) zmX8_value znX8_value zsX8_value (show z_Cl[8]? = some (RX8, TX8, 9) from rfl) zlRL_103 ⟨Nat.le_of_ble_eq_true rfl, Nat.le_of_ble_eq_true rfl⟩ dL_gaps_570 hh0.1 rfl rfl (z_ai z_a0) (Nat.le_of_ble_eq_true rfl) (Nat.le_of_ble_eq_true rfl) ⟨rfl, rfl⟩ (z_CIm h ?_)
    intro y14 w13 h
    show z_Sem mL_gaps (sh.length, 0) 573 [(0, z_r 0), (2, z_r a2), (3, z_r a3), (4, z_i x4), (5, z_i x5), (6, z_i x6), (7, z_i x7), (8, z_i x8), (13, z_i x13), (15, z_i x15), (17, z_i y2)] [z_i y14] (sh, w13) Q
    refine z_iload 8 dL_gaps_573 rfl ?_
    obtain ⟨q15, h⟩ := h
    refine z_icmp_ne (tgt := 627) dL_gaps_575 (by decide) (fun c => absurd q15 c) (fun _ => ?_)
    refine z_aload_n 0 dL_gaps_578 rfl rfl ?_
    refine z_iload 10 dL_gaps_579 rfl ?_
    refine z_callV (As := [z_i y2]) (rest := []) zmX8_spare znX8_spare zsX8_spare (show z_Cl[8]? = some (RX8, TX8, 9) from rfl) zlRL_228 ⟨Nat.le_of_ble_eq_true rfl, Nat.le_of_ble_eq_true rfl⟩ dL_gaps_581 hh0.1 rfl rfl (z_ai z_a0) (Nat.le_of_ble_eq_true rfl) (Nat.le_of_ble_eq_true rfl) ⟨rfl, rfl⟩ (z_CIm h ?_)
    intro y17 w16 h
    show z_Sem mL_gaps (sh.length, 0) 584 [(0, z_r 0), (2, z_r a2), (3, z_r a3), (4, z_i x4), (5, z_i x5), (6, z_i x6), (7, z_i x7), (8, z_i x8), (13, z_i x13), (15, z_i x15), (17, z_i y2)] [z_i y17] (sh, w16) Q
    refine z_iload 5 dL_gaps_584 rfl ?_
    obtain ⟨m20, m21, h⟩ := h
    suffices hJ18 : z_Sem mL_gaps (sh.length, 0) 602 [(0, z_r 0), (2, z_r a2), (3, z_r a3), (4, z_i x4), (5, z_i x5), (6, z_i x6), (8, z_i x8), (15, z_i x15)] [z_i (if x6 = 0 then x7 - x15 else x15 - x7), z_i y17] (sh, w16) Q by
      refine z_if_ne (tgt := 597) dL_gaps_586 (by decide) (fun c19 => ?_) (fun c19 => ?_)
      · skip
        have ho22 := m21 c19
        refine z_iload 9 dL_gaps_597 rfl ?_
        refine z_iload 6 dL_gaps_599 rfl ?_
        obtain ⟨q23, ho22⟩ := ho22
        refine z_isub dL_gaps_601 q23 ?_
        refine z_sub (L' := [(0, z_r 0), (2, z_r a2), (3, z_r a3), (4, z_i x4), (5, z_i x5), (6, z_i x6), (8, z_i x8), (15, z_i x15)]) [0, 1, 2, 3, 4, 5, 7, 9] rfl ?_
        simp only [if_neg c19] at hJ18
        exact hJ18
      · skip
        have ho24 := m20 c19
        refine z_iload 6 dL_gaps_589 rfl ?_
        refine z_iload 9 dL_gaps_591 rfl ?_
        obtain ⟨q25, ho24⟩ := ho24
        refine z_isub dL_gaps_593 q25 ?_
        refine z_goto (tgt := 602) dL_gaps_594 (by decide) ?_
        refine z_sub (L' := [(0, z_r 0), (2, z_r a2), (3, z_r a3), (4, z_i x4), (5, z_i x5), (6, z_i x6), (8, z_i x8), (15, z_i x15)]) [0, 1, 2, 3, 4, 5, 7, 9] rfl ?_
        simp only [if_pos c19] at hJ18
        exact hJ18
    obtain ⟨q26, h⟩ := h
    refine z_icmp_ne (tgt := 627) dL_gaps_602 (by decide) (fun c => absurd q26 c) (fun _ => ?_)
    exact h
set_option maxRecDepth 100000 in
theorem t_L_gaps_330 {sh : List z_C} {w : Nat → Int → Int} {Q : Option z_V → z_S → Prop} {a1 : Nat} {a2 : Nat} {a3 : Nat} {x4 : Int} {x5 : Int} {x6 : Int} {x7 : Int} {x8 : Int} {x9 : Int} {x10 : Int} {x13 : Int} {x14 : Int} {x15 : Int} {x17 : Int} {x18 : Int} {x19 : Int} {x20 : Int} (hh0 : z_isTG sh 0) (hh1 : sh[a1]? = some (.inr (.inl (0, 8)))) (hh2 : sh[a2]? = some (.inr (.inl (0, 400)))) (hh3 : sh[a3]? = some (.inr (.inl (0, 400)))) (h : z_CI mX8_ring [z_r 0, z_i x4, z_i x5, z_i x6, z_i x7, z_i x20] sh w (fun y2 w1 => ((y2 < 0 → (z_R (-x10)) ∧ (x19 = (-x10)) ∧ z_CI mX8_wayLength [z_r 0, z_i x17, z_i x18] sh w1 (fun y7 w6 => (x20 = y7) ∧ (x9 = 1 → (¬ x20 < 1) ∧ True) ∧ z_CI mX8_ring [z_r 0, z_i x4, z_i x5, z_i x6, z_i x7, z_i 0] sh w6 (fun y16 w15 => z_CI mX8_why [z_r 0, z_i x4, z_i x5, z_i x6, z_i x7, z_i 2] sh w15 (fun y18 w17 => (y16 = y18) ∧ (x6 = 0 → (¬ x15 ≤ x7) ∧ True) ∧ (¬ x6 = 0 → (¬ x7 ≤ x15) ∧ True) ∧ ((x14 < 0 → z_Sem mL_gaps (sh.length, 0) 516 [(0, z_r 0), (2, z_r a2), (3, z_r a3), (4, z_i x4), (5, z_i x5), (6, z_i x6), (7, z_i x7), (8, z_i x8), (9, z_i x9), (13, z_i x13), (15, z_i x15), (16, z_i 1)] [] (sh, w17) Q) ∧ (¬ x14 < 0 → z_CI mX8_turn [z_r 0, z_i x14] sh w17 (fun y30 w29 => (y30 = 0) ∧ z_CI mX8_why [z_r 0, z_i x4, z_i x5, z_i x6, z_i x7, z_i 0] sh w29 (fun y33 w32 => (y33 = 0) ∧ z_CI mX8_undo [z_r 0] sh w32 (fun y36 w35 => (¬ y36 < 0) ∧ z_Sem mL_gaps (sh.length, 0) 516 [(0, z_r 0), (2, z_r a2), (3, z_r a3), (4, z_i x4), (5, z_i x5), (6, z_i x6), (7, z_i x7), (8, z_i x8), (9, z_i x9), (13, z_i x13), (15, z_i x15), (16, z_i 1)] [] (sh, w35) Q))))))))) ∧ (¬ y2 < 0 → z_CI mX8_ring [z_r 0, z_i x4, z_i x5, z_i x6, z_i x7, z_i x20] sh w1 (fun y39 w38 => z_CI mL_lengthOf [z_r 0, z_i y39] sh w38 (fun y41 w40 => (z_R (x19 + y41)) ∧ (z_R (x20 + 1)) ∧ z_Sem mL_gaps (sh.length, 0) 330 [(0, z_r 0), (2, z_r a2), (3, z_r a3), (4, z_i x4), (5, z_i x5), (6, z_i x6), (7, z_i x7), (8, z_i x8), (9, z_i x9), (10, z_i x10), (13, z_i x13), (14, z_i x14), (15, z_i x15), (17, z_i x17), (18, z_i x18), (19, z_i (x19 + y41)), (20, z_i (x20 + 1))] [] (sh, w40) Q)))))) : z_Sem mL_gaps (sh.length, 0) 330 [(0, z_r 0), (2, z_r a2), (3, z_r a3), (4, z_i x4), (5, z_i x5), (6, z_i x6), (7, z_i x7), (8, z_i x8), (9, z_i x9), (10, z_i x10), (13, z_i x13), (14, z_i x14), (15, z_i x15), (17, z_i x17), (18, z_i x18), (19, z_i x19), (20, z_i x20)] [] (sh, w) Q := by
  refine z_aload_n 0 dL_gaps_330 rfl rfl ?_
  refine z_iload 3 dL_gaps_331 rfl ?_
  refine z_iload 4 dL_gaps_333 rfl ?_
  refine z_iload 5 dL_gaps_335 rfl ?_
  refine z_iload 6 dL_gaps_337 rfl ?_
  refine z_iload 16 dL_gaps_339 rfl ?_
  refine z_callV (As := [z_i x4, z_i x5, z_i x6, z_i x7, z_i x20]) (rest := []) zmX8_ring znX8_ring zsX8_ring (show z_Cl[8]? = some (RX8, TX8, 9) from rfl) zlRL_222 ⟨Nat.le_of_ble_eq_true rfl, Nat.le_of_ble_eq_true rfl⟩ dL_gaps_341 hh0.1 rfl rfl (z_ai (z_ai (z_ai (z_ai (z_ai z_a0))))) (Nat.le_of_ble_eq_true rfl) (Nat.le_of_ble_eq_true rfl) ⟨rfl, rfl⟩ (z_CIm h ?_)
  intro y2 w1 h
  show z_Sem mL_gaps (sh.length, 0) 344 [(0, z_r 0), (2, z_r a2), (3, z_r a3), (4, z_i x4), (5, z_i x5), (6, z_i x6), (7, z_i x7), (8, z_i x8), (9, z_i x9), (10, z_i x10), (13, z_i x13), (14, z_i x14), (15, z_i x15), (17, z_i x17), (18, z_i x18), (19, z_i x19), (20, z_i x20)] [z_i y2] (sh, w1) Q
  refine z_if_lt (tgt := 376) dL_gaps_344 (by decide) (fun c3 => ?_) (fun c3 => ?_)
  · replace h := h.1 c3
    refine z_iload 15 dL_gaps_376 rfl ?_
    refine z_iload 9 dL_gaps_378 rfl ?_
    obtain ⟨q4, h⟩ := h
    refine z_ineg dL_gaps_380 q4 ?_
    obtain ⟨q5, h⟩ := h
    refine z_icmp_ne (tgt := 464) dL_gaps_381 (by decide) (fun c => absurd q5 c) (fun _ => ?_)
    refine z_iload 16 dL_gaps_384 rfl ?_
    refine z_aload_n 0 dL_gaps_386 rfl rfl ?_
    refine z_iload 13 dL_gaps_387 rfl ?_
    refine z_iload 14 dL_gaps_389 rfl ?_
    refine z_callV (As := [z_i x17, z_i x18]) (rest := [z_i x20]) zmX8_wayLength znX8_wayLength zsX8_wayLength (show z_Cl[8]? = some (RX8, TX8, 9) from rfl) zlRL_181 ⟨Nat.le_of_ble_eq_true rfl, Nat.le_of_ble_eq_true rfl⟩ dL_gaps_391 hh0.1 rfl rfl (z_ai (z_ai z_a0)) (Nat.le_of_ble_eq_true rfl) (Nat.le_of_ble_eq_true rfl) ⟨rfl, rfl⟩ (z_CIm h ?_)
    intro y7 w6 h
    show z_Sem mL_gaps (sh.length, 0) 394 [(0, z_r 0), (2, z_r a2), (3, z_r a3), (4, z_i x4), (5, z_i x5), (6, z_i x6), (7, z_i x7), (8, z_i x8), (9, z_i x9), (10, z_i x10), (13, z_i x13), (14, z_i x14), (15, z_i x15), (17, z_i x17), (18, z_i x18), (19, z_i x19), (20, z_i x20)] [z_i y7, z_i x20] (sh, w6) Q
    obtain ⟨q8, h⟩ := h
    refine z_icmp_ne (tgt := 464) dL_gaps_394 (by decide) (fun c => absurd q8 c) (fun _ => ?_)
    refine z_iload 8 dL_gaps_397 rfl ?_
    refine z_iconst dL_gaps_399 (by decide) ?_
    obtain ⟨m11, h⟩ := h
    suffices hJ9 : z_Sem mL_gaps (sh.length, 0) 409 [(0, z_r 0), (2, z_r a2), (3, z_r a3), (4, z_i x4), (5, z_i x5), (6, z_i x6), (7, z_i x7), (8, z_i x8), (9, z_i x9), (13, z_i x13), (14, z_i x14), (15, z_i x15)] [] (sh, w6) Q by
      refine z_icmp_ne (tgt := 409) dL_gaps_400 (by decide) (fun c10 => ?_) (fun c10 => ?_)
      · skip
        refine z_sub (L' := [(0, z_r 0), (2, z_r a2), (3, z_r a3), (4, z_i x4), (5, z_i x5), (6, z_i x6), (7, z_i x7), (8, z_i x8), (9, z_i x9), (13, z_i x13), (14, z_i x14), (15, z_i x15)]) [0, 1, 2, 3, 4, 5, 6, 7, 8, 10, 11, 12] rfl ?_
        exact hJ9
      · skip
        have ho13 := m11 c10
        refine z_iload 16 dL_gaps_403 rfl ?_
        refine z_iconst dL_gaps_405 (by decide) ?_
        obtain ⟨q14, ho13⟩ := ho13
        refine z_icmp_lt (tgt := 464) dL_gaps_406 (by decide) (fun c => absurd c q14) (fun _ => ?_)
        refine z_sub (L' := [(0, z_r 0), (2, z_r a2), (3, z_r a3), (4, z_i x4), (5, z_i x5), (6, z_i x6), (7, z_i x7), (8, z_i x8), (9, z_i x9), (13, z_i x13), (14, z_i x14), (15, z_i x15)]) [0, 1, 2, 3, 4, 5, 6, 7, 8, 10, 11, 12] rfl ?_
        exact hJ9
    refine z_aload_n 0 dL_gaps_409 rfl rfl ?_
    refine z_iload 3 dL_gaps_410 rfl ?_
    refine z_iload 4 dL_gaps_412 rfl ?_
    refine z_iload 5 dL_gaps_414 rfl ?_
    refine z_iload 6 dL_gaps_416 rfl ?_
    refine z_iconst dL_gaps_418 (by decide) ?_
    refine z_callV (As := [z_i x4, z_i x5, z_i x6, z_i x7, z_i 0]) (rest := []) zmX8_ring znX8_ring zsX8_ring (show z_Cl[8]? = some (RX8, TX8, 9) from rfl) zlRL_222 ⟨Nat.le_of_ble_eq_true rfl, Nat.le_of_ble_eq_true rfl⟩ dL_gaps_419 hh0.1 rfl rfl (z_ai (z_ai (z_ai (z_ai (z_ai z_a0))))) (Nat.le_of_ble_eq_true rfl) (Nat.le_of_ble_eq_true rfl) ⟨rfl, rfl⟩ (z_CIm h ?_)
    intro y16 w15 h
    show z_Sem mL_gaps (sh.length, 0) 422 [(0, z_r 0), (2, z_r a2), (3, z_r a3), (4, z_i x4), (5, z_i x5), (6, z_i x6), (7, z_i x7), (8, z_i x8), (9, z_i x9), (13, z_i x13), (14, z_i x14), (15, z_i x15)] [z_i y16] (sh, w15) Q
    refine z_aload_n 0 dL_gaps_422 rfl rfl ?_
    refine z_iload 3 dL_gaps_423 rfl ?_
    refine z_iload 4 dL_gaps_425 rfl ?_
    refine z_iload 5 dL_gaps_427 rfl ?_
    refine z_iload 6 dL_gaps_429 rfl ?_
    refine z_iconst dL_gaps_431 (by decide) ?_
    refine z_callV (As := [z_i x4, z_i x5, z_i x6, z_i x7, z_i 2]) (rest := [z_i y16]) zmX8_why znX8_why zsX8_why (show z_Cl[8]? = some (RX8, TX8, 9) from rfl) zlRL_206 ⟨Nat.le_of_ble_eq_true rfl, Nat.le_of_ble_eq_true rfl⟩ dL_gaps_432 hh0.1 rfl rfl (z_ai (z_ai (z_ai (z_ai (z_ai z_a0))))) (Nat.le_of_ble_eq_true rfl) (Nat.le_of_ble_eq_true rfl) ⟨rfl, rfl⟩ (z_CIm h ?_)
    intro y18 w17 h
    show z_Sem mL_gaps (sh.length, 0) 435 [(0, z_r 0), (2, z_r a2), (3, z_r a3), (4, z_i x4), (5, z_i x5), (6, z_i x6), (7, z_i x7), (8, z_i x8), (9, z_i x9), (13, z_i x13), (14, z_i x14), (15, z_i x15)] [z_i y18, z_i y16] (sh, w17) Q
    obtain ⟨q19, h⟩ := h
    refine z_icmp_ne (tgt := 464) dL_gaps_435 (by decide) (fun c => absurd q19 c) (fun _ => ?_)
    refine z_iload 5 dL_gaps_438 rfl ?_
    obtain ⟨m22, m23, h⟩ := h
    suffices hJ20 : z_Sem mL_gaps (sh.length, 0) 460 [(0, z_r 0), (2, z_r a2), (3, z_r a3), (4, z_i x4), (5, z_i x5), (6, z_i x6), (7, z_i x7), (8, z_i x8), (9, z_i x9), (13, z_i x13), (14, z_i x14), (15, z_i x15)] [] (sh, w17) Q by
      refine z_if_ne (tgt := 453) dL_gaps_440 (by decide) (fun c21 => ?_) (fun c21 => ?_)
      · skip
        have ho24 := m23 c21
        refine z_iload 11 dL_gaps_453 rfl ?_
        refine z_iload 6 dL_gaps_455 rfl ?_
        obtain ⟨q25, ho24⟩ := ho24
        refine z_icmp_ge (tgt := 464) dL_gaps_457 (by decide) (fun c => absurd c q25) (fun _ => ?_)
        exact hJ20
      · skip
        have ho26 := m22 c21
        refine z_iload 11 dL_gaps_443 rfl ?_
        refine z_iload 6 dL_gaps_445 rfl ?_
        obtain ⟨q27, ho26⟩ := ho26
        refine z_icmp_le (tgt := 464) dL_gaps_447 (by decide) (fun c => absurd c q27) (fun _ => ?_)
        refine z_goto (tgt := 460) dL_gaps_450 (by decide) ?_
        exact hJ20
    refine z_iconst dL_gaps_460 (by decide) ?_
    refine z_goto (tgt := 465) dL_gaps_461 (by decide) ?_
    refine z_istore (L' := [(16, z_i 1), (0, z_r 0), (2, z_r a2), (3, z_r a3), (4, z_i x4), (5, z_i x5), (6, z_i x6), (7, z_i x7), (8, z_i x8), (9, z_i x9), (13, z_i x13), (14, z_i x14), (15, z_i x15)]) dL_gaps_465 (by decide) rfl ?_
    refine z_iload 11 dL_gaps_467 rfl ?_
    refine z_if_lt (tgt := 516) dL_gaps_469 (by decide) (fun c28 => ?_) (fun c28 => ?_)
    · replace h := h.1 c28
      refine z_sub (L' := [(0, z_r 0), (2, z_r a2), (3, z_r a3), (4, z_i x4), (5, z_i x5), (6, z_i x6), (7, z_i x7), (8, z_i x8), (9, z_i x9), (13, z_i x13), (15, z_i x15), (16, z_i 1)]) [1, 2, 3, 4, 5, 6, 7, 8, 9, 10, 12, 0] rfl ?_
      exact h
    · replace h := h.2 c28
      refine z_iload 0 dL_gaps_472 rfl ?_
      refine z_if_eq (tgt := 516) dL_gaps_474 (by decide) (fun c => absurd c (by decide)) (fun _ => ?_)
      refine z_aload_n 1 dL_gaps_477 rfl rfl ?_
      refine z_iload 11 dL_gaps_478 rfl ?_
      refine z_callV (As := [z_i x14]) (rest := []) zmX8_turn znX8_turn zsX8_turn (show z_Cl[8]? = some (RX8, TX8, 9) from rfl) zlRL_116 ⟨Nat.le_of_ble_eq_true rfl, Nat.le_of_ble_eq_true rfl⟩ dL_gaps_480 hh0.1 rfl rfl (z_ai z_a0) (Nat.le_of_ble_eq_true rfl) (Nat.le_of_ble_eq_true rfl) ⟨rfl, rfl⟩ (z_CIm h ?_)
      intro y30 w29 h
      show z_Sem mL_gaps (sh.length, 0) 483 [(16, z_i 1), (0, z_r 0), (2, z_r a2), (3, z_r a3), (4, z_i x4), (5, z_i x5), (6, z_i x6), (7, z_i x7), (8, z_i x8), (9, z_i x9), (13, z_i x13), (14, z_i x14), (15, z_i x15)] [z_i y30] (sh, w29) Q
      obtain ⟨q31, h⟩ := h
      refine z_if_ne (tgt := 513) dL_gaps_483 (by decide) (fun c => absurd q31 c) (fun _ => ?_)
      refine z_aload_n 1 dL_gaps_486 rfl rfl ?_
      refine z_iload 4 dL_gaps_487 rfl ?_
      refine z_iload 5 dL_gaps_489 rfl ?_
      refine z_iload 6 dL_gaps_491 rfl ?_
      refine z_iload 7 dL_gaps_493 rfl ?_
      refine z_iconst dL_gaps_495 (by decide) ?_
      refine z_callV (As := [z_i x4, z_i x5, z_i x6, z_i x7, z_i 0]) (rest := []) zmX8_why znX8_why zsX8_why (show z_Cl[8]? = some (RX8, TX8, 9) from rfl) zlRL_206 ⟨Nat.le_of_ble_eq_true rfl, Nat.le_of_ble_eq_true rfl⟩ dL_gaps_496 hh0.1 rfl rfl (z_ai (z_ai (z_ai (z_ai (z_ai z_a0))))) (Nat.le_of_ble_eq_true rfl) (Nat.le_of_ble_eq_true rfl) ⟨rfl, rfl⟩ (z_CIm h ?_)
      intro y33 w32 h
      show z_Sem mL_gaps (sh.length, 0) 499 [(16, z_i 1), (0, z_r 0), (2, z_r a2), (3, z_r a3), (4, z_i x4), (5, z_i x5), (6, z_i x6), (7, z_i x7), (8, z_i x8), (9, z_i x9), (13, z_i x13), (14, z_i x14), (15, z_i x15)] [z_i y33] (sh, w32) Q
      obtain ⟨q34, h⟩ := h
      refine z_if_ne (tgt := 513) dL_gaps_499 (by decide) (fun c => absurd q34 c) (fun _ => ?_)
      refine z_aload_n 1 dL_gaps_502 rfl rfl ?_
      refine z_callV (As := []) (rest := []) zmX8_undo znX8_undo zsX8_undo (show z_Cl[8]? = some (RX8, TX8, 9) from rfl) zlRL_225 ⟨Nat.le_of_ble_eq_true rfl, Nat.le_of_ble_eq_true rfl⟩ dL_gaps_503 hh0.1 rfl rfl z_a0 (Nat.le_of_ble_eq_true rfl) (Nat.le_of_ble_eq_true rfl) ⟨rfl, rfl⟩ (z_CIm h ?_)
      intro y36 w35 h
      show z_Sem mL_gaps (sh.length, 0) 506 [(16, z_i 1), (0, z_r 0), (2, z_r a2), (3, z_r a3), (4, z_i x4), (5, z_i x5), (6, z_i x6), (7, z_i x7), (8, z_i x8), (9, z_i x9), (13, z_i x13), (14, z_i x14), (15, z_i x15)] [z_i y36] (sh, w35) Q
      obtain ⟨q37, h⟩ := h
      refine z_if_lt (tgt := 513) dL_gaps_506 (by decide) (fun c => absurd c q37) (fun _ => ?_)
      refine z_iconst dL_gaps_509 (by decide) ?_
      refine z_goto (tgt := 514) dL_gaps_510 (by decide) ?_
      refine z_istore (L' := [(16, z_i 1), (0, z_r 0), (2, z_r a2), (3, z_r a3), (4, z_i x4), (5, z_i x5), (6, z_i x6), (7, z_i x7), (8, z_i x8), (9, z_i x9), (13, z_i x13), (14, z_i x14), (15, z_i x15)]) dL_gaps_514 (by decide) rfl ?_
      refine z_sub (L' := [(0, z_r 0), (2, z_r a2), (3, z_r a3), (4, z_i x4), (5, z_i x5), (6, z_i x6), (7, z_i x7), (8, z_i x8), (9, z_i x9), (13, z_i x13), (15, z_i x15), (16, z_i 1)]) [1, 2, 3, 4, 5, 6, 7, 8, 9, 10, 12, 0] rfl ?_
      exact h
  · replace h := h.2 c3
    refine z_iload 15 dL_gaps_347 rfl ?_
    refine z_aload_n 0 dL_gaps_349 rfl rfl ?_
    refine z_aload_n 0 dL_gaps_350 rfl rfl ?_
    refine z_iload 3 dL_gaps_351 rfl ?_
    refine z_iload 4 dL_gaps_353 rfl ?_
    refine z_iload 5 dL_gaps_355 rfl ?_
    refine z_iload 6 dL_gaps_357 rfl ?_
    refine z_iload 16 dL_gaps_359 rfl ?_
    refine z_callV (As := [z_i x4, z_i x5, z_i x6, z_i x7, z_i x20]) (rest := [z_r 0, z_i x19]) zmX8_ring znX8_ring zsX8_ring (show z_Cl[8]? = some (RX8, TX8, 9) from rfl) zlRL_222 ⟨Nat.le_of_ble_eq_true rfl, Nat.le_of_ble_eq_true rfl⟩ dL_gaps_361 hh0.1 rfl rfl (z_ai (z_ai (z_ai (z_ai (z_ai z_a0))))) (Nat.le_of_ble_eq_true rfl) (Nat.le_of_ble_eq_true rfl) ⟨rfl, rfl⟩ (z_CIm h ?_)
    intro y39 w38 h
    show z_Sem mL_gaps (sh.length, 0) 364 [(0, z_r 0), (2, z_r a2), (3, z_r a3), (4, z_i x4), (5, z_i x5), (6, z_i x6), (7, z_i x7), (8, z_i x8), (9, z_i x9), (10, z_i x10), (13, z_i x13), (14, z_i x14), (15, z_i x15), (17, z_i x17), (18, z_i x18), (19, z_i x19), (20, z_i x20)] [z_i y39, z_r 0, z_i x19] (sh, w38) Q
    refine z_callS (As := [z_r 0, z_i y39]) (rest := [z_i x19]) zmL_lengthOf ztL_lengthOf zlRL_188 ⟨Nat.le_of_ble_eq_true rfl, Nat.le_of_ble_eq_true rfl⟩ dL_gaps_364 rfl rfl (z_ar (z_ai z_a0)) (Nat.le_of_ble_eq_true rfl) (Nat.le_of_ble_eq_true rfl) ⟨rfl, rfl⟩ (z_CIm h ?_)
    intro y41 w40 h
    show z_Sem mL_gaps (sh.length, 0) 367 [(0, z_r 0), (2, z_r a2), (3, z_r a3), (4, z_i x4), (5, z_i x5), (6, z_i x6), (7, z_i x7), (8, z_i x8), (9, z_i x9), (10, z_i x10), (13, z_i x13), (14, z_i x14), (15, z_i x15), (17, z_i x17), (18, z_i x18), (19, z_i x19), (20, z_i x20)] [z_i y41, z_i x19] (sh, w40) Q
    obtain ⟨q42, h⟩ := h
    refine z_iadd dL_gaps_367 q42 ?_
    refine z_istore (L' := [(19, z_i (x19 + y41)), (0, z_r 0), (2, z_r a2), (3, z_r a3), (4, z_i x4), (5, z_i x5), (6, z_i x6), (7, z_i x7), (8, z_i x8), (9, z_i x9), (10, z_i x10), (13, z_i x13), (14, z_i x14), (15, z_i x15), (17, z_i x17), (18, z_i x18), (20, z_i x20)]) dL_gaps_368 (by decide) rfl ?_
    obtain ⟨q43, h⟩ := h
    refine z_iinc (L' := [(20, z_i (x20 + 1)), (19, z_i (x19 + y41)), (0, z_r 0), (2, z_r a2), (3, z_r a3), (4, z_i x4), (5, z_i x5), (6, z_i x6), (7, z_i x7), (8, z_i x8), (9, z_i x9), (10, z_i x10), (13, z_i x13), (14, z_i x14), (15, z_i x15), (17, z_i x17), (18, z_i x18)]) 16 dL_gaps_370 rfl (by decide) rfl q43 ?_
    refine z_goto (tgt := 330) dL_gaps_373 (by decide) ?_
    refine z_sub (L' := [(0, z_r 0), (2, z_r a2), (3, z_r a3), (4, z_i x4), (5, z_i x5), (6, z_i x6), (7, z_i x7), (8, z_i x8), (9, z_i x9), (10, z_i x10), (13, z_i x13), (14, z_i x14), (15, z_i x15), (17, z_i x17), (18, z_i x18), (19, z_i (x19 + y41)), (20, z_i (x20 + 1))]) [2, 3, 4, 5, 6, 7, 8, 9, 10, 11, 12, 13, 14, 15, 16, 1, 0] rfl ?_
    exact h
set_option maxRecDepth 100000 in
theorem t_L_gaps_605 {sh : List z_C} {w : Nat → Int → Int} {Q : Option z_V → z_S → Prop} {a1 : Nat} {a2 : Nat} {a3 : Nat} {x4 : Int} {x5 : Int} {x6 : Int} {x8 : Int} {x15 : Int} (hh0 : z_isTG sh 0) (hh1 : sh[a1]? = some (.inr (.inl (0, 8)))) (hh2 : sh[a2]? = some (.inr (.inl (0, 400)))) (hh3 : sh[a3]? = some (.inr (.inl (0, 400)))) (h : z_CI mX8_undo [z_r 0] sh w (fun y2 w1 => (¬ y2 < 0) ∧ z_CI mL_isAs [z_r 0, z_r a2, z_i x8, z_r a3] sh w1 (fun y5 w4 => (¬ y5 = 0) ∧ ((x15 < 0 → z_Sem mL_gaps (sh.length, 0) 736 [(0, z_r 0), (2, z_r a2), (3, z_r a3), (8, z_i x8), (16, z_i 1)] [] (sh, w4) Q) ∧ (¬ x15 < 0 → z_CI mX8_tell [z_r 0, z_i x4, z_i x5, z_i x6, z_i x15] sh w4 (fun y9 w8 => (¬ y9 < 0) ∧ z_CI mX8_undo [z_r 0] sh w8 (fun y12 w11 => (¬ y12 < 0) ∧ (x6 = 0 → (z_R (x15 - 1)) ∧ True) ∧ (¬ x6 = 0 → (z_R (x15 + 1)) ∧ True) ∧ ∀ y22 : Int, y22 = (if x6 = 0 then x15 - 1 else x15 + 1) → ((y22 < 0 → z_Sem mL_gaps (sh.length, 0) 729 [(0, z_r 0), (2, z_r a2), (3, z_r a3), (8, z_i x8)] [] (sh, w11) Q) ∧ (¬ y22 < 0 → ((999 < y22 → z_Sem mL_gaps (sh.length, 0) 729 [(0, z_r 0), (2, z_r a2), (3, z_r a3), (8, z_i x8)] [] (sh, w11) Q) ∧ (¬ 999 < y22 → z_CI mX8_tell [z_r 0, z_i x4, z_i x5, z_i x6, z_i y22] sh w11 (fun y26 w25 => (y26 = (-5)) ∧ z_CI mX8_undo [z_r 0] sh w25 (fun y29 w28 => (¬ y29 < 0) ∧ z_Sem mL_gaps (sh.length, 0) 729 [(0, z_r 0), (2, z_r a2), (3, z_r a3), (8, z_i x8)] [] (sh, w28) Q))))))))))))) : z_Sem mL_gaps (sh.length, 0) 605 [(0, z_r 0), (2, z_r a2), (3, z_r a3), (4, z_i x4), (5, z_i x5), (6, z_i x6), (8, z_i x8), (15, z_i x15)] [] (sh, w) Q := by
  refine z_aload_n 0 dL_gaps_605 rfl rfl ?_
  refine z_callV (As := []) (rest := []) zmX8_undo znX8_undo zsX8_undo (show z_Cl[8]? = some (RX8, TX8, 9) from rfl) zlRL_225 ⟨Nat.le_of_ble_eq_true rfl, Nat.le_of_ble_eq_true rfl⟩ dL_gaps_606 hh0.1 rfl rfl z_a0 (Nat.le_of_ble_eq_true rfl) (Nat.le_of_ble_eq_true rfl) ⟨rfl, rfl⟩ (z_CIm h ?_)
  intro y2 w1 h
  show z_Sem mL_gaps (sh.length, 0) 609 [(0, z_r 0), (2, z_r a2), (3, z_r a3), (4, z_i x4), (5, z_i x5), (6, z_i x6), (8, z_i x8), (15, z_i x15)] [z_i y2] (sh, w1) Q
  obtain ⟨q3, h⟩ := h
  refine z_if_lt (tgt := 627) dL_gaps_609 (by decide) (fun c => absurd c q3) (fun _ => ?_)
  refine z_aload_n 0 dL_gaps_612 rfl rfl ?_
  refine z_aload_n 1 dL_gaps_613 rfl rfl ?_
  refine z_iload 6 dL_gaps_614 rfl ?_
  refine z_aload_n 2 dL_gaps_616 rfl rfl ?_
  refine z_callS (As := [z_r 0, z_r a2, z_i x8, z_r a3]) (rest := []) zmL_isAs ztL_isAs zlRL_218 ⟨Nat.le_of_ble_eq_true rfl, Nat.le_of_ble_eq_true rfl⟩ dL_gaps_617 rfl rfl (z_ar (z_ar (z_ai (z_ar z_a0)))) (Nat.le_of_ble_eq_true rfl) (Nat.le_of_ble_eq_true rfl) ⟨rfl, rfl⟩ (z_CIm h ?_)
  intro y5 w4 h
  show z_Sem mL_gaps (sh.length, 0) 620 [(0, z_r 0), (2, z_r a2), (3, z_r a3), (4, z_i x4), (5, z_i x5), (6, z_i x6), (8, z_i x8), (15, z_i x15)] [z_i y5] (sh, w4) Q
  obtain ⟨q6, h⟩ := h
  refine z_if_eq (tgt := 627) dL_gaps_620 (by decide) (fun c => absurd c q6) (fun _ => ?_)
  refine z_iconst dL_gaps_623 (by decide) ?_
  refine z_goto (tgt := 628) dL_gaps_624 (by decide) ?_
  refine z_istore (L' := [(16, z_i 1), (0, z_r 0), (2, z_r a2), (3, z_r a3), (4, z_i x4), (5, z_i x5), (6, z_i x6), (8, z_i x8), (15, z_i x15)]) dL_gaps_628 (by decide) rfl ?_
  refine z_iload 8 dL_gaps_630 rfl ?_
  refine z_if_lt (tgt := 736) dL_gaps_632 (by decide) (fun c7 => ?_) (fun c7 => ?_)
  · replace h := h.1 c7
    refine z_sub (L' := [(0, z_r 0), (2, z_r a2), (3, z_r a3), (8, z_i x8), (16, z_i 1)]) [1, 2, 3, 7, 0] rfl ?_
    exact h
  · replace h := h.2 c7
    refine z_iload 0 dL_gaps_635 rfl ?_
    refine z_if_eq (tgt := 736) dL_gaps_637 (by decide) (fun c => absurd c (by decide)) (fun _ => ?_)
    refine z_aload_n 1 dL_gaps_640 rfl rfl ?_
    refine z_iload 4 dL_gaps_641 rfl ?_
    refine z_iload 5 dL_gaps_643 rfl ?_
    refine z_iload 6 dL_gaps_645 rfl ?_
    refine z_iload 8 dL_gaps_647 rfl ?_
    refine z_callV (As := [z_i x4, z_i x5, z_i x6, z_i x15]) (rest := []) zmX8_tell znX8_tell zsX8_tell (show z_Cl[8]? = some (RX8, TX8, 9) from rfl) zlRL_106 ⟨Nat.le_of_ble_eq_true rfl, Nat.le_of_ble_eq_true rfl⟩ dL_gaps_649 hh0.1 rfl rfl (z_ai (z_ai (z_ai (z_ai z_a0)))) (Nat.le_of_ble_eq_true rfl) (Nat.le_of_ble_eq_true rfl) ⟨rfl, rfl⟩ (z_CIm h ?_)
    intro y9 w8 h
    show z_Sem mL_gaps (sh.length, 0) 652 [(16, z_i 1), (0, z_r 0), (2, z_r a2), (3, z_r a3), (4, z_i x4), (5, z_i x5), (6, z_i x6), (8, z_i x8), (15, z_i x15)] [z_i y9] (sh, w8) Q
    obtain ⟨q10, h⟩ := h
    refine z_if_lt (tgt := 666) dL_gaps_652 (by decide) (fun c => absurd c q10) (fun _ => ?_)
    refine z_aload_n 1 dL_gaps_655 rfl rfl ?_
    refine z_callV (As := []) (rest := []) zmX8_undo znX8_undo zsX8_undo (show z_Cl[8]? = some (RX8, TX8, 9) from rfl) zlRL_225 ⟨Nat.le_of_ble_eq_true rfl, Nat.le_of_ble_eq_true rfl⟩ dL_gaps_656 hh0.1 rfl rfl z_a0 (Nat.le_of_ble_eq_true rfl) (Nat.le_of_ble_eq_true rfl) ⟨rfl, rfl⟩ (z_CIm h ?_)
    intro y12 w11 h
    show z_Sem mL_gaps (sh.length, 0) 659 [(16, z_i 1), (0, z_r 0), (2, z_r a2), (3, z_r a3), (4, z_i x4), (5, z_i x5), (6, z_i x6), (8, z_i x8), (15, z_i x15)] [z_i y12] (sh, w11) Q
    obtain ⟨q13, h⟩ := h
    refine z_if_lt (tgt := 666) dL_gaps_659 (by decide) (fun c => absurd c q13) (fun _ => ?_)
    refine z_iconst dL_gaps_662 (by decide) ?_
    refine z_goto (tgt := 667) dL_gaps_663 (by decide) ?_
    refine z_istore (L' := [(16, z_i 1), (0, z_r 0), (2, z_r a2), (3, z_r a3), (4, z_i x4), (5, z_i x5), (6, z_i x6), (8, z_i x8), (15, z_i x15)]) dL_gaps_667 (by decide) rfl ?_
    refine z_iload 6 dL_gaps_669 rfl ?_
    obtain ⟨m16, m17, h⟩ := h
    suffices hJ14 : z_Sem mL_gaps (sh.length, 0) 685 [(0, z_r 0), (2, z_r a2), (3, z_r a3), (4, z_i x4), (5, z_i x5), (6, z_i x6), (8, z_i x8), (16, z_i 1)] [z_i (if x6 = 0 then x15 - 1 else x15 + 1)] (sh, w11) Q by
      refine z_if_ne (tgt := 681) dL_gaps_671 (by decide) (fun c15 => ?_) (fun c15 => ?_)
      · skip
        have ho18 := m17 c15
        refine z_iload 8 dL_gaps_681 rfl ?_
        refine z_iconst dL_gaps_683 (by decide) ?_
        obtain ⟨q19, ho18⟩ := ho18
        refine z_iadd dL_gaps_684 q19 ?_
        refine z_sub (L' := [(0, z_r 0), (2, z_r a2), (3, z_r a3), (4, z_i x4), (5, z_i x5), (6, z_i x6), (8, z_i x8), (16, z_i 1)]) [1, 2, 3, 4, 5, 6, 7, 0] rfl ?_
        simp only [if_neg c15] at hJ14
        exact hJ14
      · skip
        have ho20 := m16 c15
        refine z_iload 8 dL_gaps_674 rfl ?_
        refine z_iconst dL_gaps_676 (by decide) ?_
        obtain ⟨q21, ho20⟩ := ho20
        refine z_isub dL_gaps_677 q21 ?_
        refine z_goto (tgt := 685) dL_gaps_678 (by decide) ?_
        refine z_sub (L' := [(0, z_r 0), (2, z_r a2), (3, z_r a3), (4, z_i x4), (5, z_i x5), (6, z_i x6), (8, z_i x8), (16, z_i 1)]) [1, 2, 3, 4, 5, 6, 7, 0] rfl ?_
        simp only [if_pos c15] at hJ14
        exact hJ14
    refine z_nam (fun y22 hy22 => ?_)
    replace h := h y22 hy22
    refine z_istore (L' := [(18, z_i y22), (0, z_r 0), (2, z_r a2), (3, z_r a3), (4, z_i x4), (5, z_i x5), (6, z_i x6), (8, z_i x8), (16, z_i 1)]) dL_gaps_685 (by decide) rfl ?_
    refine z_iload 8 dL_gaps_687 rfl ?_
    refine z_if_eq (tgt := 733) dL_gaps_689 (by decide) (fun c => absurd c (by decide)) (fun _ => ?_)
    refine z_iload 0 dL_gaps_692 rfl ?_
    refine z_if_lt (tgt := 729) dL_gaps_694 (by decide) (fun c23 => ?_) (fun c23 => ?_)
    · replace h := h.1 c23
      refine z_sub (L' := [(0, z_r 0), (2, z_r a2), (3, z_r a3), (8, z_i x8)]) [1, 2, 3, 7] rfl ?_
      exact h
    · replace h := h.2 c23
      refine z_iload 0 dL_gaps_697 rfl ?_
      refine z_sipush dL_gaps_699 (by decide) (by decide) ?_
      refine z_icmp_gt (tgt := 729) dL_gaps_702 (by decide) (fun c24 => ?_) (fun c24 => ?_)
      · replace h := h.1 c24
        refine z_sub (L' := [(0, z_r 0), (2, z_r a2), (3, z_r a3), (8, z_i x8)]) [1, 2, 3, 7] rfl ?_
        exact h
      · replace h := h.2 c24
        refine z_aload_n 1 dL_gaps_705 rfl rfl ?_
        refine z_iload 4 dL_gaps_706 rfl ?_
        refine z_iload 5 dL_gaps_708 rfl ?_
        refine z_iload 6 dL_gaps_710 rfl ?_
        refine z_iload 0 dL_gaps_712 rfl ?_
        refine z_callV (As := [z_i x4, z_i x5, z_i x6, z_i y22]) (rest := []) zmX8_tell znX8_tell zsX8_tell (show z_Cl[8]? = some (RX8, TX8, 9) from rfl) zlRL_106 ⟨Nat.le_of_ble_eq_true rfl, Nat.le_of_ble_eq_true rfl⟩ dL_gaps_714 hh0.1 rfl rfl (z_ai (z_ai (z_ai (z_ai z_a0)))) (Nat.le_of_ble_eq_true rfl) (Nat.le_of_ble_eq_true rfl) ⟨rfl, rfl⟩ (z_CIm h ?_)
        intro y26 w25 h
        show z_Sem mL_gaps (sh.length, 0) 717 [(18, z_i y22), (0, z_r 0), (2, z_r a2), (3, z_r a3), (4, z_i x4), (5, z_i x5), (6, z_i x6), (8, z_i x8), (16, z_i 1)] [z_i y26] (sh, w25) Q
        refine z_bipush dL_gaps_717 (by decide) (by decide) ?_
        obtain ⟨q27, h⟩ := h
        refine z_icmp_ne (tgt := 733) dL_gaps_719 (by decide) (fun c => absurd q27 c) (fun _ => ?_)
        refine z_aload_n 1 dL_gaps_722 rfl rfl ?_
        refine z_callV (As := []) (rest := []) zmX8_undo znX8_undo zsX8_undo (show z_Cl[8]? = some (RX8, TX8, 9) from rfl) zlRL_225 ⟨Nat.le_of_ble_eq_true rfl, Nat.le_of_ble_eq_true rfl⟩ dL_gaps_723 hh0.1 rfl rfl z_a0 (Nat.le_of_ble_eq_true rfl) (Nat.le_of_ble_eq_true rfl) ⟨rfl, rfl⟩ (z_CIm h ?_)
        intro y29 w28 h
        show z_Sem mL_gaps (sh.length, 0) 726 [(18, z_i y22), (0, z_r 0), (2, z_r a2), (3, z_r a3), (4, z_i x4), (5, z_i x5), (6, z_i x6), (8, z_i x8), (16, z_i 1)] [z_i y29] (sh, w28) Q
        obtain ⟨q30, h⟩ := h
        refine z_if_lt (tgt := 733) dL_gaps_726 (by decide) (fun c => absurd c q30) (fun _ => ?_)
        refine z_sub (L' := [(0, z_r 0), (2, z_r a2), (3, z_r a3), (8, z_i x8)]) [1, 2, 3, 7] rfl ?_
        exact h
set_option maxRecDepth 100000 in
theorem t_L_gaps_736 {sh : List z_C} {w : Nat → Int → Int} {Q : Option z_V → z_S → Prop} {a1 : Nat} {a2 : Nat} {a3 : Nat} {x8 : Int} (hh0 : z_isTG sh 0) (hh1 : sh[a1]? = some (.inr (.inl (0, 8)))) (hh2 : sh[a2]? = some (.inr (.inl (0, 400)))) (hh3 : sh[a3]? = some (.inr (.inl (0, 400)))) (h : z_CI mL_isAs [z_r 0, z_r a2, z_i x8, z_r a3] sh w (fun y2 w1 => (¬ y2 = 0) ∧ Q (some (z_i 1)) (sh, w1))) : z_Sem mL_gaps (sh.length, 0) 736 [(0, z_r 0), (2, z_r a2), (3, z_r a3), (8, z_i x8), (16, z_i 1)] [] (sh, w) Q := by
  refine z_iload 4 dL_gaps_736 rfl ?_
  refine z_if_eq (tgt := 756) dL_gaps_738 (by decide) (fun c => absurd c (by decide)) (fun _ => ?_)
  refine z_aload_n 0 dL_gaps_741 rfl rfl ?_
  refine z_aload_n 1 dL_gaps_742 rfl rfl ?_
  refine z_iload 3 dL_gaps_743 rfl ?_
  refine z_aload_n 2 dL_gaps_745 rfl rfl ?_
  refine z_callS (As := [z_r 0, z_r a2, z_i x8, z_r a3]) (rest := []) zmL_isAs ztL_isAs zlRL_218 ⟨Nat.le_of_ble_eq_true rfl, Nat.le_of_ble_eq_true rfl⟩ dL_gaps_746 rfl rfl (z_ar (z_ar (z_ai (z_ar z_a0)))) (Nat.le_of_ble_eq_true rfl) (Nat.le_of_ble_eq_true rfl) ⟨rfl, rfl⟩ (z_CIm h ?_)
  intro y2 w1 h
  show z_Sem mL_gaps (sh.length, 0) 749 [(0, z_r 0), (2, z_r a2), (3, z_r a3), (8, z_i x8), (16, z_i 1)] [z_i y2] (sh, w1) Q
  obtain ⟨q3, h⟩ := h
  refine z_if_eq (tgt := 756) dL_gaps_749 (by decide) (fun c => absurd c q3) (fun _ => ?_)
  refine z_iconst dL_gaps_752 (by decide) ?_
  refine z_goto (tgt := 757) dL_gaps_753 (by decide) ?_
  exact z_ret (v := some (z_i 1)) dL_gaps_757 ⟨rfl, Or.inr (Or.inl ⟨rfl, (by decide)⟩)⟩ rfl h
set_option maxRecDepth 100000 in
theorem t_L_gaps_729 {sh : List z_C} {w : Nat → Int → Int} {Q : Option z_V → z_S → Prop} {a1 : Nat} {a2 : Nat} {a3 : Nat} {x8 : Int} (hh0 : z_isTG sh 0) (hh1 : sh[a1]? = some (.inr (.inl (0, 8)))) (hh2 : sh[a2]? = some (.inr (.inl (0, 400)))) (hh3 : sh[a3]? = some (.inr (.inl (0, 400)))) (h : z_Sem mL_gaps (sh.length, 0) 736 [(0, z_r 0), (2, z_r a2), (3, z_r a3), (8, z_i x8), (16, z_i 1)] [] (sh, w) Q) : z_Sem mL_gaps (sh.length, 0) 729 [(0, z_r 0), (2, z_r a2), (3, z_r a3), (8, z_i x8)] [] (sh, w) Q := by
  refine z_iconst dL_gaps_729 (by decide) ?_
  refine z_goto (tgt := 734) dL_gaps_730 (by decide) ?_
  refine z_istore (L' := [(16, z_i 1), (0, z_r 0), (2, z_r a2), (3, z_r a3), (8, z_i x8)]) dL_gaps_734 (by decide) rfl ?_
  refine z_sub (L' := [(0, z_r 0), (2, z_r a2), (3, z_r a3), (8, z_i x8), (16, z_i 1)]) [1, 2, 3, 4, 0] rfl ?_
  exact h
set_option maxRecDepth 100000 in
theorem t_L_foretold {sh : List z_C} {w : Nat → Int → Int} {Q : Option z_V → z_S → Prop} {a1 : Nat} {a2 : Nat} {a3 : Nat} (hh0 : z_isTG sh 0) (hh1 : sh[a1]? = some (.inr (.inl (0, 8)))) (hh2 : sh[a2]? = some (.inr (.inl (0, 400)))) (hh3 : sh[a3]? = some (.inr (.inl (0, 400)))) (h : z_CI mL_tells [z_r 0, z_r a2] sh w (fun y2 w1 => z_CI mL_gaps [z_r 0, z_r a1, z_r a2, z_r a3] sh w1 (fun y4 w3 => (¬ y4 = 0) ∧ z_CI mL_bear [z_r 0, z_i 2] sh w3 (fun y7 w6 => (¬ y7 = 0) ∧ z_CI mX8_leastEnd [z_r 0] sh w6 (fun y10 w9 => z_CI mX8_end [z_r 0, z_i y10] sh w9 (fun y12 w11 => (¬ y12 = (-2) → (¬ y12 < 0) ∧ True) ∧ ((y10 = 1 → z_Sem mL_foretold (sh.length, 0) 82 [(0, z_r 0), (1, z_r a1), (2, z_r a2), (3, z_r a3), (4, z_i y2), (7, z_i y12)] [] (sh, w11) Q) ∧ (¬ y10 = 1 → (z_R (y10 - 1)) ∧ z_CI mX8_end [z_r 0, z_i (y10 - 1)] sh w11 (fun y22 w21 => (y22 = (-5)) ∧ z_Sem mL_foretold (sh.length, 0) 82 [(0, z_r 0), (1, z_r a1), (2, z_r a2), (3, z_r a3), (4, z_i y2), (7, z_i y12)] [] (sh, w21) Q))))))))) : z_Sem mL_foretold (sh.length, 0) 0 [(0, z_r 0), (1, z_r a1), (2, z_r a2), (3, z_r a3)] [] (sh, w) Q := by
  refine z_aload_n 0 dL_foretold_0 rfl rfl ?_
  refine z_aload_n 2 dL_foretold_1 rfl rfl ?_
  refine z_callS (As := [z_r 0, z_r a2]) (rest := []) zmL_tells ztL_tells zlRL_160 ⟨Nat.le_of_ble_eq_true rfl, Nat.le_of_ble_eq_true rfl⟩ dL_foretold_2 rfl rfl (z_ar (z_ar z_a0)) (Nat.le_of_ble_eq_true rfl) (Nat.le_of_ble_eq_true rfl) ⟨rfl, rfl⟩ (z_CIm h ?_)
  intro y2 w1 h
  show z_Sem mL_foretold (sh.length, 0) 5 [(0, z_r 0), (1, z_r a1), (2, z_r a2), (3, z_r a3)] [z_i y2] (sh, w1) Q
  refine z_istore (L' := [(4, z_i y2), (0, z_r 0), (1, z_r a1), (2, z_r a2), (3, z_r a3)]) dL_foretold_5 (by decide) rfl ?_
  refine z_aload_n 1 dL_foretold_7 rfl rfl ?_
  refine z_aload_n 2 dL_foretold_8 rfl rfl ?_
  refine z_aload_n 3 dL_foretold_9 rfl rfl ?_
  refine z_aload_n 4 dL_foretold_10 rfl rfl ?_
  refine z_callS (As := [z_r 0, z_r a1, z_r a2, z_r a3]) (rest := []) zmL_gaps ztL_gaps zlRL_231 ⟨Nat.le_of_ble_eq_true rfl, Nat.le_of_ble_eq_true rfl⟩ dL_foretold_11 rfl rfl (z_ar (z_ar (z_ar (z_ar z_a0)))) (Nat.le_of_ble_eq_true rfl) (Nat.le_of_ble_eq_true rfl) ⟨rfl, rfl⟩ (z_CIm h ?_)
  intro y4 w3 h
  show z_Sem mL_foretold (sh.length, 0) 14 [(4, z_i y2), (0, z_r 0), (1, z_r a1), (2, z_r a2), (3, z_r a3)] [z_i y4] (sh, w3) Q
  obtain ⟨q5, h⟩ := h
  refine z_if_eq (tgt := 29) dL_foretold_14 (by decide) (fun c => absurd c q5) (fun _ => ?_)
  refine z_aload_n 1 dL_foretold_17 rfl rfl ?_
  refine z_iconst dL_foretold_18 (by decide) ?_
  refine z_callS (As := [z_r 0, z_i 2]) (rest := []) zmL_bear ztL_bear zlRL_174 ⟨Nat.le_of_ble_eq_true rfl, Nat.le_of_ble_eq_true rfl⟩ dL_foretold_19 rfl rfl (z_ar (z_ai z_a0)) (Nat.le_of_ble_eq_true rfl) (Nat.le_of_ble_eq_true rfl) ⟨rfl, rfl⟩ (z_CIm h ?_)
  intro y7 w6 h
  show z_Sem mL_foretold (sh.length, 0) 22 [(4, z_i y2), (0, z_r 0), (1, z_r a1), (2, z_r a2), (3, z_r a3)] [z_i y7] (sh, w6) Q
  obtain ⟨q8, h⟩ := h
  refine z_if_eq (tgt := 29) dL_foretold_22 (by decide) (fun c => absurd c q8) (fun _ => ?_)
  refine z_iconst dL_foretold_25 (by decide) ?_
  refine z_goto (tgt := 30) dL_foretold_26 (by decide) ?_
  refine z_istore (L' := [(5, z_i 1), (4, z_i y2), (0, z_r 0), (1, z_r a1), (2, z_r a2), (3, z_r a3)]) dL_foretold_30 (by decide) rfl ?_
  refine z_aload_n 2 dL_foretold_32 rfl rfl ?_
  refine z_callV (As := []) (rest := []) zmX8_leastEnd znX8_leastEnd zsX8_leastEnd (show z_Cl[8]? = some (RX8, TX8, 9) from rfl) zlRL_235 ⟨Nat.le_of_ble_eq_true rfl, Nat.le_of_ble_eq_true rfl⟩ dL_foretold_33 hh0.1 rfl rfl z_a0 (Nat.le_of_ble_eq_true rfl) (Nat.le_of_ble_eq_true rfl) ⟨rfl, rfl⟩ (z_CIm h ?_)
  intro y10 w9 h
  show z_Sem mL_foretold (sh.length, 0) 36 [(5, z_i 1), (4, z_i y2), (0, z_r 0), (1, z_r a1), (2, z_r a2), (3, z_r a3)] [z_i y10] (sh, w9) Q
  refine z_istore (L' := [(6, z_i y10), (5, z_i 1), (4, z_i y2), (0, z_r 0), (1, z_r a1), (2, z_r a2), (3, z_r a3)]) dL_foretold_36 (by decide) rfl ?_
  refine z_aload_n 3 dL_foretold_38 rfl rfl ?_
  refine z_iload 0 dL_foretold_39 rfl ?_
  refine z_callV (As := [z_i y10]) (rest := []) zmX8_end znX8_end zsX8_end (show z_Cl[8]? = some (RX8, TX8, 9) from rfl) zlRL_125 ⟨Nat.le_of_ble_eq_true rfl, Nat.le_of_ble_eq_true rfl⟩ dL_foretold_41 hh0.1 rfl rfl (z_ai z_a0) (Nat.le_of_ble_eq_true rfl) (Nat.le_of_ble_eq_true rfl) ⟨rfl, rfl⟩ (z_CIm h ?_)
  intro y12 w11 h
  show z_Sem mL_foretold (sh.length, 0) 44 [(6, z_i y10), (5, z_i 1), (4, z_i y2), (0, z_r 0), (1, z_r a1), (2, z_r a2), (3, z_r a3)] [z_i y12] (sh, w11) Q
  refine z_istore (L' := [(7, z_i y12), (6, z_i y10), (5, z_i 1), (4, z_i y2), (0, z_r 0), (1, z_r a1), (2, z_r a2), (3, z_r a3)]) dL_foretold_44 (by decide) rfl ?_
  refine z_iload 2 dL_foretold_46 rfl ?_
  refine z_if_eq (tgt := 109) dL_foretold_48 (by decide) (fun c => absurd c (by decide)) (fun _ => ?_)
  refine z_iload 0 dL_foretold_51 rfl ?_
  refine z_bipush dL_foretold_53 (by decide) (by decide) ?_
  obtain ⟨m15, h⟩ := h
  suffices hJ13 : z_Sem mL_foretold (sh.length, 0) 63 [(0, z_r 0), (1, z_r a1), (2, z_r a2), (3, z_r a3), (4, z_i y2), (6, z_i y10), (7, z_i y12)] [] (sh, w11) Q by
    refine z_icmp_eq (tgt := 63) dL_foretold_55 (by decide) (fun c14 => ?_) (fun c14 => ?_)
    · skip
      refine z_sub (L' := [(0, z_r 0), (1, z_r a1), (2, z_r a2), (3, z_r a3), (4, z_i y2), (6, z_i y10), (7, z_i y12)]) [4, 5, 6, 7, 3, 1, 0] rfl ?_
      exact hJ13
    · skip
      have ho17 := m15 c14
      refine z_iload 0 dL_foretold_58 rfl ?_
      obtain ⟨q18, ho17⟩ := ho17
      refine z_if_lt (tgt := 109) dL_foretold_60 (by decide) (fun c => absurd c q18) (fun _ => ?_)
      refine z_sub (L' := [(0, z_r 0), (1, z_r a1), (2, z_r a2), (3, z_r a3), (4, z_i y2), (6, z_i y10), (7, z_i y12)]) [4, 5, 6, 7, 3, 1, 0] rfl ?_
      exact hJ13
  refine z_iload 5 dL_foretold_63 rfl ?_
  refine z_iconst dL_foretold_65 (by decide) ?_
  refine z_icmp_eq (tgt := 82) dL_foretold_66 (by decide) (fun c19 => ?_) (fun c19 => ?_)
  · replace h := h.1 c19
    refine z_sub (L' := [(0, z_r 0), (1, z_r a1), (2, z_r a2), (3, z_r a3), (4, z_i y2), (7, z_i y12)]) [0, 1, 2, 3, 4, 6] rfl ?_
    exact h
  · replace h := h.2 c19
    refine z_aload_n 0 dL_foretold_69 rfl rfl ?_
    refine z_iload 5 dL_foretold_70 rfl ?_
    refine z_iconst dL_foretold_72 (by decide) ?_
    obtain ⟨q20, h⟩ := h
    refine z_isub dL_foretold_73 q20 ?_
    refine z_callV (As := [z_i (y10 - 1)]) (rest := []) zmX8_end znX8_end zsX8_end (show z_Cl[8]? = some (RX8, TX8, 9) from rfl) zlRL_125 ⟨Nat.le_of_ble_eq_true rfl, Nat.le_of_ble_eq_true rfl⟩ dL_foretold_74 hh0.1 rfl rfl (z_ai z_a0) (Nat.le_of_ble_eq_true rfl) (Nat.le_of_ble_eq_true rfl) ⟨rfl, rfl⟩ (z_CIm h ?_)
    intro y22 w21 h
    show z_Sem mL_foretold (sh.length, 0) 77 [(0, z_r 0), (1, z_r a1), (2, z_r a2), (3, z_r a3), (4, z_i y2), (6, z_i y10), (7, z_i y12)] [z_i y22] (sh, w21) Q
    refine z_bipush dL_foretold_77 (by decide) (by decide) ?_
    obtain ⟨q23, h⟩ := h
    refine z_icmp_ne (tgt := 109) dL_foretold_79 (by decide) (fun c => absurd q23 c) (fun _ => ?_)
    refine z_sub (L' := [(0, z_r 0), (1, z_r a1), (2, z_r a2), (3, z_r a3), (4, z_i y2), (7, z_i y12)]) [0, 1, 2, 3, 4, 6] rfl ?_
    exact h
set_option maxRecDepth 100000 in
theorem t_L_foretold_82 {sh : List z_C} {w : Nat → Int → Int} {Q : Option z_V → z_S → Prop} {a1 : Nat} {a2 : Nat} {a3 : Nat} {x4 : Int} {x7 : Int} (hh0 : z_isTG sh 0) (hh1 : sh[a1]? = some (.inr (.inl (0, 8)))) (hh2 : sh[a2]? = some (.inr (.inl (0, 400)))) (hh3 : sh[a3]? = some (.inr (.inl (0, 400)))) (h : ((x7 < 0 → z_Sem mL_foretold (sh.length, 0) 94 [(0, z_r 0), (1, z_r a1), (2, z_r a2), (3, z_r a3), (4, z_i x4)] [] (sh, w) Q) ∧ (¬ x7 < 0 → z_CI mX8_undo [z_r 0] sh w (fun y3 w2 => (¬ y3 < 0) ∧ z_Sem mL_foretold (sh.length, 0) 94 [(0, z_r 0), (1, z_r a1), (2, z_r a2), (3, z_r a3), (4, z_i x4)] [] (sh, w2) Q)))) : z_Sem mL_foretold (sh.length, 0) 82 [(0, z_r 0), (1, z_r a1), (2, z_r a2), (3, z_r a3), (4, z_i x4), (7, z_i x7)] [] (sh, w) Q := by
  refine z_iload 5 dL_foretold_82 rfl ?_
  refine z_if_lt (tgt := 94) dL_foretold_84 (by decide) (fun c1 => ?_) (fun c1 => ?_)
  · replace h := h.1 c1
    refine z_sub (L' := [(0, z_r 0), (1, z_r a1), (2, z_r a2), (3, z_r a3), (4, z_i x4)]) [0, 1, 2, 3, 4] rfl ?_
    exact h
  · replace h := h.2 c1
    refine z_aload_n 0 dL_foretold_87 rfl rfl ?_
    refine z_callV (As := []) (rest := []) zmX8_undo znX8_undo zsX8_undo (show z_Cl[8]? = some (RX8, TX8, 9) from rfl) zlRL_225 ⟨Nat.le_of_ble_eq_true rfl, Nat.le_of_ble_eq_true rfl⟩ dL_foretold_88 hh0.1 rfl rfl z_a0 (Nat.le_of_ble_eq_true rfl) (Nat.le_of_ble_eq_true rfl) ⟨rfl, rfl⟩ (z_CIm h ?_)
    intro y3 w2 h
    show z_Sem mL_foretold (sh.length, 0) 91 [(0, z_r 0), (1, z_r a1), (2, z_r a2), (3, z_r a3), (4, z_i x4), (7, z_i x7)] [z_i y3] (sh, w2) Q
    obtain ⟨q4, h⟩ := h
    refine z_if_lt (tgt := 109) dL_foretold_91 (by decide) (fun c => absurd c q4) (fun _ => ?_)
    refine z_sub (L' := [(0, z_r 0), (1, z_r a1), (2, z_r a2), (3, z_r a3), (4, z_i x4)]) [0, 1, 2, 3, 4] rfl ?_
    exact h
set_option maxRecDepth 100000 in
theorem t_L_foretold_94 {sh : List z_C} {w : Nat → Int → Int} {Q : Option z_V → z_S → Prop} {a1 : Nat} {a2 : Nat} {a3 : Nat} {x4 : Int} (hh0 : z_isTG sh 0) (hh1 : sh[a1]? = some (.inr (.inl (0, 8)))) (hh2 : sh[a2]? = some (.inr (.inl (0, 400)))) (hh3 : sh[a3]? = some (.inr (.inl (0, 400)))) (h : z_CI mL_isAs [z_r 0, z_r a2, z_i x4, z_r a3] sh w (fun y2 w1 => (¬ y2 = 0) ∧ z_CI mL_draw [z_r a1] sh w1 (fun y5 w4 => z_CI mX8_value [z_r 0, z_i 1] sh w4 (fun y7 w6 => ((0 : Int) < y7) ∧ z_CI mL_draw [z_r a1] sh w6 (fun y10 w9 => z_CI mX8_value [z_r 0, z_i 0] sh w9 (fun y12 w11 => ((0 : Int) < y12) ∧ z_CI mX8_ifPinned [z_r 0, z_i (y5.tmod y7), z_i (y10.tmod y12), z_i 2] sh w11 (fun y15 w14 => z_CI mX8_can [z_r 0, z_i (y5.tmod y7), z_i (y10.tmod y12)] sh w14 (fun y17 w16 => z_CI mX8_pin [z_r 0, z_i (y5.tmod y7), z_i (y10.tmod y12)] sh w16 (fun y19 w18 => ((y19 < 0 → (y19 = y15) ∧ z_Sem mL_foretold (sh.length, 0) 211 [(0, z_r 0), (1, z_r a1), (2, z_r a2), (3, z_r a3), (4, z_i x4)] [] (sh, w18) Q) ∧ (¬ y19 < 0 → (y17 = 1) ∧ z_CI mX8_value [z_r 0, z_i 10] sh w18 (fun y24 w23 => (y24 = y15) ∧ z_CI mX8_undo [z_r 0] sh w23 (fun y27 w26 => (¬ y27 < 0) ∧ z_Sem mL_foretold (sh.length, 0) 211 [(0, z_r 0), (1, z_r a1), (2, z_r a2), (3, z_r a3), (4, z_i x4)] [] (sh, w26) Q))))))))))))) : z_Sem mL_foretold (sh.length, 0) 94 [(0, z_r 0), (1, z_r a1), (2, z_r a2), (3, z_r a3), (4, z_i x4)] [] (sh, w) Q := by
  refine z_aload_n 0 dL_foretold_94 rfl rfl ?_
  refine z_aload_n 2 dL_foretold_95 rfl rfl ?_
  refine z_iload 4 dL_foretold_96 rfl ?_
  refine z_aload_n 3 dL_foretold_98 rfl rfl ?_
  refine z_callS (As := [z_r 0, z_r a2, z_i x4, z_r a3]) (rest := []) zmL_isAs ztL_isAs zlRL_218 ⟨Nat.le_of_ble_eq_true rfl, Nat.le_of_ble_eq_true rfl⟩ dL_foretold_99 rfl rfl (z_ar (z_ar (z_ai (z_ar z_a0)))) (Nat.le_of_ble_eq_true rfl) (Nat.le_of_ble_eq_true rfl) ⟨rfl, rfl⟩ (z_CIm h ?_)
  intro y2 w1 h
  show z_Sem mL_foretold (sh.length, 0) 102 [(0, z_r 0), (1, z_r a1), (2, z_r a2), (3, z_r a3), (4, z_i x4)] [z_i y2] (sh, w1) Q
  obtain ⟨q3, h⟩ := h
  refine z_if_eq (tgt := 109) dL_foretold_102 (by decide) (fun c => absurd c q3) (fun _ => ?_)
  refine z_iconst dL_foretold_105 (by decide) ?_
  refine z_goto (tgt := 110) dL_foretold_106 (by decide) ?_
  refine z_istore (L' := [(5, z_i 1), (0, z_r 0), (1, z_r a1), (2, z_r a2), (3, z_r a3), (4, z_i x4)]) dL_foretold_110 (by decide) rfl ?_
  refine z_aload_n 2 dL_foretold_112 rfl rfl ?_
  refine z_callS (As := [z_r a1]) (rest := []) zmL_draw ztL_draw zlRL_62 ⟨Nat.le_of_ble_eq_true rfl, Nat.le_of_ble_eq_true rfl⟩ dL_foretold_113 rfl rfl (z_ar z_a0) (Nat.le_of_ble_eq_true rfl) (Nat.le_of_ble_eq_true rfl) ⟨rfl, rfl⟩ (z_CIm h ?_)
  intro y5 w4 h
  show z_Sem mL_foretold (sh.length, 0) 116 [(5, z_i 1), (0, z_r 0), (1, z_r a1), (2, z_r a2), (3, z_r a3), (4, z_i x4)] [z_i y5] (sh, w4) Q
  refine z_aload_n 1 dL_foretold_116 rfl rfl ?_
  refine z_iconst dL_foretold_117 (by decide) ?_
  refine z_callV (As := [z_i 1]) (rest := [z_i y5]) zmX8_value znX8_value zsX8_value (show z_Cl[8]? = some (RX8, TX8, 9) from rfl) zlRL_103 ⟨Nat.le_of_ble_eq_true rfl, Nat.le_of_ble_eq_true rfl⟩ dL_foretold_118 hh0.1 rfl rfl (z_ai z_a0) (Nat.le_of_ble_eq_true rfl) (Nat.le_of_ble_eq_true rfl) ⟨rfl, rfl⟩ (z_CIm h ?_)
  intro y7 w6 h
  show z_Sem mL_foretold (sh.length, 0) 121 [(5, z_i 1), (0, z_r 0), (1, z_r a1), (2, z_r a2), (3, z_r a3), (4, z_i x4)] [z_i y7, z_i y5] (sh, w6) Q
  obtain ⟨q8, h⟩ := h
  refine z_irem dL_foretold_121 q8 ?_
  refine z_istore (L' := [(8, z_i (y5.tmod y7)), (5, z_i 1), (0, z_r 0), (1, z_r a1), (2, z_r a2), (3, z_r a3), (4, z_i x4)]) dL_foretold_122 (by decide) rfl ?_
  refine z_aload_n 3 dL_foretold_124 rfl rfl ?_
  refine z_callS (As := [z_r a1]) (rest := []) zmL_draw ztL_draw zlRL_62 ⟨Nat.le_of_ble_eq_true rfl, Nat.le_of_ble_eq_true rfl⟩ dL_foretold_125 rfl rfl (z_ar z_a0) (Nat.le_of_ble_eq_true rfl) (Nat.le_of_ble_eq_true rfl) ⟨rfl, rfl⟩ (z_CIm h ?_)
  intro y10 w9 h
  show z_Sem mL_foretold (sh.length, 0) 128 [(8, z_i (y5.tmod y7)), (5, z_i 1), (0, z_r 0), (1, z_r a1), (2, z_r a2), (3, z_r a3), (4, z_i x4)] [z_i y10] (sh, w9) Q
  refine z_aload_n 2 dL_foretold_128 rfl rfl ?_
  refine z_iconst dL_foretold_129 (by decide) ?_
  refine z_callV (As := [z_i 0]) (rest := [z_i y10]) zmX8_value znX8_value zsX8_value (show z_Cl[8]? = some (RX8, TX8, 9) from rfl) zlRL_103 ⟨Nat.le_of_ble_eq_true rfl, Nat.le_of_ble_eq_true rfl⟩ dL_foretold_130 hh0.1 rfl rfl (z_ai z_a0) (Nat.le_of_ble_eq_true rfl) (Nat.le_of_ble_eq_true rfl) ⟨rfl, rfl⟩ (z_CIm h ?_)
  intro y12 w11 h
  show z_Sem mL_foretold (sh.length, 0) 133 [(8, z_i (y5.tmod y7)), (5, z_i 1), (0, z_r 0), (1, z_r a1), (2, z_r a2), (3, z_r a3), (4, z_i x4)] [z_i y12, z_i y10] (sh, w11) Q
  obtain ⟨q13, h⟩ := h
  refine z_irem dL_foretold_133 q13 ?_
  refine z_istore (L' := [(9, z_i (y10.tmod y12)), (8, z_i (y5.tmod y7)), (5, z_i 1), (0, z_r 0), (1, z_r a1), (2, z_r a2), (3, z_r a3), (4, z_i x4)]) dL_foretold_134 (by decide) rfl ?_
  refine z_aload_n 3 dL_foretold_136 rfl rfl ?_
  refine z_iload 1 dL_foretold_137 rfl ?_
  refine z_iload 0 dL_foretold_139 rfl ?_
  refine z_iconst dL_foretold_141 (by decide) ?_
  refine z_callV (As := [z_i (y5.tmod y7), z_i (y10.tmod y12), z_i 2]) (rest := []) zmX8_ifPinned znX8_ifPinned zsX8_ifPinned (show z_Cl[8]? = some (RX8, TX8, 9) from rfl) zlRL_238 ⟨Nat.le_of_ble_eq_true rfl, Nat.le_of_ble_eq_true rfl⟩ dL_foretold_142 hh0.1 rfl rfl (z_ai (z_ai (z_ai z_a0))) (Nat.le_of_ble_eq_true rfl) (Nat.le_of_ble_eq_true rfl) ⟨rfl, rfl⟩ (z_CIm h ?_)
  intro y15 w14 h
  show z_Sem mL_foretold (sh.length, 0) 145 [(9, z_i (y10.tmod y12)), (8, z_i (y5.tmod y7)), (5, z_i 1), (0, z_r 0), (1, z_r a1), (2, z_r a2), (3, z_r a3), (4, z_i x4)] [z_i y15] (sh, w14) Q
  refine z_istore (L' := [(10, z_i y15), (9, z_i (y10.tmod y12)), (8, z_i (y5.tmod y7)), (5, z_i 1), (0, z_r 0), (1, z_r a1), (2, z_r a2), (3, z_r a3), (4, z_i x4)]) dL_foretold_145 (by decide) rfl ?_
  refine z_aload_n 4 dL_foretold_147 rfl rfl ?_
  refine z_iload 2 dL_foretold_148 rfl ?_
  refine z_iload 1 dL_foretold_150 rfl ?_
  refine z_callV (As := [z_i (y5.tmod y7), z_i (y10.tmod y12)]) (rest := []) zmX8_can znX8_can zsX8_can (show z_Cl[8]? = some (RX8, TX8, 9) from rfl) zlRL_168 ⟨Nat.le_of_ble_eq_true rfl, Nat.le_of_ble_eq_true rfl⟩ dL_foretold_152 hh0.1 rfl rfl (z_ai (z_ai z_a0)) (Nat.le_of_ble_eq_true rfl) (Nat.le_of_ble_eq_true rfl) ⟨rfl, rfl⟩ (z_CIm h ?_)
  intro y17 w16 h
  show z_Sem mL_foretold (sh.length, 0) 155 [(10, z_i y15), (9, z_i (y10.tmod y12)), (8, z_i (y5.tmod y7)), (5, z_i 1), (0, z_r 0), (1, z_r a1), (2, z_r a2), (3, z_r a3), (4, z_i x4)] [z_i y17] (sh, w16) Q
  refine z_istore (L' := [(11, z_i y17), (10, z_i y15), (9, z_i (y10.tmod y12)), (8, z_i (y5.tmod y7)), (5, z_i 1), (0, z_r 0), (1, z_r a1), (2, z_r a2), (3, z_r a3), (4, z_i x4)]) dL_foretold_155 (by decide) rfl ?_
  refine z_aload_n 5 dL_foretold_157 rfl rfl ?_
  refine z_iload 3 dL_foretold_158 rfl ?_
  refine z_iload 2 dL_foretold_160 rfl ?_
  refine z_callV (As := [z_i (y5.tmod y7), z_i (y10.tmod y12)]) (rest := []) zmX8_pin znX8_pin zsX8_pin (show z_Cl[8]? = some (RX8, TX8, 9) from rfl) zlRL_119 ⟨Nat.le_of_ble_eq_true rfl, Nat.le_of_ble_eq_true rfl⟩ dL_foretold_162 hh0.1 rfl rfl (z_ai (z_ai z_a0)) (Nat.le_of_ble_eq_true rfl) (Nat.le_of_ble_eq_true rfl) ⟨rfl, rfl⟩ (z_CIm h ?_)
  intro y19 w18 h
  show z_Sem mL_foretold (sh.length, 0) 165 [(11, z_i y17), (10, z_i y15), (9, z_i (y10.tmod y12)), (8, z_i (y5.tmod y7)), (5, z_i 1), (0, z_r 0), (1, z_r a1), (2, z_r a2), (3, z_r a3), (4, z_i x4)] [z_i y19] (sh, w18) Q
  refine z_istore (L' := [(12, z_i y19), (11, z_i y17), (10, z_i y15), (9, z_i (y10.tmod y12)), (8, z_i (y5.tmod y7)), (5, z_i 1), (0, z_r 0), (1, z_r a1), (2, z_r a2), (3, z_r a3), (4, z_i x4)]) dL_foretold_165 (by decide) rfl ?_
  refine z_iload 5 dL_foretold_167 rfl ?_
  refine z_if_eq (tgt := 226) dL_foretold_169 (by decide) (fun c => absurd c (by decide)) (fun _ => ?_)
  refine z_iload 0 dL_foretold_172 rfl ?_
  refine z_if_lt (tgt := 204) dL_foretold_174 (by decide) (fun c20 => ?_) (fun c20 => ?_)
  · replace h := h.1 c20
    refine z_iload 0 dL_foretold_204 rfl ?_
    refine z_iload 2 dL_foretold_206 rfl ?_
    obtain ⟨q21, h⟩ := h
    refine z_icmp_ne (tgt := 226) dL_foretold_208 (by decide) (fun c => absurd q21 c) (fun _ => ?_)
    refine z_sub (L' := [(0, z_r 0), (1, z_r a1), (2, z_r a2), (3, z_r a3), (4, z_i x4)]) [6, 7, 8, 9, 10] rfl ?_
    exact h
  · replace h := h.2 c20
    refine z_iload 1 dL_foretold_177 rfl ?_
    refine z_iconst dL_foretold_179 (by decide) ?_
    obtain ⟨q22, h⟩ := h
    refine z_icmp_ne (tgt := 226) dL_foretold_180 (by decide) (fun c => absurd q22 c) (fun _ => ?_)
    refine z_aload_n 6 dL_foretold_183 rfl rfl ?_
    refine z_bipush dL_foretold_184 (by decide) (by decide) ?_
    refine z_callV (As := [z_i 10]) (rest := []) zmX8_value znX8_value zsX8_value (show z_Cl[8]? = some (RX8, TX8, 9) from rfl) zlRL_103 ⟨Nat.le_of_ble_eq_true rfl, Nat.le_of_ble_eq_true rfl⟩ dL_foretold_186 hh0.1 rfl rfl (z_ai z_a0) (Nat.le_of_ble_eq_true rfl) (Nat.le_of_ble_eq_true rfl) ⟨rfl, rfl⟩ (z_CIm h ?_)
    intro y24 w23 h
    show z_Sem mL_foretold (sh.length, 0) 189 [(12, z_i y19), (11, z_i y17), (10, z_i y15), (9, z_i (y10.tmod y12)), (8, z_i (y5.tmod y7)), (5, z_i 1), (0, z_r 0), (1, z_r a1), (2, z_r a2), (3, z_r a3), (4, z_i x4)] [z_i y24] (sh, w23) Q
    refine z_iload 2 dL_foretold_189 rfl ?_
    obtain ⟨q25, h⟩ := h
    refine z_icmp_ne (tgt := 226) dL_foretold_191 (by decide) (fun c => absurd q25 c) (fun _ => ?_)
    refine z_aload_n 6 dL_foretold_194 rfl rfl ?_
    refine z_callV (As := []) (rest := []) zmX8_undo znX8_undo zsX8_undo (show z_Cl[8]? = some (RX8, TX8, 9) from rfl) zlRL_225 ⟨Nat.le_of_ble_eq_true rfl, Nat.le_of_ble_eq_true rfl⟩ dL_foretold_195 hh0.1 rfl rfl z_a0 (Nat.le_of_ble_eq_true rfl) (Nat.le_of_ble_eq_true rfl) ⟨rfl, rfl⟩ (z_CIm h ?_)
    intro y27 w26 h
    show z_Sem mL_foretold (sh.length, 0) 198 [(12, z_i y19), (11, z_i y17), (10, z_i y15), (9, z_i (y10.tmod y12)), (8, z_i (y5.tmod y7)), (5, z_i 1), (0, z_r 0), (1, z_r a1), (2, z_r a2), (3, z_r a3), (4, z_i x4)] [z_i y27] (sh, w26) Q
    obtain ⟨q28, h⟩ := h
    refine z_if_lt (tgt := 226) dL_foretold_198 (by decide) (fun c => absurd c q28) (fun _ => ?_)
    refine z_goto (tgt := 211) dL_foretold_201 (by decide) ?_
    refine z_sub (L' := [(0, z_r 0), (1, z_r a1), (2, z_r a2), (3, z_r a3), (4, z_i x4)]) [6, 7, 8, 9, 10] rfl ?_
    exact h
set_option maxRecDepth 100000 in
theorem t_L_foretold_211 {sh : List z_C} {w : Nat → Int → Int} {Q : Option z_V → z_S → Prop} {a1 : Nat} {a2 : Nat} {a3 : Nat} {x4 : Int} (hh0 : z_isTG sh 0) (hh1 : sh[a1]? = some (.inr (.inl (0, 8)))) (hh2 : sh[a2]? = some (.inr (.inl (0, 400)))) (hh3 : sh[a3]? = some (.inr (.inl (0, 400)))) (h : z_CI mL_isAs [z_r 0, z_r a2, z_i x4, z_r a3] sh w (fun y2 w1 => (¬ y2 = 0) ∧ z_CI mX8_value [z_r 0, z_i 2] sh w1 (fun y5 w4 => ((y5 ≤ 0 → z_Sem mL_foretold (sh.length, 0) 386 [(0, z_r 0), (2, z_r a2), (3, z_r a3), (4, z_i x4), (5, z_i 1)] [] (sh, w4) Q) ∧ (¬ y5 ≤ 0 → z_CI mL_draw [z_r a1] sh w4 (fun y8 w7 => z_CI mX8_value [z_r 0, z_i 2] sh w7 (fun y10 w9 => ((0 : Int) < y10) ∧ z_CI mX8_ifTurned [z_r 0, z_i (y8.tmod y10), z_i 2] sh w9 (fun y13 w12 => z_CI mX8_turn [z_r 0, z_i (y8.tmod y10)] sh w12 (fun y15 w14 => ((y15 < 0 → (y15 = (-5)) ∧ (y13 = (-5)) ∧ z_CI mX8_ifDropped [z_r 0, z_i (y8.tmod y10), z_i 2] sh w14 (fun y20 w19 => z_CI mX8_drop [z_r 0, z_i (y8.tmod y10)] sh w19 (fun y22 w21 => (¬ y22 < 0) ∧ z_CI mX8_value [z_r 0, z_i 10] sh w21 (fun y25 w24 => (y25 = y20) ∧ z_CI mX8_undo [z_r 0] sh w24 (fun y28 w27 => (¬ y28 < 0) ∧ z_CI mL_isAs [z_r 0, z_r a2, z_i x4, z_r a3] sh w27 (fun y31 w30 => (¬ y31 = 0) ∧ z_Sem mL_foretold (sh.length, 0) 386 [(0, z_r 0), (2, z_r a2), (3, z_r a3), (4, z_i x4), (5, z_i 1)] [] (sh, w30) Q)))))) ∧ (¬ y15 < 0 → z_CI mX8_value [z_r 0, z_i 10] sh w14 (fun y34 w33 => ((y34 = y13 → z_CI mX8_undo [z_r 0] sh w33 (fun y41 w40 => ∀ y46 : Int, y46 = (if y41 < 0 then 0 else 1) → z_CI mX8_ifDropped [z_r 0, z_i (y8.tmod y10), z_i 2] sh w40 (fun y48 w47 => z_CI mX8_drop [z_r 0, z_i (y8.tmod y10)] sh w47 (fun y50 w49 => (¬ y46 = 0) ∧ (¬ y50 < 0) ∧ z_CI mX8_value [z_r 0, z_i 10] sh w49 (fun y54 w53 => (y54 = y48) ∧ z_CI mX8_undo [z_r 0] sh w53 (fun y57 w56 => (¬ y57 < 0) ∧ z_CI mL_isAs [z_r 0, z_r a2, z_i x4, z_r a3] sh w56 (fun y60 w59 => (¬ y60 = 0) ∧ z_Sem mL_foretold (sh.length, 0) 386 [(0, z_r 0), (2, z_r a2), (3, z_r a3), (4, z_i x4), (5, z_i 1)] [] (sh, w59) Q))))))) ∧ (¬ y34 = y13 → z_CI mX8_ifDropped [z_r 0, z_i (y8.tmod y10), z_i 2] sh w33 (fun y37 w36 => z_CI mX8_drop [z_r 0, z_i (y8.tmod y10)] sh w36 (fun y39 w38 => z_Sem mL_foretold (sh.length, 0) 386 [(0, z_r 0), (2, z_r a2), (3, z_r a3), (4, z_i x4), (5, z_i 0)] [] (sh, w38) Q)))))))))))))))) : z_Sem mL_foretold (sh.length, 0) 211 [(0, z_r 0), (1, z_r a1), (2, z_r a2), (3, z_r a3), (4, z_i x4)] [] (sh, w) Q := by
  refine z_aload_n 0 dL_foretold_211 rfl rfl ?_
  refine z_aload_n 2 dL_foretold_212 rfl rfl ?_
  refine z_iload 4 dL_foretold_213 rfl ?_
  refine z_aload_n 3 dL_foretold_215 rfl rfl ?_
  refine z_callS (As := [z_r 0, z_r a2, z_i x4, z_r a3]) (rest := []) zmL_isAs ztL_isAs zlRL_218 ⟨Nat.le_of_ble_eq_true rfl, Nat.le_of_ble_eq_true rfl⟩ dL_foretold_216 rfl rfl (z_ar (z_ar (z_ai (z_ar z_a0)))) (Nat.le_of_ble_eq_true rfl) (Nat.le_of_ble_eq_true rfl) ⟨rfl, rfl⟩ (z_CIm h ?_)
  intro y2 w1 h
  show z_Sem mL_foretold (sh.length, 0) 219 [(0, z_r 0), (1, z_r a1), (2, z_r a2), (3, z_r a3), (4, z_i x4)] [z_i y2] (sh, w1) Q
  obtain ⟨q3, h⟩ := h
  refine z_if_eq (tgt := 226) dL_foretold_219 (by decide) (fun c => absurd c q3) (fun _ => ?_)
  refine z_iconst dL_foretold_222 (by decide) ?_
  refine z_goto (tgt := 227) dL_foretold_223 (by decide) ?_
  refine z_istore (L' := [(5, z_i 1), (0, z_r 0), (1, z_r a1), (2, z_r a2), (3, z_r a3), (4, z_i x4)]) dL_foretold_227 (by decide) rfl ?_
  refine z_aload_n 1 dL_foretold_229 rfl rfl ?_
  refine z_iconst dL_foretold_230 (by decide) ?_
  refine z_callV (As := [z_i 2]) (rest := []) zmX8_value znX8_value zsX8_value (show z_Cl[8]? = some (RX8, TX8, 9) from rfl) zlRL_103 ⟨Nat.le_of_ble_eq_true rfl, Nat.le_of_ble_eq_true rfl⟩ dL_foretold_231 hh0.1 rfl rfl (z_ai z_a0) (Nat.le_of_ble_eq_true rfl) (Nat.le_of_ble_eq_true rfl) ⟨rfl, rfl⟩ (z_CIm h ?_)
  intro y5 w4 h
  show z_Sem mL_foretold (sh.length, 0) 234 [(5, z_i 1), (0, z_r 0), (1, z_r a1), (2, z_r a2), (3, z_r a3), (4, z_i x4)] [z_i y5] (sh, w4) Q
  refine z_if_le (tgt := 386) dL_foretold_234 (by decide) (fun c6 => ?_) (fun c6 => ?_)
  · replace h := h.1 c6
    refine z_sub (L' := [(0, z_r 0), (2, z_r a2), (3, z_r a3), (4, z_i x4), (5, z_i 1)]) [1, 3, 4, 5, 0] rfl ?_
    exact h
  · replace h := h.2 c6
    refine z_iload 0 dL_foretold_237 rfl ?_
    refine z_if_eq (tgt := 386) dL_foretold_239 (by decide) (fun c => absurd c (by decide)) (fun _ => ?_)
    refine z_aload_n 2 dL_foretold_242 rfl rfl ?_
    refine z_callS (As := [z_r a1]) (rest := []) zmL_draw ztL_draw zlRL_62 ⟨Nat.le_of_ble_eq_true rfl, Nat.le_of_ble_eq_true rfl⟩ dL_foretold_243 rfl rfl (z_ar z_a0) (Nat.le_of_ble_eq_true rfl) (Nat.le_of_ble_eq_true rfl) ⟨rfl, rfl⟩ (z_CIm h ?_)
    intro y8 w7 h
    show z_Sem mL_foretold (sh.length, 0) 246 [(5, z_i 1), (0, z_r 0), (1, z_r a1), (2, z_r a2), (3, z_r a3), (4, z_i x4)] [z_i y8] (sh, w7) Q
    refine z_aload_n 1 dL_foretold_246 rfl rfl ?_
    refine z_iconst dL_foretold_247 (by decide) ?_
    refine z_callV (As := [z_i 2]) (rest := [z_i y8]) zmX8_value znX8_value zsX8_value (show z_Cl[8]? = some (RX8, TX8, 9) from rfl) zlRL_103 ⟨Nat.le_of_ble_eq_true rfl, Nat.le_of_ble_eq_true rfl⟩ dL_foretold_248 hh0.1 rfl rfl (z_ai z_a0) (Nat.le_of_ble_eq_true rfl) (Nat.le_of_ble_eq_true rfl) ⟨rfl, rfl⟩ (z_CIm h ?_)
    intro y10 w9 h
    show z_Sem mL_foretold (sh.length, 0) 251 [(5, z_i 1), (0, z_r 0), (1, z_r a1), (2, z_r a2), (3, z_r a3), (4, z_i x4)] [z_i y10, z_i y8] (sh, w9) Q
    obtain ⟨q11, h⟩ := h
    refine z_irem dL_foretold_251 q11 ?_
    refine z_istore (L' := [(13, z_i (y8.tmod y10)), (5, z_i 1), (0, z_r 0), (1, z_r a1), (2, z_r a2), (3, z_r a3), (4, z_i x4)]) dL_foretold_252 (by decide) rfl ?_
    refine z_aload_n 2 dL_foretold_254 rfl rfl ?_
    refine z_iload 0 dL_foretold_255 rfl ?_
    refine z_iconst dL_foretold_257 (by decide) ?_
    refine z_callV (As := [z_i (y8.tmod y10), z_i 2]) (rest := []) zmX8_ifTurned znX8_ifTurned zsX8_ifTurned (show z_Cl[8]? = some (RX8, TX8, 9) from rfl) zlRL_241 ⟨Nat.le_of_ble_eq_true rfl, Nat.le_of_ble_eq_true rfl⟩ dL_foretold_258 hh0.1 rfl rfl (z_ai (z_ai z_a0)) (Nat.le_of_ble_eq_true rfl) (Nat.le_of_ble_eq_true rfl) ⟨rfl, rfl⟩ (z_CIm h ?_)
    intro y13 w12 h
    show z_Sem mL_foretold (sh.length, 0) 261 [(13, z_i (y8.tmod y10)), (5, z_i 1), (0, z_r 0), (1, z_r a1), (2, z_r a2), (3, z_r a3), (4, z_i x4)] [z_i y13] (sh, w12) Q
    refine z_istore (L' := [(10, z_i y13), (13, z_i (y8.tmod y10)), (5, z_i 1), (0, z_r 0), (1, z_r a1), (2, z_r a2), (3, z_r a3), (4, z_i x4)]) dL_foretold_261 (by decide) rfl ?_
    refine z_aload_n 3 dL_foretold_263 rfl rfl ?_
    refine z_iload 1 dL_foretold_264 rfl ?_
    refine z_callV (As := [z_i (y8.tmod y10)]) (rest := []) zmX8_turn znX8_turn zsX8_turn (show z_Cl[8]? = some (RX8, TX8, 9) from rfl) zlRL_116 ⟨Nat.le_of_ble_eq_true rfl, Nat.le_of_ble_eq_true rfl⟩ dL_foretold_266 hh0.1 rfl rfl (z_ai z_a0) (Nat.le_of_ble_eq_true rfl) (Nat.le_of_ble_eq_true rfl) ⟨rfl, rfl⟩ (z_CIm h ?_)
    intro y15 w14 h
    show z_Sem mL_foretold (sh.length, 0) 269 [(10, z_i y13), (13, z_i (y8.tmod y10)), (5, z_i 1), (0, z_r 0), (1, z_r a1), (2, z_r a2), (3, z_r a3), (4, z_i x4)] [z_i y15] (sh, w14) Q
    refine z_istore (L' := [(14, z_i y15), (10, z_i y13), (13, z_i (y8.tmod y10)), (5, z_i 1), (0, z_r 0), (1, z_r a1), (2, z_r a2), (3, z_r a3), (4, z_i x4)]) dL_foretold_269 (by decide) rfl ?_
    refine z_iload 0 dL_foretold_271 rfl ?_
    refine z_if_lt (tgt := 302) dL_foretold_273 (by decide) (fun c16 => ?_) (fun c16 => ?_)
    · replace h := h.1 c16
      refine z_iload 0 dL_foretold_302 rfl ?_
      refine z_bipush dL_foretold_304 (by decide) (by decide) ?_
      obtain ⟨q17, h⟩ := h
      refine z_icmp_ne (tgt := 320) dL_foretold_306 (by decide) (fun c => absurd q17 c) (fun _ => ?_)
      refine z_iload 1 dL_foretold_309 rfl ?_
      refine z_bipush dL_foretold_311 (by decide) (by decide) ?_
      obtain ⟨q18, h⟩ := h
      refine z_icmp_ne (tgt := 320) dL_foretold_313 (by decide) (fun c => absurd q18 c) (fun _ => ?_)
      refine z_iconst dL_foretold_316 (by decide) ?_
      refine z_goto (tgt := 321) dL_foretold_317 (by decide) ?_
      refine z_istore (L' := [(5, z_i 1), (14, z_i y15), (10, z_i y13), (13, z_i (y8.tmod y10)), (0, z_r 0), (1, z_r a1), (2, z_r a2), (3, z_r a3), (4, z_i x4)]) dL_foretold_321 (by decide) rfl ?_
      refine z_aload_n 4 dL_foretold_323 rfl rfl ?_
      refine z_iload 3 dL_foretold_324 rfl ?_
      refine z_iconst dL_foretold_326 (by decide) ?_
      refine z_callV (As := [z_i (y8.tmod y10), z_i 2]) (rest := []) zmX8_ifDropped znX8_ifDropped zsX8_ifDropped (show z_Cl[8]? = some (RX8, TX8, 9) from rfl) zlRL_244 ⟨Nat.le_of_ble_eq_true rfl, Nat.le_of_ble_eq_true rfl⟩ dL_foretold_327 hh0.1 rfl rfl (z_ai (z_ai z_a0)) (Nat.le_of_ble_eq_true rfl) (Nat.le_of_ble_eq_true rfl) ⟨rfl, rfl⟩ (z_CIm h ?_)
      intro y20 w19 h
      show z_Sem mL_foretold (sh.length, 0) 330 [(5, z_i 1), (14, z_i y15), (10, z_i y13), (13, z_i (y8.tmod y10)), (0, z_r 0), (1, z_r a1), (2, z_r a2), (3, z_r a3), (4, z_i x4)] [z_i y20] (sh, w19) Q
      refine z_istore (L' := [(10, z_i y20), (5, z_i 1), (14, z_i y15), (13, z_i (y8.tmod y10)), (0, z_r 0), (1, z_r a1), (2, z_r a2), (3, z_r a3), (4, z_i x4)]) dL_foretold_330 (by decide) rfl ?_
      refine z_aload_n 4 dL_foretold_332 rfl rfl ?_
      refine z_iload 3 dL_foretold_333 rfl ?_
      refine z_callV (As := [z_i (y8.tmod y10)]) (rest := []) zmX8_drop znX8_drop zsX8_drop (show z_Cl[8]? = some (RX8, TX8, 9) from rfl) zlRL_110 ⟨Nat.le_of_ble_eq_true rfl, Nat.le_of_ble_eq_true rfl⟩ dL_foretold_335 hh0.1 rfl rfl (z_ai z_a0) (Nat.le_of_ble_eq_true rfl) (Nat.le_of_ble_eq_true rfl) ⟨rfl, rfl⟩ (z_CIm h ?_)
      intro y22 w21 h
      show z_Sem mL_foretold (sh.length, 0) 338 [(10, z_i y20), (5, z_i 1), (14, z_i y15), (13, z_i (y8.tmod y10)), (0, z_r 0), (1, z_r a1), (2, z_r a2), (3, z_r a3), (4, z_i x4)] [z_i y22] (sh, w21) Q
      refine z_istore (L' := [(15, z_i y22), (10, z_i y20), (5, z_i 1), (14, z_i y15), (13, z_i (y8.tmod y10)), (0, z_r 0), (1, z_r a1), (2, z_r a2), (3, z_r a3), (4, z_i x4)]) dL_foretold_338 (by decide) rfl ?_
      refine z_iload 2 dL_foretold_340 rfl ?_
      refine z_if_eq (tgt := 383) dL_foretold_342 (by decide) (fun c => absurd c (by decide)) (fun _ => ?_)
      refine z_iload 0 dL_foretold_345 rfl ?_
      obtain ⟨q23, h⟩ := h
      refine z_if_lt (tgt := 383) dL_foretold_347 (by decide) (fun c => absurd c q23) (fun _ => ?_)
      refine z_aload_n 5 dL_foretold_350 rfl rfl ?_
      refine z_bipush dL_foretold_351 (by decide) (by decide) ?_
      refine z_callV (As := [z_i 10]) (rest := []) zmX8_value znX8_value zsX8_value (show z_Cl[8]? = some (RX8, TX8, 9) from rfl) zlRL_103 ⟨Nat.le_of_ble_eq_true rfl, Nat.le_of_ble_eq_true rfl⟩ dL_foretold_353 hh0.1 rfl rfl (z_ai z_a0) (Nat.le_of_ble_eq_true rfl) (Nat.le_of_ble_eq_true rfl) ⟨rfl, rfl⟩ (z_CIm h ?_)
      intro y25 w24 h
      show z_Sem mL_foretold (sh.length, 0) 356 [(15, z_i y22), (10, z_i y20), (5, z_i 1), (14, z_i y15), (13, z_i (y8.tmod y10)), (0, z_r 0), (1, z_r a1), (2, z_r a2), (3, z_r a3), (4, z_i x4)] [z_i y25] (sh, w24) Q
      refine z_iload 1 dL_foretold_356 rfl ?_
      obtain ⟨q26, h⟩ := h
      refine z_icmp_ne (tgt := 383) dL_foretold_358 (by decide) (fun c => absurd q26 c) (fun _ => ?_)
      refine z_aload_n 5 dL_foretold_361 rfl rfl ?_
      refine z_callV (As := []) (rest := []) zmX8_undo znX8_undo zsX8_undo (show z_Cl[8]? = some (RX8, TX8, 9) from rfl) zlRL_225 ⟨Nat.le_of_ble_eq_true rfl, Nat.le_of_ble_eq_true rfl⟩ dL_foretold_362 hh0.1 rfl rfl z_a0 (Nat.le_of_ble_eq_true rfl) (Nat.le_of_ble_eq_true rfl) ⟨rfl, rfl⟩ (z_CIm h ?_)
      intro y28 w27 h
      show z_Sem mL_foretold (sh.length, 0) 365 [(15, z_i y22), (10, z_i y20), (5, z_i 1), (14, z_i y15), (13, z_i (y8.tmod y10)), (0, z_r 0), (1, z_r a1), (2, z_r a2), (3, z_r a3), (4, z_i x4)] [z_i y28] (sh, w27) Q
      obtain ⟨q29, h⟩ := h
      refine z_if_lt (tgt := 383) dL_foretold_365 (by decide) (fun c => absurd c q29) (fun _ => ?_)
      refine z_aload_n 5 dL_foretold_368 rfl rfl ?_
      refine z_aload_n 7 dL_foretold_369 rfl rfl ?_
      refine z_iload 9 dL_foretold_370 rfl ?_
      refine z_aload_n 8 dL_foretold_372 rfl rfl ?_
      refine z_callS (As := [z_r 0, z_r a2, z_i x4, z_r a3]) (rest := []) zmL_isAs ztL_isAs zlRL_218 ⟨Nat.le_of_ble_eq_true rfl, Nat.le_of_ble_eq_true rfl⟩ dL_foretold_373 rfl rfl (z_ar (z_ar (z_ai (z_ar z_a0)))) (Nat.le_of_ble_eq_true rfl) (Nat.le_of_ble_eq_true rfl) ⟨rfl, rfl⟩ (z_CIm h ?_)
      intro y31 w30 h
      show z_Sem mL_foretold (sh.length, 0) 376 [(15, z_i y22), (10, z_i y20), (5, z_i 1), (14, z_i y15), (13, z_i (y8.tmod y10)), (0, z_r 0), (1, z_r a1), (2, z_r a2), (3, z_r a3), (4, z_i x4)] [z_i y31] (sh, w30) Q
      obtain ⟨q32, h⟩ := h
      refine z_if_eq (tgt := 383) dL_foretold_376 (by decide) (fun c => absurd c q32) (fun _ => ?_)
      refine z_iconst dL_foretold_379 (by decide) ?_
      refine z_goto (tgt := 384) dL_foretold_380 (by decide) ?_
      refine z_istore (L' := [(5, z_i 1), (15, z_i y22), (10, z_i y20), (14, z_i y15), (13, z_i (y8.tmod y10)), (0, z_r 0), (1, z_r a1), (2, z_r a2), (3, z_r a3), (4, z_i x4)]) dL_foretold_384 (by decide) rfl ?_
      refine z_sub (L' := [(0, z_r 0), (2, z_r a2), (3, z_r a3), (4, z_i x4), (5, z_i 1)]) [5, 7, 8, 9, 0] rfl ?_
      exact h
    · replace h := h.2 c16
      refine z_aload_n 4 dL_foretold_276 rfl rfl ?_
      refine z_bipush dL_foretold_277 (by decide) (by decide) ?_
      refine z_callV (As := [z_i 10]) (rest := []) zmX8_value znX8_value zsX8_value (show z_Cl[8]? = some (RX8, TX8, 9) from rfl) zlRL_103 ⟨Nat.le_of_ble_eq_true rfl, Nat.le_of_ble_eq_true rfl⟩ dL_foretold_279 hh0.1 rfl rfl (z_ai z_a0) (Nat.le_of_ble_eq_true rfl) (Nat.le_of_ble_eq_true rfl) ⟨rfl, rfl⟩ (z_CIm h ?_)
      intro y34 w33 h
      show z_Sem mL_foretold (sh.length, 0) 282 [(14, z_i y15), (10, z_i y13), (13, z_i (y8.tmod y10)), (5, z_i 1), (0, z_r 0), (1, z_r a1), (2, z_r a2), (3, z_r a3), (4, z_i x4)] [z_i y34] (sh, w33) Q
      refine z_iload 1 dL_foretold_282 rfl ?_
      refine z_icmp_ne (tgt := 298) dL_foretold_284 (by decide) (fun c35 => ?_) (fun c35 => ?_)
      · replace h := h.2 c35
        refine z_iconst dL_foretold_298 (by decide) ?_
        refine z_goto (tgt := 321) dL_foretold_299 (by decide) ?_
        refine z_istore (L' := [(5, z_i 0), (14, z_i y15), (10, z_i y13), (13, z_i (y8.tmod y10)), (0, z_r 0), (1, z_r a1), (2, z_r a2), (3, z_r a3), (4, z_i x4)]) dL_foretold_321 (by decide) rfl ?_
        refine z_aload_n 4 dL_foretold_323 rfl rfl ?_
        refine z_iload 3 dL_foretold_324 rfl ?_
        refine z_iconst dL_foretold_326 (by decide) ?_
        refine z_callV (As := [z_i (y8.tmod y10), z_i 2]) (rest := []) zmX8_ifDropped znX8_ifDropped zsX8_ifDropped (show z_Cl[8]? = some (RX8, TX8, 9) from rfl) zlRL_244 ⟨Nat.le_of_ble_eq_true rfl, Nat.le_of_ble_eq_true rfl⟩ dL_foretold_327 hh0.1 rfl rfl (z_ai (z_ai z_a0)) (Nat.le_of_ble_eq_true rfl) (Nat.le_of_ble_eq_true rfl) ⟨rfl, rfl⟩ (z_CIm h ?_)
        intro y37 w36 h
        show z_Sem mL_foretold (sh.length, 0) 330 [(5, z_i 0), (14, z_i y15), (10, z_i y13), (13, z_i (y8.tmod y10)), (0, z_r 0), (1, z_r a1), (2, z_r a2), (3, z_r a3), (4, z_i x4)] [z_i y37] (sh, w36) Q
        refine z_istore (L' := [(10, z_i y37), (5, z_i 0), (14, z_i y15), (13, z_i (y8.tmod y10)), (0, z_r 0), (1, z_r a1), (2, z_r a2), (3, z_r a3), (4, z_i x4)]) dL_foretold_330 (by decide) rfl ?_
        refine z_aload_n 4 dL_foretold_332 rfl rfl ?_
        refine z_iload 3 dL_foretold_333 rfl ?_
        refine z_callV (As := [z_i (y8.tmod y10)]) (rest := []) zmX8_drop znX8_drop zsX8_drop (show z_Cl[8]? = some (RX8, TX8, 9) from rfl) zlRL_110 ⟨Nat.le_of_ble_eq_true rfl, Nat.le_of_ble_eq_true rfl⟩ dL_foretold_335 hh0.1 rfl rfl (z_ai z_a0) (Nat.le_of_ble_eq_true rfl) (Nat.le_of_ble_eq_true rfl) ⟨rfl, rfl⟩ (z_CIm h ?_)
        intro y39 w38 h
        show z_Sem mL_foretold (sh.length, 0) 338 [(10, z_i y37), (5, z_i 0), (14, z_i y15), (13, z_i (y8.tmod y10)), (0, z_r 0), (1, z_r a1), (2, z_r a2), (3, z_r a3), (4, z_i x4)] [z_i y39] (sh, w38) Q
        refine z_istore (L' := [(15, z_i y39), (10, z_i y37), (5, z_i 0), (14, z_i y15), (13, z_i (y8.tmod y10)), (0, z_r 0), (1, z_r a1), (2, z_r a2), (3, z_r a3), (4, z_i x4)]) dL_foretold_338 (by decide) rfl ?_
        refine z_iload 2 dL_foretold_340 rfl ?_
        refine z_if_eq (tgt := 383) dL_foretold_342 (by decide) (fun _ => ?_) (fun c => absurd c (by decide))
        refine z_iconst dL_foretold_383 (by decide) ?_
        refine z_istore (L' := [(5, z_i 0), (15, z_i y39), (10, z_i y37), (14, z_i y15), (13, z_i (y8.tmod y10)), (0, z_r 0), (1, z_r a1), (2, z_r a2), (3, z_r a3), (4, z_i x4)]) dL_foretold_384 (by decide) rfl ?_
        refine z_sub (L' := [(0, z_r 0), (2, z_r a2), (3, z_r a3), (4, z_i x4), (5, z_i 0)]) [5, 7, 8, 9, 0] rfl ?_
        exact h
      · replace h := h.1 c35
        refine z_aload_n 4 dL_foretold_287 rfl rfl ?_
        refine z_callV (As := []) (rest := []) zmX8_undo znX8_undo zsX8_undo (show z_Cl[8]? = some (RX8, TX8, 9) from rfl) zlRL_225 ⟨Nat.le_of_ble_eq_true rfl, Nat.le_of_ble_eq_true rfl⟩ dL_foretold_288 hh0.1 rfl rfl z_a0 (Nat.le_of_ble_eq_true rfl) (Nat.le_of_ble_eq_true rfl) ⟨rfl, rfl⟩ (z_CIm h ?_)
        intro y41 w40 h
        show z_Sem mL_foretold (sh.length, 0) 291 [(14, z_i y15), (10, z_i y13), (13, z_i (y8.tmod y10)), (5, z_i 1), (0, z_r 0), (1, z_r a1), (2, z_r a2), (3, z_r a3), (4, z_i x4)] [z_i y41] (sh, w40) Q
        suffices hJ42 : z_Sem mL_foretold (sh.length, 0) 321 [(0, z_r 0), (2, z_r a2), (3, z_r a3), (4, z_i x4), (13, z_i (y8.tmod y10))] [z_i (if y41 < 0 then 0 else 1)] (sh, w40) Q by
          refine z_if_lt (tgt := 298) dL_foretold_291 (by decide) (fun c43 => ?_) (fun c43 => ?_)
          · skip
            refine z_iconst dL_foretold_298 (by decide) ?_
            refine z_goto (tgt := 321) dL_foretold_299 (by decide) ?_
            refine z_sub (L' := [(0, z_r 0), (2, z_r a2), (3, z_r a3), (4, z_i x4), (13, z_i (y8.tmod y10))]) [4, 6, 7, 8, 2] rfl ?_
            simp only [if_pos c43] at hJ42
            exact hJ42
          · skip
            refine z_iconst dL_foretold_294 (by decide) ?_
            refine z_goto (tgt := 321) dL_foretold_295 (by decide) ?_
            refine z_sub (L' := [(0, z_r 0), (2, z_r a2), (3, z_r a3), (4, z_i x4), (13, z_i (y8.tmod y10))]) [4, 6, 7, 8, 2] rfl ?_
            simp only [if_neg c43] at hJ42
            exact hJ42
        refine z_nam (fun y46 hy46 => ?_)
        replace h := h y46 hy46
        refine z_istore (L' := [(5, z_i y46), (0, z_r 0), (2, z_r a2), (3, z_r a3), (4, z_i x4), (13, z_i (y8.tmod y10))]) dL_foretold_321 (by decide) rfl ?_
        refine z_aload_n 1 dL_foretold_323 rfl rfl ?_
        refine z_iload 5 dL_foretold_324 rfl ?_
        refine z_iconst dL_foretold_326 (by decide) ?_
        refine z_callV (As := [z_i (y8.tmod y10), z_i 2]) (rest := []) zmX8_ifDropped znX8_ifDropped zsX8_ifDropped (show z_Cl[8]? = some (RX8, TX8, 9) from rfl) zlRL_244 ⟨Nat.le_of_ble_eq_true rfl, Nat.le_of_ble_eq_true rfl⟩ dL_foretold_327 hh0.1 rfl rfl (z_ai (z_ai z_a0)) (Nat.le_of_ble_eq_true rfl) (Nat.le_of_ble_eq_true rfl) ⟨rfl, rfl⟩ (z_CIm h ?_)
        intro y48 w47 h
        show z_Sem mL_foretold (sh.length, 0) 330 [(5, z_i y46), (0, z_r 0), (2, z_r a2), (3, z_r a3), (4, z_i x4), (13, z_i (y8.tmod y10))] [z_i y48] (sh, w47) Q
        refine z_istore (L' := [(10, z_i y48), (5, z_i y46), (0, z_r 0), (2, z_r a2), (3, z_r a3), (4, z_i x4), (13, z_i (y8.tmod y10))]) dL_foretold_330 (by decide) rfl ?_
        refine z_aload_n 2 dL_foretold_332 rfl rfl ?_
        refine z_iload 6 dL_foretold_333 rfl ?_
        refine z_callV (As := [z_i (y8.tmod y10)]) (rest := []) zmX8_drop znX8_drop zsX8_drop (show z_Cl[8]? = some (RX8, TX8, 9) from rfl) zlRL_110 ⟨Nat.le_of_ble_eq_true rfl, Nat.le_of_ble_eq_true rfl⟩ dL_foretold_335 hh0.1 rfl rfl (z_ai z_a0) (Nat.le_of_ble_eq_true rfl) (Nat.le_of_ble_eq_true rfl) ⟨rfl, rfl⟩ (z_CIm h ?_)
        intro y50 w49 h
        show z_Sem mL_foretold (sh.length, 0) 338 [(10, z_i y48), (5, z_i y46), (0, z_r 0), (2, z_r a2), (3, z_r a3), (4, z_i x4), (13, z_i (y8.tmod y10))] [z_i y50] (sh, w49) Q
        refine z_istore (L' := [(15, z_i y50), (10, z_i y48), (5, z_i y46), (0, z_r 0), (2, z_r a2), (3, z_r a3), (4, z_i x4), (13, z_i (y8.tmod y10))]) dL_foretold_338 (by decide) rfl ?_
        refine z_iload 2 dL_foretold_340 rfl ?_
        obtain ⟨q51, h⟩ := h
        refine z_if_eq (tgt := 383) dL_foretold_342 (by decide) (fun c => absurd c q51) (fun _ => ?_)
        refine z_iload 0 dL_foretold_345 rfl ?_
        obtain ⟨q52, h⟩ := h
        refine z_if_lt (tgt := 383) dL_foretold_347 (by decide) (fun c => absurd c q52) (fun _ => ?_)
        refine z_aload_n 3 dL_foretold_350 rfl rfl ?_
        refine z_bipush dL_foretold_351 (by decide) (by decide) ?_
        refine z_callV (As := [z_i 10]) (rest := []) zmX8_value znX8_value zsX8_value (show z_Cl[8]? = some (RX8, TX8, 9) from rfl) zlRL_103 ⟨Nat.le_of_ble_eq_true rfl, Nat.le_of_ble_eq_true rfl⟩ dL_foretold_353 hh0.1 rfl rfl (z_ai z_a0) (Nat.le_of_ble_eq_true rfl) (Nat.le_of_ble_eq_true rfl) ⟨rfl, rfl⟩ (z_CIm h ?_)
        intro y54 w53 h
        show z_Sem mL_foretold (sh.length, 0) 356 [(15, z_i y50), (10, z_i y48), (5, z_i y46), (0, z_r 0), (2, z_r a2), (3, z_r a3), (4, z_i x4), (13, z_i (y8.tmod y10))] [z_i y54] (sh, w53) Q
        refine z_iload 1 dL_foretold_356 rfl ?_
        obtain ⟨q55, h⟩ := h
        refine z_icmp_ne (tgt := 383) dL_foretold_358 (by decide) (fun c => absurd q55 c) (fun _ => ?_)
        refine z_aload_n 3 dL_foretold_361 rfl rfl ?_
        refine z_callV (As := []) (rest := []) zmX8_undo znX8_undo zsX8_undo (show z_Cl[8]? = some (RX8, TX8, 9) from rfl) zlRL_225 ⟨Nat.le_of_ble_eq_true rfl, Nat.le_of_ble_eq_true rfl⟩ dL_foretold_362 hh0.1 rfl rfl z_a0 (Nat.le_of_ble_eq_true rfl) (Nat.le_of_ble_eq_true rfl) ⟨rfl, rfl⟩ (z_CIm h ?_)
        intro y57 w56 h
        show z_Sem mL_foretold (sh.length, 0) 365 [(15, z_i y50), (10, z_i y48), (5, z_i y46), (0, z_r 0), (2, z_r a2), (3, z_r a3), (4, z_i x4), (13, z_i (y8.tmod y10))] [z_i y57] (sh, w56) Q
        obtain ⟨q58, h⟩ := h
        refine z_if_lt (tgt := 383) dL_foretold_365 (by decide) (fun c => absurd c q58) (fun _ => ?_)
        refine z_aload_n 3 dL_foretold_368 rfl rfl ?_
        refine z_aload_n 4 dL_foretold_369 rfl rfl ?_
        refine z_iload 6 dL_foretold_370 rfl ?_
        refine z_aload_n 5 dL_foretold_372 rfl rfl ?_
        refine z_callS (As := [z_r 0, z_r a2, z_i x4, z_r a3]) (rest := []) zmL_isAs ztL_isAs zlRL_218 ⟨Nat.le_of_ble_eq_true rfl, Nat.le_of_ble_eq_true rfl⟩ dL_foretold_373 rfl rfl (z_ar (z_ar (z_ai (z_ar z_a0)))) (Nat.le_of_ble_eq_true rfl) (Nat.le_of_ble_eq_true rfl) ⟨rfl, rfl⟩ (z_CIm h ?_)
        intro y60 w59 h
        show z_Sem mL_foretold (sh.length, 0) 376 [(15, z_i y50), (10, z_i y48), (5, z_i y46), (0, z_r 0), (2, z_r a2), (3, z_r a3), (4, z_i x4), (13, z_i (y8.tmod y10))] [z_i y60] (sh, w59) Q
        obtain ⟨q61, h⟩ := h
        refine z_if_eq (tgt := 383) dL_foretold_376 (by decide) (fun c => absurd c q61) (fun _ => ?_)
        refine z_iconst dL_foretold_379 (by decide) ?_
        refine z_goto (tgt := 384) dL_foretold_380 (by decide) ?_
        refine z_istore (L' := [(5, z_i 1), (15, z_i y50), (10, z_i y48), (0, z_r 0), (2, z_r a2), (3, z_r a3), (4, z_i x4), (13, z_i (y8.tmod y10))]) dL_foretold_384 (by decide) rfl ?_
        refine z_sub (L' := [(0, z_r 0), (2, z_r a2), (3, z_r a3), (4, z_i x4), (5, z_i 1)]) [3, 4, 5, 6, 0] rfl ?_
        exact h
set_option maxRecDepth 100000 in
theorem t_L_foretold_386 {sh : List z_C} {w : Nat → Int → Int} {Q : Option z_V → z_S → Prop} {a1 : Nat} {a2 : Nat} {a3 : Nat} {x4 : Int} (hh0 : z_isTG sh 0) (hh1 : sh[a1]? = some (.inr (.inl (0, 8)))) (hh2 : sh[a2]? = some (.inr (.inl (0, 400)))) (hh3 : sh[a3]? = some (.inr (.inl (0, 400)))) (h : z_Sem mL_foretold (sh.length, 0) 392 [(0, z_r 0), (2, z_r a2), (3, z_r a3), (4, z_i x4), (5, z_i 1), (13, z_i 0), (14, z_i 0)] [] (sh, w) Q) : z_Sem mL_foretold (sh.length, 0) 386 [(0, z_r 0), (2, z_r a2), (3, z_r a3), (4, z_i x4), (5, z_i 1)] [] (sh, w) Q := by
  refine z_iconst dL_foretold_386 (by decide) ?_
  refine z_istore (L' := [(13, z_i 0), (0, z_r 0), (2, z_r a2), (3, z_r a3), (4, z_i x4), (5, z_i 1)]) dL_foretold_387 (by decide) rfl ?_
  refine z_iconst dL_foretold_389 (by decide) ?_
  refine z_istore (L' := [(14, z_i 0), (13, z_i 0), (0, z_r 0), (2, z_r a2), (3, z_r a3), (4, z_i x4), (5, z_i 1)]) dL_foretold_390 (by decide) rfl ?_
  refine z_sub (L' := [(0, z_r 0), (2, z_r a2), (3, z_r a3), (4, z_i x4), (5, z_i 1), (13, z_i 0), (14, z_i 0)]) [2, 3, 4, 5, 6, 1, 0] rfl ?_
  exact h
set_option maxRecDepth 100000 in
theorem t_L_foretold_392 {sh : List z_C} {w : Nat → Int → Int} {Q : Option z_V → z_S → Prop} {a1 : Nat} {a2 : Nat} {a3 : Nat} {x4 : Int} {x13 : Int} {x14 : Int} (hh0 : z_isTG sh 0) (hh1 : sh[a1]? = some (.inr (.inl (0, 8)))) (hh2 : sh[a2]? = some (.inr (.inl (0, 400)))) (hh3 : sh[a3]? = some (.inr (.inl (0, 400)))) (h : z_CI mX8_value [z_r 0, z_i 1] sh w (fun y2 w1 => ((y2 ≤ x14 → z_CI mX8_needless [z_r 0] sh w1 (fun y5 w4 => z_CI mX8_thin [z_r 0] sh w4 (fun y7 w6 => z_CI mX8_tighten [z_r 0] sh w6 (fun y9 w8 => z_Sem mL_foretold (sh.length, 0) 467 [(0, z_r 0), (2, z_r a2), (3, z_r a3), (4, z_i x4), (5, z_i 1), (13, z_i x13), (14, z_i y5), (15, z_i y7), (16, z_i y9), (17, z_i 0), (18, z_i 0)] [] (sh, w8) Q)))) ∧ (¬ y2 ≤ x14 → z_Sem mL_foretold (sh.length, 0) 405 [(0, z_r 0), (2, z_r a2), (3, z_r a3), (4, z_i x4), (5, z_i 1), (13, z_i x13), (14, z_i x14), (15, z_i 0)] [] (sh, w1) Q)))) : z_Sem mL_foretold (sh.length, 0) 392 [(0, z_r 0), (2, z_r a2), (3, z_r a3), (4, z_i x4), (5, z_i 1), (13, z_i x13), (14, z_i x14)] [] (sh, w) Q := by
  refine z_iload 6 dL_foretold_392 rfl ?_
  refine z_aload_n 0 dL_foretold_394 rfl rfl ?_
  refine z_iconst dL_foretold_395 (by decide) ?_
  refine z_callV (As := [z_i 1]) (rest := [z_i x14]) zmX8_value znX8_value zsX8_value (show z_Cl[8]? = some (RX8, TX8, 9) from rfl) zlRL_103 ⟨Nat.le_of_ble_eq_true rfl, Nat.le_of_ble_eq_true rfl⟩ dL_foretold_396 hh0.1 rfl rfl (z_ai z_a0) (Nat.le_of_ble_eq_true rfl) (Nat.le_of_ble_eq_true rfl) ⟨rfl, rfl⟩ (z_CIm h ?_)
  intro y2 w1 h
  show z_Sem mL_foretold (sh.length, 0) 399 [(0, z_r 0), (2, z_r a2), (3, z_r a3), (4, z_i x4), (5, z_i 1), (13, z_i x13), (14, z_i x14)] [z_i y2, z_i x14] (sh, w1) Q
  refine z_icmp_ge (tgt := 443) dL_foretold_399 (by decide) (fun c3 => ?_) (fun c3 => ?_)
  · replace h := h.1 c3
    refine z_aload_n 0 dL_foretold_443 rfl rfl ?_
    refine z_callV (As := []) (rest := []) zmX8_needless znX8_needless zsX8_needless (show z_Cl[8]? = some (RX8, TX8, 9) from rfl) zlRL_247 ⟨Nat.le_of_ble_eq_true rfl, Nat.le_of_ble_eq_true rfl⟩ dL_foretold_444 hh0.1 rfl rfl z_a0 (Nat.le_of_ble_eq_true rfl) (Nat.le_of_ble_eq_true rfl) ⟨rfl, rfl⟩ (z_CIm h ?_)
    intro y5 w4 h
    show z_Sem mL_foretold (sh.length, 0) 447 [(0, z_r 0), (2, z_r a2), (3, z_r a3), (4, z_i x4), (5, z_i 1), (13, z_i x13), (14, z_i x14)] [z_i y5] (sh, w4) Q
    refine z_istore (L' := [(14, z_i y5), (0, z_r 0), (2, z_r a2), (3, z_r a3), (4, z_i x4), (5, z_i 1), (13, z_i x13)]) dL_foretold_447 (by decide) rfl ?_
    refine z_aload_n 1 dL_foretold_449 rfl rfl ?_
    refine z_callV (As := []) (rest := []) zmX8_thin znX8_thin zsX8_thin (show z_Cl[8]? = some (RX8, TX8, 9) from rfl) zlRL_134 ⟨Nat.le_of_ble_eq_true rfl, Nat.le_of_ble_eq_true rfl⟩ dL_foretold_450 hh0.1 rfl rfl z_a0 (Nat.le_of_ble_eq_true rfl) (Nat.le_of_ble_eq_true rfl) ⟨rfl, rfl⟩ (z_CIm h ?_)
    intro y7 w6 h
    show z_Sem mL_foretold (sh.length, 0) 453 [(14, z_i y5), (0, z_r 0), (2, z_r a2), (3, z_r a3), (4, z_i x4), (5, z_i 1), (13, z_i x13)] [z_i y7] (sh, w6) Q
    refine z_istore (L' := [(15, z_i y7), (14, z_i y5), (0, z_r 0), (2, z_r a2), (3, z_r a3), (4, z_i x4), (5, z_i 1), (13, z_i x13)]) dL_foretold_453 (by decide) rfl ?_
    refine z_aload_n 2 dL_foretold_455 rfl rfl ?_
    refine z_callV (As := []) (rest := []) zmX8_tighten znX8_tighten zsX8_tighten (show z_Cl[8]? = some (RX8, TX8, 9) from rfl) zlRL_131 ⟨Nat.le_of_ble_eq_true rfl, Nat.le_of_ble_eq_true rfl⟩ dL_foretold_456 hh0.1 rfl rfl z_a0 (Nat.le_of_ble_eq_true rfl) (Nat.le_of_ble_eq_true rfl) ⟨rfl, rfl⟩ (z_CIm h ?_)
    intro y9 w8 h
    show z_Sem mL_foretold (sh.length, 0) 459 [(15, z_i y7), (14, z_i y5), (0, z_r 0), (2, z_r a2), (3, z_r a3), (4, z_i x4), (5, z_i 1), (13, z_i x13)] [z_i y9] (sh, w8) Q
    refine z_istore (L' := [(16, z_i y9), (15, z_i y7), (14, z_i y5), (0, z_r 0), (2, z_r a2), (3, z_r a3), (4, z_i x4), (5, z_i 1), (13, z_i x13)]) dL_foretold_459 (by decide) rfl ?_
    refine z_iconst dL_foretold_461 (by decide) ?_
    refine z_istore (L' := [(17, z_i 0), (16, z_i y9), (15, z_i y7), (14, z_i y5), (0, z_r 0), (2, z_r a2), (3, z_r a3), (4, z_i x4), (5, z_i 1), (13, z_i x13)]) dL_foretold_462 (by decide) rfl ?_
    refine z_iconst dL_foretold_464 (by decide) ?_
    refine z_istore (L' := [(18, z_i 0), (17, z_i 0), (16, z_i y9), (15, z_i y7), (14, z_i y5), (0, z_r 0), (2, z_r a2), (3, z_r a3), (4, z_i x4), (5, z_i 1), (13, z_i x13)]) dL_foretold_465 (by decide) rfl ?_
    refine z_sub (L' := [(0, z_r 0), (2, z_r a2), (3, z_r a3), (4, z_i x4), (5, z_i 1), (13, z_i x13), (14, z_i y5), (15, z_i y7), (16, z_i y9), (17, z_i 0), (18, z_i 0)]) [5, 6, 7, 8, 9, 10, 4, 3, 2, 1, 0] rfl ?_
    exact h
  · replace h := h.2 c3
    refine z_iconst dL_foretold_402 (by decide) ?_
    refine z_istore (L' := [(15, z_i 0), (0, z_r 0), (2, z_r a2), (3, z_r a3), (4, z_i x4), (5, z_i 1), (13, z_i x13), (14, z_i x14)]) dL_foretold_403 (by decide) rfl ?_
    refine z_sub (L' := [(0, z_r 0), (2, z_r a2), (3, z_r a3), (4, z_i x4), (5, z_i 1), (13, z_i x13), (14, z_i x14), (15, z_i 0)]) [1, 2, 3, 4, 5, 6, 7, 0] rfl ?_
    exact h
set_option maxRecDepth 100000 in
theorem t_L_foretold_467 {sh : List z_C} {w : Nat → Int → Int} {Q : Option z_V → z_S → Prop} {a1 : Nat} {a2 : Nat} {a3 : Nat} {x4 : Int} {x13 : Int} {x14 : Int} {x15 : Int} {x16 : Int} {x17 : Int} {x18 : Int} (hh0 : z_isTG sh 0) (hh1 : sh[a1]? = some (.inr (.inl (0, 8)))) (hh2 : sh[a2]? = some (.inr (.inl (0, 400)))) (hh3 : sh[a3]? = some (.inr (.inl (0, 400)))) (h : z_CI mX8_value [z_r 0, z_i 1] sh w (fun y2 w1 => ((y2 ≤ x18 → (x17 = x13) ∧ ((if 0 ≤ x14 then (0 : Int) else 1) = (if x15 = (-2) then (1 : Int) else 0)) ∧ z_CI mX8_needless [z_r 0] sh w1 (fun y15 w14 => (y15 = (-2)) ∧ ((x16 < 0 → z_Sem mL_foretold (sh.length, 0) 576 [(0, z_r 0), (2, z_r a2), (3, z_r a3), (4, z_i x4), (15, z_i x15)] [] (sh, w14) Q) ∧ (¬ x16 < 0 → z_CI mX8_undo [z_r 0] sh w14 (fun y19 w18 => (¬ y19 < 0) ∧ z_Sem mL_foretold (sh.length, 0) 576 [(0, z_r 0), (2, z_r a2), (3, z_r a3), (4, z_i x4), (15, z_i x15)] [] (sh, w18) Q))))) ∧ (¬ y2 ≤ x18 → z_Sem mL_foretold (sh.length, 0) 480 [(0, z_r 0), (2, z_r a2), (3, z_r a3), (4, z_i x4), (5, z_i 1), (13, z_i x13), (14, z_i x14), (15, z_i x15), (16, z_i x16), (17, z_i x17), (18, z_i x18), (19, z_i 0)] [] (sh, w1) Q)))) : z_Sem mL_foretold (sh.length, 0) 467 [(0, z_r 0), (2, z_r a2), (3, z_r a3), (4, z_i x4), (5, z_i 1), (13, z_i x13), (14, z_i x14), (15, z_i x15), (16, z_i x16), (17, z_i x17), (18, z_i x18)] [] (sh, w) Q := by
  refine z_iload 10 dL_foretold_467 rfl ?_
  refine z_aload_n 0 dL_foretold_469 rfl rfl ?_
  refine z_iconst dL_foretold_470 (by decide) ?_
  refine z_callV (As := [z_i 1]) (rest := [z_i x18]) zmX8_value znX8_value zsX8_value (show z_Cl[8]? = some (RX8, TX8, 9) from rfl) zlRL_103 ⟨Nat.le_of_ble_eq_true rfl, Nat.le_of_ble_eq_true rfl⟩ dL_foretold_471 hh0.1 rfl rfl (z_ai z_a0) (Nat.le_of_ble_eq_true rfl) (Nat.le_of_ble_eq_true rfl) ⟨rfl, rfl⟩ (z_CIm h ?_)
  intro y2 w1 h
  show z_Sem mL_foretold (sh.length, 0) 474 [(0, z_r 0), (2, z_r a2), (3, z_r a3), (4, z_i x4), (5, z_i 1), (13, z_i x13), (14, z_i x14), (15, z_i x15), (16, z_i x16), (17, z_i x17), (18, z_i x18)] [z_i y2, z_i x18] (sh, w1) Q
  refine z_icmp_ge (tgt := 518) dL_foretold_474 (by decide) (fun c3 => ?_) (fun c3 => ?_)
  · replace h := h.1 c3
    refine z_iload 4 dL_foretold_518 rfl ?_
    refine z_if_eq (tgt := 603) dL_foretold_520 (by decide) (fun c => absurd c (by decide)) (fun _ => ?_)
    refine z_iload 9 dL_foretold_523 rfl ?_
    refine z_iload 5 dL_foretold_525 rfl ?_
    obtain ⟨q4, h⟩ := h
    refine z_icmp_ne (tgt := 603) dL_foretold_527 (by decide) (fun c => absurd q4 c) (fun _ => ?_)
    refine z_iload 6 dL_foretold_530 rfl ?_
    suffices hJ5 : z_Sem mL_foretold (sh.length, 0) 540 [(0, z_r 0), (2, z_r a2), (3, z_r a3), (4, z_i x4), (15, z_i x15), (16, z_i x16)] [z_i (if 0 ≤ x14 then 0 else 1)] (sh, w1) Q by
      refine z_if_ge (tgt := 539) dL_foretold_532 (by decide) (fun c6 => ?_) (fun c6 => ?_)
      · skip
        refine z_iconst dL_foretold_539 (by decide) ?_
        refine z_sub (L' := [(0, z_r 0), (2, z_r a2), (3, z_r a3), (4, z_i x4), (15, z_i x15), (16, z_i x16)]) [0, 1, 2, 3, 7, 8] rfl ?_
        simp only [if_pos c6] at hJ5
        exact hJ5
      · skip
        refine z_iconst dL_foretold_535 (by decide) ?_
        refine z_goto (tgt := 540) dL_foretold_536 (by decide) ?_
        refine z_sub (L' := [(0, z_r 0), (2, z_r a2), (3, z_r a3), (4, z_i x4), (15, z_i x15), (16, z_i x16)]) [0, 1, 2, 3, 7, 8] rfl ?_
        simp only [if_neg c6] at hJ5
        exact hJ5
    refine z_iload 4 dL_foretold_540 rfl ?_
    refine z_bipush dL_foretold_542 (by decide) (by decide) ?_
    suffices hJ9 : z_Sem mL_foretold (sh.length, 0) 552 [(0, z_r 0), (2, z_r a2), (3, z_r a3), (4, z_i x4), (15, z_i x15), (16, z_i x16)] [z_i (if x15 = (-2) then 1 else 0), z_i (if 0 ≤ x14 then 0 else 1)] (sh, w1) Q by
      refine z_icmp_ne (tgt := 551) dL_foretold_544 (by decide) (fun c10 => ?_) (fun c10 => ?_)
      · skip
        refine z_iconst dL_foretold_551 (by decide) ?_
        simp only [if_neg c10] at hJ9
        exact hJ9
      · skip
        refine z_iconst dL_foretold_547 (by decide) ?_
        refine z_goto (tgt := 552) dL_foretold_548 (by decide) ?_
        simp only [if_pos c10] at hJ9
        exact hJ9
    obtain ⟨q13, h⟩ := h
    refine z_icmp_ne (tgt := 603) dL_foretold_552 (by decide) (fun c => absurd q13 c) (fun _ => ?_)
    refine z_aload_n 0 dL_foretold_555 rfl rfl ?_
    refine z_callV (As := []) (rest := []) zmX8_needless znX8_needless zsX8_needless (show z_Cl[8]? = some (RX8, TX8, 9) from rfl) zlRL_247 ⟨Nat.le_of_ble_eq_true rfl, Nat.le_of_ble_eq_true rfl⟩ dL_foretold_556 hh0.1 rfl rfl z_a0 (Nat.le_of_ble_eq_true rfl) (Nat.le_of_ble_eq_true rfl) ⟨rfl, rfl⟩ (z_CIm h ?_)
    intro y15 w14 h
    show z_Sem mL_foretold (sh.length, 0) 559 [(0, z_r 0), (2, z_r a2), (3, z_r a3), (4, z_i x4), (15, z_i x15), (16, z_i x16)] [z_i y15] (sh, w14) Q
    refine z_bipush dL_foretold_559 (by decide) (by decide) ?_
    obtain ⟨q16, h⟩ := h
    refine z_icmp_ne (tgt := 603) dL_foretold_561 (by decide) (fun c => absurd q16 c) (fun _ => ?_)
    refine z_iload 5 dL_foretold_564 rfl ?_
    refine z_if_lt (tgt := 576) dL_foretold_566 (by decide) (fun c17 => ?_) (fun c17 => ?_)
    · replace h := h.1 c17
      refine z_sub (L' := [(0, z_r 0), (2, z_r a2), (3, z_r a3), (4, z_i x4), (15, z_i x15)]) [0, 1, 2, 3, 4] rfl ?_
      exact h
    · replace h := h.2 c17
      refine z_aload_n 0 dL_foretold_569 rfl rfl ?_
      refine z_callV (As := []) (rest := []) zmX8_undo znX8_undo zsX8_undo (show z_Cl[8]? = some (RX8, TX8, 9) from rfl) zlRL_225 ⟨Nat.le_of_ble_eq_true rfl, Nat.le_of_ble_eq_true rfl⟩ dL_foretold_570 hh0.1 rfl rfl z_a0 (Nat.le_of_ble_eq_true rfl) (Nat.le_of_ble_eq_true rfl) ⟨rfl, rfl⟩ (z_CIm h ?_)
      intro y19 w18 h
      show z_Sem mL_foretold (sh.length, 0) 573 [(0, z_r 0), (2, z_r a2), (3, z_r a3), (4, z_i x4), (15, z_i x15), (16, z_i x16)] [z_i y19] (sh, w18) Q
      obtain ⟨q20, h⟩ := h
      refine z_if_lt (tgt := 603) dL_foretold_573 (by decide) (fun c => absurd c q20) (fun _ => ?_)
      refine z_sub (L' := [(0, z_r 0), (2, z_r a2), (3, z_r a3), (4, z_i x4), (15, z_i x15)]) [0, 1, 2, 3, 4] rfl ?_
      exact h
  · replace h := h.2 c3
    refine z_iconst dL_foretold_477 (by decide) ?_
    refine z_istore (L' := [(19, z_i 0), (0, z_r 0), (2, z_r a2), (3, z_r a3), (4, z_i x4), (5, z_i 1), (13, z_i x13), (14, z_i x14), (15, z_i x15), (16, z_i x16), (17, z_i x17), (18, z_i x18)]) dL_foretold_478 (by decide) rfl ?_
    refine z_sub (L' := [(0, z_r 0), (2, z_r a2), (3, z_r a3), (4, z_i x4), (5, z_i 1), (13, z_i x13), (14, z_i x14), (15, z_i x15), (16, z_i x16), (17, z_i x17), (18, z_i x18), (19, z_i 0)]) [1, 2, 3, 4, 5, 6, 7, 8, 9, 10, 11, 0] rfl ?_
    exact h
set_option maxRecDepth 100000 in
theorem t_L_foretold_405 {sh : List z_C} {w : Nat → Int → Int} {Q : Option z_V → z_S → Prop} {a1 : Nat} {a2 : Nat} {a3 : Nat} {x4 : Int} {x13 : Int} {x14 : Int} {x15 : Int} (hh0 : z_isTG sh 0) (hh1 : sh[a1]? = some (.inr (.inl (0, 8)))) (hh2 : sh[a2]? = some (.inr (.inl (0, 400)))) (hh3 : sh[a3]? = some (.inr (.inl (0, 400)))) (h : z_CI mX8_value [z_r 0, z_i 1] sh w (fun y2 w1 => ((y2 ≤ x15 → (z_R (x14 + 1)) ∧ z_Sem mL_foretold (sh.length, 0) 392 [(0, z_r 0), (2, z_r a2), (3, z_r a3), (4, z_i x4), (5, z_i 1), (13, z_i x13), (14, z_i (x14 + 1))] [] (sh, w1) Q) ∧ (¬ y2 ≤ x15 → z_CI mX8_bound [z_r 0, z_i x14, z_i x15] sh w1 (fun y6 w5 => ∀ y7 : Int, y7 = (z_nrm ((z_nrm (31 * x13)) + y6)) → (z_R (x15 + 1)) ∧ z_Sem mL_foretold (sh.length, 0) 405 [(0, z_r 0), (2, z_r a2), (3, z_r a3), (4, z_i x4), (5, z_i 1), (13, z_i y7), (14, z_i x14), (15, z_i (x15 + 1))] [] (sh, w5) Q))))) : z_Sem mL_foretold (sh.length, 0) 405 [(0, z_r 0), (2, z_r a2), (3, z_r a3), (4, z_i x4), (5, z_i 1), (13, z_i x13), (14, z_i x14), (15, z_i x15)] [] (sh, w) Q := by
  refine z_iload 7 dL_foretold_405 rfl ?_
  refine z_aload_n 0 dL_foretold_407 rfl rfl ?_
  refine z_iconst dL_foretold_408 (by decide) ?_
  refine z_callV (As := [z_i 1]) (rest := [z_i x15]) zmX8_value znX8_value zsX8_value (show z_Cl[8]? = some (RX8, TX8, 9) from rfl) zlRL_103 ⟨Nat.le_of_ble_eq_true rfl, Nat.le_of_ble_eq_true rfl⟩ dL_foretold_409 hh0.1 rfl rfl (z_ai z_a0) (Nat.le_of_ble_eq_true rfl) (Nat.le_of_ble_eq_true rfl) ⟨rfl, rfl⟩ (z_CIm h ?_)
  intro y2 w1 h
  show z_Sem mL_foretold (sh.length, 0) 412 [(0, z_r 0), (2, z_r a2), (3, z_r a3), (4, z_i x4), (5, z_i 1), (13, z_i x13), (14, z_i x14), (15, z_i x15)] [z_i y2, z_i x15] (sh, w1) Q
  refine z_icmp_ge (tgt := 437) dL_foretold_412 (by decide) (fun c3 => ?_) (fun c3 => ?_)
  · replace h := h.1 c3
    obtain ⟨q4, h⟩ := h
    refine z_iinc (L' := [(14, z_i (x14 + 1)), (0, z_r 0), (2, z_r a2), (3, z_r a3), (4, z_i x4), (5, z_i 1), (13, z_i x13), (15, z_i x15)]) 6 dL_foretold_437 rfl (by decide) rfl q4 ?_
    refine z_goto (tgt := 392) dL_foretold_440 (by decide) ?_
    refine z_sub (L' := [(0, z_r 0), (2, z_r a2), (3, z_r a3), (4, z_i x4), (5, z_i 1), (13, z_i x13), (14, z_i (x14 + 1))]) [1, 2, 3, 4, 5, 6, 0] rfl ?_
    exact h
  · replace h := h.2 c3
    refine z_bipush dL_foretold_415 (by decide) (by decide) ?_
    refine z_iload 5 dL_foretold_417 rfl ?_
    refine z_imulW dL_foretold_419 ?_
    refine z_aload_n 0 dL_foretold_420 rfl rfl ?_
    refine z_iload 6 dL_foretold_421 rfl ?_
    refine z_iload 7 dL_foretold_423 rfl ?_
    refine z_callV (As := [z_i x14, z_i x15]) (rest := [z_i (z_nrm (31 * x13))]) zmX8_bound znX8_bound zsX8_bound (show z_Cl[8]? = some (RX8, TX8, 9) from rfl) zlRL_178 ⟨Nat.le_of_ble_eq_true rfl, Nat.le_of_ble_eq_true rfl⟩ dL_foretold_425 hh0.1 rfl rfl (z_ai (z_ai z_a0)) (Nat.le_of_ble_eq_true rfl) (Nat.le_of_ble_eq_true rfl) ⟨rfl, rfl⟩ (z_CIm h ?_)
    intro y6 w5 h
    show z_Sem mL_foretold (sh.length, 0) 428 [(0, z_r 0), (2, z_r a2), (3, z_r a3), (4, z_i x4), (5, z_i 1), (13, z_i x13), (14, z_i x14), (15, z_i x15)] [z_i y6, z_i (z_nrm (31 * x13))] (sh, w5) Q
    refine z_iaddW dL_foretold_428 ?_
    refine z_nam (fun y7 hy7 => ?_)
    replace h := h y7 hy7
    refine z_istore (L' := [(13, z_i y7), (0, z_r 0), (2, z_r a2), (3, z_r a3), (4, z_i x4), (5, z_i 1), (14, z_i x14), (15, z_i x15)]) dL_foretold_429 (by decide) rfl ?_
    obtain ⟨q8, h⟩ := h
    refine z_iinc (L' := [(15, z_i (x15 + 1)), (13, z_i y7), (0, z_r 0), (2, z_r a2), (3, z_r a3), (4, z_i x4), (5, z_i 1), (14, z_i x14)]) 7 dL_foretold_431 rfl (by decide) rfl q8 ?_
    refine z_goto (tgt := 405) dL_foretold_434 (by decide) ?_
    refine z_sub (L' := [(0, z_r 0), (2, z_r a2), (3, z_r a3), (4, z_i x4), (5, z_i 1), (13, z_i y7), (14, z_i x14), (15, z_i (x15 + 1))]) [2, 3, 4, 5, 6, 1, 7, 0] rfl ?_
    exact h
set_option maxRecDepth 100000 in
theorem t_L_foretold_576 {sh : List z_C} {w : Nat → Int → Int} {Q : Option z_V → z_S → Prop} {a1 : Nat} {a2 : Nat} {a3 : Nat} {x4 : Int} {x15 : Int} (hh0 : z_isTG sh 0) (hh1 : sh[a1]? = some (.inr (.inl (0, 8)))) (hh2 : sh[a2]? = some (.inr (.inl (0, 400)))) (hh3 : sh[a3]? = some (.inr (.inl (0, 400)))) (h : ((x15 < 0 → z_Sem mL_foretold (sh.length, 0) 588 [(0, z_r 0), (2, z_r a2), (3, z_r a3), (4, z_i x4)] [] (sh, w) Q) ∧ (¬ x15 < 0 → z_CI mX8_undo [z_r 0] sh w (fun y3 w2 => (¬ y3 < 0) ∧ z_Sem mL_foretold (sh.length, 0) 588 [(0, z_r 0), (2, z_r a2), (3, z_r a3), (4, z_i x4)] [] (sh, w2) Q)))) : z_Sem mL_foretold (sh.length, 0) 576 [(0, z_r 0), (2, z_r a2), (3, z_r a3), (4, z_i x4), (15, z_i x15)] [] (sh, w) Q := by
  refine z_iload 4 dL_foretold_576 rfl ?_
  refine z_if_lt (tgt := 588) dL_foretold_578 (by decide) (fun c1 => ?_) (fun c1 => ?_)
  · replace h := h.1 c1
    refine z_sub (L' := [(0, z_r 0), (2, z_r a2), (3, z_r a3), (4, z_i x4)]) [0, 1, 2, 3] rfl ?_
    exact h
  · replace h := h.2 c1
    refine z_aload_n 0 dL_foretold_581 rfl rfl ?_
    refine z_callV (As := []) (rest := []) zmX8_undo znX8_undo zsX8_undo (show z_Cl[8]? = some (RX8, TX8, 9) from rfl) zlRL_225 ⟨Nat.le_of_ble_eq_true rfl, Nat.le_of_ble_eq_true rfl⟩ dL_foretold_582 hh0.1 rfl rfl z_a0 (Nat.le_of_ble_eq_true rfl) (Nat.le_of_ble_eq_true rfl) ⟨rfl, rfl⟩ (z_CIm h ?_)
    intro y3 w2 h
    show z_Sem mL_foretold (sh.length, 0) 585 [(0, z_r 0), (2, z_r a2), (3, z_r a3), (4, z_i x4), (15, z_i x15)] [z_i y3] (sh, w2) Q
    obtain ⟨q4, h⟩ := h
    refine z_if_lt (tgt := 603) dL_foretold_585 (by decide) (fun c => absurd c q4) (fun _ => ?_)
    refine z_sub (L' := [(0, z_r 0), (2, z_r a2), (3, z_r a3), (4, z_i x4)]) [0, 1, 2, 3] rfl ?_
    exact h
set_option maxRecDepth 100000 in
theorem t_L_foretold_480 {sh : List z_C} {w : Nat → Int → Int} {Q : Option z_V → z_S → Prop} {a1 : Nat} {a2 : Nat} {a3 : Nat} {x4 : Int} {x13 : Int} {x14 : Int} {x15 : Int} {x16 : Int} {x17 : Int} {x18 : Int} {x19 : Int} (hh0 : z_isTG sh 0) (hh1 : sh[a1]? = some (.inr (.inl (0, 8)))) (hh2 : sh[a2]? = some (.inr (.inl (0, 400)))) (hh3 : sh[a3]? = some (.inr (.inl (0, 400)))) (h : z_CI mX8_value [z_r 0, z_i 1] sh w (fun y2 w1 => ((y2 ≤ x19 → (z_R (x18 + 1)) ∧ z_Sem mL_foretold (sh.length, 0) 467 [(0, z_r 0), (2, z_r a2), (3, z_r a3), (4, z_i x4), (5, z_i 1), (13, z_i x13), (14, z_i x14), (15, z_i x15), (16, z_i x16), (17, z_i x17), (18, z_i (x18 + 1))] [] (sh, w1) Q) ∧ (¬ y2 ≤ x19 → z_CI mX8_bound [z_r 0, z_i x18, z_i x19] sh w1 (fun y6 w5 => ∀ y7 : Int, y7 = (z_nrm ((z_nrm (31 * x17)) + y6)) → (z_R (x19 + 1)) ∧ z_Sem mL_foretold (sh.length, 0) 480 [(0, z_r 0), (2, z_r a2), (3, z_r a3), (4, z_i x4), (5, z_i 1), (13, z_i x13), (14, z_i x14), (15, z_i x15), (16, z_i x16), (17, z_i y7), (18, z_i x18), (19, z_i (x19 + 1))] [] (sh, w5) Q))))) : z_Sem mL_foretold (sh.length, 0) 480 [(0, z_r 0), (2, z_r a2), (3, z_r a3), (4, z_i x4), (5, z_i 1), (13, z_i x13), (14, z_i x14), (15, z_i x15), (16, z_i x16), (17, z_i x17), (18, z_i x18), (19, z_i x19)] [] (sh, w) Q := by
  refine z_iload 11 dL_foretold_480 rfl ?_
  refine z_aload_n 0 dL_foretold_482 rfl rfl ?_
  refine z_iconst dL_foretold_483 (by decide) ?_
  refine z_callV (As := [z_i 1]) (rest := [z_i x19]) zmX8_value znX8_value zsX8_value (show z_Cl[8]? = some (RX8, TX8, 9) from rfl) zlRL_103 ⟨Nat.le_of_ble_eq_true rfl, Nat.le_of_ble_eq_true rfl⟩ dL_foretold_484 hh0.1 rfl rfl (z_ai z_a0) (Nat.le_of_ble_eq_true rfl) (Nat.le_of_ble_eq_true rfl) ⟨rfl, rfl⟩ (z_CIm h ?_)
  intro y2 w1 h
  show z_Sem mL_foretold (sh.length, 0) 487 [(0, z_r 0), (2, z_r a2), (3, z_r a3), (4, z_i x4), (5, z_i 1), (13, z_i x13), (14, z_i x14), (15, z_i x15), (16, z_i x16), (17, z_i x17), (18, z_i x18), (19, z_i x19)] [z_i y2, z_i x19] (sh, w1) Q
  refine z_icmp_ge (tgt := 512) dL_foretold_487 (by decide) (fun c3 => ?_) (fun c3 => ?_)
  · replace h := h.1 c3
    obtain ⟨q4, h⟩ := h
    refine z_iinc (L' := [(18, z_i (x18 + 1)), (0, z_r 0), (2, z_r a2), (3, z_r a3), (4, z_i x4), (5, z_i 1), (13, z_i x13), (14, z_i x14), (15, z_i x15), (16, z_i x16), (17, z_i x17), (19, z_i x19)]) 10 dL_foretold_512 rfl (by decide) rfl q4 ?_
    refine z_goto (tgt := 467) dL_foretold_515 (by decide) ?_
    refine z_sub (L' := [(0, z_r 0), (2, z_r a2), (3, z_r a3), (4, z_i x4), (5, z_i 1), (13, z_i x13), (14, z_i x14), (15, z_i x15), (16, z_i x16), (17, z_i x17), (18, z_i (x18 + 1))]) [1, 2, 3, 4, 5, 6, 7, 8, 9, 10, 0] rfl ?_
    exact h
  · replace h := h.2 c3
    refine z_bipush dL_foretold_490 (by decide) (by decide) ?_
    refine z_iload 9 dL_foretold_492 rfl ?_
    refine z_imulW dL_foretold_494 ?_
    refine z_aload_n 0 dL_foretold_495 rfl rfl ?_
    refine z_iload 10 dL_foretold_496 rfl ?_
    refine z_iload 11 dL_foretold_498 rfl ?_
    refine z_callV (As := [z_i x18, z_i x19]) (rest := [z_i (z_nrm (31 * x17))]) zmX8_bound znX8_bound zsX8_bound (show z_Cl[8]? = some (RX8, TX8, 9) from rfl) zlRL_178 ⟨Nat.le_of_ble_eq_true rfl, Nat.le_of_ble_eq_true rfl⟩ dL_foretold_500 hh0.1 rfl rfl (z_ai (z_ai z_a0)) (Nat.le_of_ble_eq_true rfl) (Nat.le_of_ble_eq_true rfl) ⟨rfl, rfl⟩ (z_CIm h ?_)
    intro y6 w5 h
    show z_Sem mL_foretold (sh.length, 0) 503 [(0, z_r 0), (2, z_r a2), (3, z_r a3), (4, z_i x4), (5, z_i 1), (13, z_i x13), (14, z_i x14), (15, z_i x15), (16, z_i x16), (17, z_i x17), (18, z_i x18), (19, z_i x19)] [z_i y6, z_i (z_nrm (31 * x17))] (sh, w5) Q
    refine z_iaddW dL_foretold_503 ?_
    refine z_nam (fun y7 hy7 => ?_)
    replace h := h y7 hy7
    refine z_istore (L' := [(17, z_i y7), (0, z_r 0), (2, z_r a2), (3, z_r a3), (4, z_i x4), (5, z_i 1), (13, z_i x13), (14, z_i x14), (15, z_i x15), (16, z_i x16), (18, z_i x18), (19, z_i x19)]) dL_foretold_504 (by decide) rfl ?_
    obtain ⟨q8, h⟩ := h
    refine z_iinc (L' := [(19, z_i (x19 + 1)), (17, z_i y7), (0, z_r 0), (2, z_r a2), (3, z_r a3), (4, z_i x4), (5, z_i 1), (13, z_i x13), (14, z_i x14), (15, z_i x15), (16, z_i x16), (18, z_i x18)]) 11 dL_foretold_506 rfl (by decide) rfl q8 ?_
    refine z_goto (tgt := 480) dL_foretold_509 (by decide) ?_
    refine z_sub (L' := [(0, z_r 0), (2, z_r a2), (3, z_r a3), (4, z_i x4), (5, z_i 1), (13, z_i x13), (14, z_i x14), (15, z_i x15), (16, z_i x16), (17, z_i y7), (18, z_i x18), (19, z_i (x19 + 1))]) [2, 3, 4, 5, 6, 7, 8, 9, 10, 1, 11, 0] rfl ?_
    exact h
set_option maxRecDepth 100000 in
theorem t_L_foretold_588 {sh : List z_C} {w : Nat → Int → Int} {Q : Option z_V → z_S → Prop} {a1 : Nat} {a2 : Nat} {a3 : Nat} {x4 : Int} (hh0 : z_isTG sh 0) (hh1 : sh[a1]? = some (.inr (.inl (0, 8)))) (hh2 : sh[a2]? = some (.inr (.inl (0, 400)))) (hh3 : sh[a3]? = some (.inr (.inl (0, 400)))) (h : z_CI mL_isAs [z_r 0, z_r a2, z_i x4, z_r a3] sh w (fun y2 w1 => (¬ y2 = 0) ∧ z_Sem mL_foretold (sh.length, 0) 612 [(0, z_r 0), (5, z_i 1), (18, z_i (-1)), (19, z_i 0)] [] (sh, w1) Q)) : z_Sem mL_foretold (sh.length, 0) 588 [(0, z_r 0), (2, z_r a2), (3, z_r a3), (4, z_i x4)] [] (sh, w) Q := by
  refine z_aload_n 0 dL_foretold_588 rfl rfl ?_
  refine z_aload_n 1 dL_foretold_589 rfl rfl ?_
  refine z_iload 3 dL_foretold_590 rfl ?_
  refine z_aload_n 2 dL_foretold_592 rfl rfl ?_
  refine z_callS (As := [z_r 0, z_r a2, z_i x4, z_r a3]) (rest := []) zmL_isAs ztL_isAs zlRL_218 ⟨Nat.le_of_ble_eq_true rfl, Nat.le_of_ble_eq_true rfl⟩ dL_foretold_593 rfl rfl (z_ar (z_ar (z_ai (z_ar z_a0)))) (Nat.le_of_ble_eq_true rfl) (Nat.le_of_ble_eq_true rfl) ⟨rfl, rfl⟩ (z_CIm h ?_)
  intro y2 w1 h
  show z_Sem mL_foretold (sh.length, 0) 596 [(0, z_r 0), (2, z_r a2), (3, z_r a3), (4, z_i x4)] [z_i y2] (sh, w1) Q
  obtain ⟨q3, h⟩ := h
  refine z_if_eq (tgt := 603) dL_foretold_596 (by decide) (fun c => absurd c q3) (fun _ => ?_)
  refine z_iconst dL_foretold_599 (by decide) ?_
  refine z_goto (tgt := 604) dL_foretold_600 (by decide) ?_
  refine z_istore (L' := [(5, z_i 1), (0, z_r 0), (2, z_r a2), (3, z_r a3), (4, z_i x4)]) dL_foretold_604 (by decide) rfl ?_
  refine z_iconst dL_foretold_606 (by decide) ?_
  refine z_istore (L' := [(18, z_i (-1)), (5, z_i 1), (0, z_r 0), (2, z_r a2), (3, z_r a3), (4, z_i x4)]) dL_foretold_607 (by decide) rfl ?_
  refine z_iconst dL_foretold_609 (by decide) ?_
  refine z_istore (L' := [(19, z_i 0), (18, z_i (-1)), (5, z_i 1), (0, z_r 0), (2, z_r a2), (3, z_r a3), (4, z_i x4)]) dL_foretold_610 (by decide) rfl ?_
  refine z_sub (L' := [(0, z_r 0), (5, z_i 1), (18, z_i (-1)), (19, z_i 0)]) [3, 2, 1, 0] rfl ?_
  exact h
set_option maxRecDepth 100000 in
theorem t_L_foretold_612 {sh : List z_C} {w : Nat → Int → Int} {Q : Option z_V → z_S → Prop} {a1 : Nat} {a2 : Nat} {a3 : Nat} {x18 : Int} {x19 : Int} (hh0 : z_isTG sh 0) (hh1 : sh[a1]? = some (.inr (.inl (0, 8)))) (hh2 : sh[a2]? = some (.inr (.inl (0, 400)))) (hh3 : sh[a3]? = some (.inr (.inl (0, 400)))) (h : z_CI mX8_value [z_r 0, z_i 1] sh w (fun y2 w1 => ((y2 ≤ x19 → z_CI mX8_value [z_r 0, z_i 9] sh w1 (fun y5 w4 => (x18 = y5) ∧ z_CI mX8_value [z_r 0, z_i 1] sh w4 (fun y8 w7 => z_CI mX8_ordered [z_r 0, z_i y8] sh w7 (fun y10 w9 => (y10 = (-2)) ∧ Q (some (z_i 1)) (sh, w9))))) ∧ (¬ y2 ≤ x19 → z_CI mX8_ordered [z_r 0, z_i x19] sh w1 (fun y13 w12 => z_CI mX8_event [z_r 0, z_i y13, z_i 0] sh w12 (fun y15 w14 => (¬ y15 < x18) ∧ z_CI mX8_freest [z_r 0] sh w14 (fun y18 w17 => z_CI mX8_event [z_r 0, z_i y18, z_i 2] sh w17 (fun y20 w19 => z_CI mX8_event [z_r 0, z_i x19, z_i 2] sh w19 (fun y22 w21 => (¬ y20 < y22) ∧ ((x19 = 0 → z_Sem mL_foretold (sh.length, 0) 694 [(0, z_r 0), (19, z_i x19)] [] (sh, w21) Q) ∧ (¬ x19 = 0 → z_CI mX8_lastly [z_r 0, z_i x19] sh w21 (fun y26 w25 => z_CI mX8_event [z_r 0, z_i y26, z_i 1] sh w25 (fun y28 w27 => (z_R (x19 - 1)) ∧ z_CI mX8_lastly [z_r 0, z_i (x19 - 1)] sh w27 (fun y31 w30 => z_CI mX8_event [z_r 0, z_i y31, z_i 1] sh w30 (fun y33 w32 => (¬ y28 < y33) ∧ z_Sem mL_foretold (sh.length, 0) 694 [(0, z_r 0), (19, z_i x19)] [] (sh, w32) Q))))))))))))))) : z_Sem mL_foretold (sh.length, 0) 612 [(0, z_r 0), (5, z_i 1), (18, z_i x18), (19, z_i x19)] [] (sh, w) Q := by
  refine z_iload 3 dL_foretold_612 rfl ?_
  refine z_aload_n 0 dL_foretold_614 rfl rfl ?_
  refine z_iconst dL_foretold_615 (by decide) ?_
  refine z_callV (As := [z_i 1]) (rest := [z_i x19]) zmX8_value znX8_value zsX8_value (show z_Cl[8]? = some (RX8, TX8, 9) from rfl) zlRL_103 ⟨Nat.le_of_ble_eq_true rfl, Nat.le_of_ble_eq_true rfl⟩ dL_foretold_616 hh0.1 rfl rfl (z_ai z_a0) (Nat.le_of_ble_eq_true rfl) (Nat.le_of_ble_eq_true rfl) ⟨rfl, rfl⟩ (z_CIm h ?_)
  intro y2 w1 h
  show z_Sem mL_foretold (sh.length, 0) 619 [(0, z_r 0), (5, z_i 1), (18, z_i x18), (19, z_i x19)] [z_i y2, z_i x19] (sh, w1) Q
  refine z_icmp_ge (tgt := 720) dL_foretold_619 (by decide) (fun c3 => ?_) (fun c3 => ?_)
  · replace h := h.1 c3
    refine z_iload 1 dL_foretold_720 rfl ?_
    refine z_if_eq (tgt := 754) dL_foretold_722 (by decide) (fun c => absurd c (by decide)) (fun _ => ?_)
    refine z_iload 2 dL_foretold_725 rfl ?_
    refine z_aload_n 0 dL_foretold_727 rfl rfl ?_
    refine z_bipush dL_foretold_728 (by decide) (by decide) ?_
    refine z_callV (As := [z_i 9]) (rest := [z_i x18]) zmX8_value znX8_value zsX8_value (show z_Cl[8]? = some (RX8, TX8, 9) from rfl) zlRL_103 ⟨Nat.le_of_ble_eq_true rfl, Nat.le_of_ble_eq_true rfl⟩ dL_foretold_730 hh0.1 rfl rfl (z_ai z_a0) (Nat.le_of_ble_eq_true rfl) (Nat.le_of_ble_eq_true rfl) ⟨rfl, rfl⟩ (z_CIm h ?_)
    intro y5 w4 h
    show z_Sem mL_foretold (sh.length, 0) 733 [(0, z_r 0), (5, z_i 1), (18, z_i x18), (19, z_i x19)] [z_i y5, z_i x18] (sh, w4) Q
    obtain ⟨q6, h⟩ := h
    refine z_icmp_ne (tgt := 754) dL_foretold_733 (by decide) (fun c => absurd q6 c) (fun _ => ?_)
    refine z_aload_n 0 dL_foretold_736 rfl rfl ?_
    refine z_aload_n 0 dL_foretold_737 rfl rfl ?_
    refine z_iconst dL_foretold_738 (by decide) ?_
    refine z_callV (As := [z_i 1]) (rest := [z_r 0]) zmX8_value znX8_value zsX8_value (show z_Cl[8]? = some (RX8, TX8, 9) from rfl) zlRL_103 ⟨Nat.le_of_ble_eq_true rfl, Nat.le_of_ble_eq_true rfl⟩ dL_foretold_739 hh0.1 rfl rfl (z_ai z_a0) (Nat.le_of_ble_eq_true rfl) (Nat.le_of_ble_eq_true rfl) ⟨rfl, rfl⟩ (z_CIm h ?_)
    intro y8 w7 h
    show z_Sem mL_foretold (sh.length, 0) 742 [(0, z_r 0), (5, z_i 1), (18, z_i x18), (19, z_i x19)] [z_i y8, z_r 0] (sh, w7) Q
    refine z_callV (As := [z_i y8]) (rest := []) zmX8_ordered znX8_ordered zsX8_ordered (show z_Cl[8]? = some (RX8, TX8, 9) from rfl) zlRL_250 ⟨Nat.le_of_ble_eq_true rfl, Nat.le_of_ble_eq_true rfl⟩ dL_foretold_742 hh0.1 rfl rfl (z_ai z_a0) (Nat.le_of_ble_eq_true rfl) (Nat.le_of_ble_eq_true rfl) ⟨rfl, rfl⟩ (z_CIm h ?_)
    intro y10 w9 h
    show z_Sem mL_foretold (sh.length, 0) 745 [(0, z_r 0), (5, z_i 1), (18, z_i x18), (19, z_i x19)] [z_i y10] (sh, w9) Q
    refine z_bipush dL_foretold_745 (by decide) (by decide) ?_
    obtain ⟨q11, h⟩ := h
    refine z_icmp_ne (tgt := 754) dL_foretold_747 (by decide) (fun c => absurd q11 c) (fun _ => ?_)
    refine z_iconst dL_foretold_750 (by decide) ?_
    refine z_goto (tgt := 755) dL_foretold_751 (by decide) ?_
    exact z_ret (v := some (z_i 1)) dL_foretold_755 ⟨rfl, Or.inr (Or.inl ⟨rfl, (by decide)⟩)⟩ rfl h
  · replace h := h.2 c3
    refine z_iload 1 dL_foretold_622 rfl ?_
    refine z_if_eq (tgt := 720) dL_foretold_624 (by decide) (fun c => absurd c (by decide)) (fun _ => ?_)
    refine z_aload_n 0 dL_foretold_627 rfl rfl ?_
    refine z_aload_n 0 dL_foretold_628 rfl rfl ?_
    refine z_iload 3 dL_foretold_629 rfl ?_
    refine z_callV (As := [z_i x19]) (rest := [z_r 0]) zmX8_ordered znX8_ordered zsX8_ordered (show z_Cl[8]? = some (RX8, TX8, 9) from rfl) zlRL_250 ⟨Nat.le_of_ble_eq_true rfl, Nat.le_of_ble_eq_true rfl⟩ dL_foretold_631 hh0.1 rfl rfl (z_ai z_a0) (Nat.le_of_ble_eq_true rfl) (Nat.le_of_ble_eq_true rfl) ⟨rfl, rfl⟩ (z_CIm h ?_)
    intro y13 w12 h
    show z_Sem mL_foretold (sh.length, 0) 634 [(0, z_r 0), (5, z_i 1), (18, z_i x18), (19, z_i x19)] [z_i y13, z_r 0] (sh, w12) Q
    refine z_iconst dL_foretold_634 (by decide) ?_
    refine z_callV (As := [z_i y13, z_i 0]) (rest := []) zmX8_event znX8_event zsX8_event (show z_Cl[8]? = some (RX8, TX8, 9) from rfl) zlRL_148 ⟨Nat.le_of_ble_eq_true rfl, Nat.le_of_ble_eq_true rfl⟩ dL_foretold_635 hh0.1 rfl rfl (z_ai (z_ai z_a0)) (Nat.le_of_ble_eq_true rfl) (Nat.le_of_ble_eq_true rfl) ⟨rfl, rfl⟩ (z_CIm h ?_)
    intro y15 w14 h
    show z_Sem mL_foretold (sh.length, 0) 638 [(0, z_r 0), (5, z_i 1), (18, z_i x18), (19, z_i x19)] [z_i y15] (sh, w14) Q
    refine z_iload 2 dL_foretold_638 rfl ?_
    obtain ⟨q16, h⟩ := h
    refine z_icmp_lt (tgt := 698) dL_foretold_640 (by decide) (fun c => absurd c q16) (fun _ => ?_)
    refine z_aload_n 0 dL_foretold_643 rfl rfl ?_
    refine z_aload_n 0 dL_foretold_644 rfl rfl ?_
    refine z_callV (As := []) (rest := [z_r 0]) zmX8_freest znX8_freest zsX8_freest (show z_Cl[8]? = some (RX8, TX8, 9) from rfl) zlRL_253 ⟨Nat.le_of_ble_eq_true rfl, Nat.le_of_ble_eq_true rfl⟩ dL_foretold_645 hh0.1 rfl rfl z_a0 (Nat.le_of_ble_eq_true rfl) (Nat.le_of_ble_eq_true rfl) ⟨rfl, rfl⟩ (z_CIm h ?_)
    intro y18 w17 h
    show z_Sem mL_foretold (sh.length, 0) 648 [(0, z_r 0), (5, z_i 1), (18, z_i x18), (19, z_i x19)] [z_i y18, z_r 0] (sh, w17) Q
    refine z_iconst dL_foretold_648 (by decide) ?_
    refine z_callV (As := [z_i y18, z_i 2]) (rest := []) zmX8_event znX8_event zsX8_event (show z_Cl[8]? = some (RX8, TX8, 9) from rfl) zlRL_148 ⟨Nat.le_of_ble_eq_true rfl, Nat.le_of_ble_eq_true rfl⟩ dL_foretold_649 hh0.1 rfl rfl (z_ai (z_ai z_a0)) (Nat.le_of_ble_eq_true rfl) (Nat.le_of_ble_eq_true rfl) ⟨rfl, rfl⟩ (z_CIm h ?_)
    intro y20 w19 h
    show z_Sem mL_foretold (sh.length, 0) 652 [(0, z_r 0), (5, z_i 1), (18, z_i x18), (19, z_i x19)] [z_i y20] (sh, w19) Q
    refine z_aload_n 0 dL_foretold_652 rfl rfl ?_
    refine z_iload 3 dL_foretold_653 rfl ?_
    refine z_iconst dL_foretold_655 (by decide) ?_
    refine z_callV (As := [z_i x19, z_i 2]) (rest := [z_i y20]) zmX8_event znX8_event zsX8_event (show z_Cl[8]? = some (RX8, TX8, 9) from rfl) zlRL_148 ⟨Nat.le_of_ble_eq_true rfl, Nat.le_of_ble_eq_true rfl⟩ dL_foretold_656 hh0.1 rfl rfl (z_ai (z_ai z_a0)) (Nat.le_of_ble_eq_true rfl) (Nat.le_of_ble_eq_true rfl) ⟨rfl, rfl⟩ (z_CIm h ?_)
    intro y22 w21 h
    show z_Sem mL_foretold (sh.length, 0) 659 [(0, z_r 0), (5, z_i 1), (18, z_i x18), (19, z_i x19)] [z_i y22, z_i y20] (sh, w21) Q
    obtain ⟨q23, h⟩ := h
    refine z_icmp_lt (tgt := 698) dL_foretold_659 (by decide) (fun c => absurd c q23) (fun _ => ?_)
    refine z_iload 3 dL_foretold_662 rfl ?_
    refine z_if_eq (tgt := 694) dL_foretold_664 (by decide) (fun c24 => ?_) (fun c24 => ?_)
    · replace h := h.1 c24
      refine z_sub (L' := [(0, z_r 0), (19, z_i x19)]) [0, 3] rfl ?_
      exact h
    · replace h := h.2 c24
      refine z_aload_n 0 dL_foretold_667 rfl rfl ?_
      refine z_aload_n 0 dL_foretold_668 rfl rfl ?_
      refine z_iload 3 dL_foretold_669 rfl ?_
      refine z_callV (As := [z_i x19]) (rest := [z_r 0]) zmX8_lastly znX8_lastly zsX8_lastly (show z_Cl[8]? = some (RX8, TX8, 9) from rfl) zlRL_256 ⟨Nat.le_of_ble_eq_true rfl, Nat.le_of_ble_eq_true rfl⟩ dL_foretold_671 hh0.1 rfl rfl (z_ai z_a0) (Nat.le_of_ble_eq_true rfl) (Nat.le_of_ble_eq_true rfl) ⟨rfl, rfl⟩ (z_CIm h ?_)
      intro y26 w25 h
      show z_Sem mL_foretold (sh.length, 0) 674 [(0, z_r 0), (5, z_i 1), (18, z_i x18), (19, z_i x19)] [z_i y26, z_r 0] (sh, w25) Q
      refine z_iconst dL_foretold_674 (by decide) ?_
      refine z_callV (As := [z_i y26, z_i 1]) (rest := []) zmX8_event znX8_event zsX8_event (show z_Cl[8]? = some (RX8, TX8, 9) from rfl) zlRL_148 ⟨Nat.le_of_ble_eq_true rfl, Nat.le_of_ble_eq_true rfl⟩ dL_foretold_675 hh0.1 rfl rfl (z_ai (z_ai z_a0)) (Nat.le_of_ble_eq_true rfl) (Nat.le_of_ble_eq_true rfl) ⟨rfl, rfl⟩ (z_CIm h ?_)
      intro y28 w27 h
      show z_Sem mL_foretold (sh.length, 0) 678 [(0, z_r 0), (5, z_i 1), (18, z_i x18), (19, z_i x19)] [z_i y28] (sh, w27) Q
      refine z_aload_n 0 dL_foretold_678 rfl rfl ?_
      refine z_aload_n 0 dL_foretold_679 rfl rfl ?_
      refine z_iload 3 dL_foretold_680 rfl ?_
      refine z_iconst dL_foretold_682 (by decide) ?_
      obtain ⟨q29, h⟩ := h
      refine z_isub dL_foretold_683 q29 ?_
      refine z_callV (As := [z_i (x19 - 1)]) (rest := [z_r 0, z_i y28]) zmX8_lastly znX8_lastly zsX8_lastly (show z_Cl[8]? = some (RX8, TX8, 9) from rfl) zlRL_256 ⟨Nat.le_of_ble_eq_true rfl, Nat.le_of_ble_eq_true rfl⟩ dL_foretold_684 hh0.1 rfl rfl (z_ai z_a0) (Nat.le_of_ble_eq_true rfl) (Nat.le_of_ble_eq_true rfl) ⟨rfl, rfl⟩ (z_CIm h ?_)
      intro y31 w30 h
      show z_Sem mL_foretold (sh.length, 0) 687 [(0, z_r 0), (5, z_i 1), (18, z_i x18), (19, z_i x19)] [z_i y31, z_r 0, z_i y28] (sh, w30) Q
      refine z_iconst dL_foretold_687 (by decide) ?_
      refine z_callV (As := [z_i y31, z_i 1]) (rest := [z_i y28]) zmX8_event znX8_event zsX8_event (show z_Cl[8]? = some (RX8, TX8, 9) from rfl) zlRL_148 ⟨Nat.le_of_ble_eq_true rfl, Nat.le_of_ble_eq_true rfl⟩ dL_foretold_688 hh0.1 rfl rfl (z_ai (z_ai z_a0)) (Nat.le_of_ble_eq_true rfl) (Nat.le_of_ble_eq_true rfl) ⟨rfl, rfl⟩ (z_CIm h ?_)
      intro y33 w32 h
      show z_Sem mL_foretold (sh.length, 0) 691 [(0, z_r 0), (5, z_i 1), (18, z_i x18), (19, z_i x19)] [z_i y33, z_i y28] (sh, w32) Q
      obtain ⟨q34, h⟩ := h
      refine z_icmp_lt (tgt := 698) dL_foretold_691 (by decide) (fun c => absurd c q34) (fun _ => ?_)
      refine z_sub (L' := [(0, z_r 0), (19, z_i x19)]) [0, 3] rfl ?_
      exact h
set_option maxRecDepth 100000 in
theorem t_L_foretold_694 {sh : List z_C} {w : Nat → Int → Int} {Q : Option z_V → z_S → Prop} {a1 : Nat} {a2 : Nat} {a3 : Nat} {x19 : Int} (hh0 : z_isTG sh 0) (hh1 : sh[a1]? = some (.inr (.inl (0, 8)))) (hh2 : sh[a2]? = some (.inr (.inl (0, 400)))) (hh3 : sh[a3]? = some (.inr (.inl (0, 400)))) (h : z_CI mX8_ordered [z_r 0, z_i x19] sh w (fun y2 w1 => z_CI mX8_event [z_r 0, z_i y2, z_i 0] sh w1 (fun y4 w3 => (z_R (x19 + 1)) ∧ z_Sem mL_foretold (sh.length, 0) 612 [(0, z_r 0), (5, z_i 1), (18, z_i y4), (19, z_i (x19 + 1))] [] (sh, w3) Q))) : z_Sem mL_foretold (sh.length, 0) 694 [(0, z_r 0), (19, z_i x19)] [] (sh, w) Q := by
  refine z_iconst dL_foretold_694 (by decide) ?_
  refine z_goto (tgt := 699) dL_foretold_695 (by decide) ?_
  refine z_istore (L' := [(5, z_i 1), (0, z_r 0), (19, z_i x19)]) dL_foretold_699 (by decide) rfl ?_
  refine z_aload_n 1 dL_foretold_701 rfl rfl ?_
  refine z_aload_n 1 dL_foretold_702 rfl rfl ?_
  refine z_iload 2 dL_foretold_703 rfl ?_
  refine z_callV (As := [z_i x19]) (rest := [z_r 0]) zmX8_ordered znX8_ordered zsX8_ordered (show z_Cl[8]? = some (RX8, TX8, 9) from rfl) zlRL_250 ⟨Nat.le_of_ble_eq_true rfl, Nat.le_of_ble_eq_true rfl⟩ dL_foretold_705 hh0.1 rfl rfl (z_ai z_a0) (Nat.le_of_ble_eq_true rfl) (Nat.le_of_ble_eq_true rfl) ⟨rfl, rfl⟩ (z_CIm h ?_)
  intro y2 w1 h
  show z_Sem mL_foretold (sh.length, 0) 708 [(5, z_i 1), (0, z_r 0), (19, z_i x19)] [z_i y2, z_r 0] (sh, w1) Q
  refine z_iconst dL_foretold_708 (by decide) ?_
  refine z_callV (As := [z_i y2, z_i 0]) (rest := []) zmX8_event znX8_event zsX8_event (show z_Cl[8]? = some (RX8, TX8, 9) from rfl) zlRL_148 ⟨Nat.le_of_ble_eq_true rfl, Nat.le_of_ble_eq_true rfl⟩ dL_foretold_709 hh0.1 rfl rfl (z_ai (z_ai z_a0)) (Nat.le_of_ble_eq_true rfl) (Nat.le_of_ble_eq_true rfl) ⟨rfl, rfl⟩ (z_CIm h ?_)
  intro y4 w3 h
  show z_Sem mL_foretold (sh.length, 0) 712 [(5, z_i 1), (0, z_r 0), (19, z_i x19)] [z_i y4] (sh, w3) Q
  refine z_istore (L' := [(18, z_i y4), (5, z_i 1), (0, z_r 0), (19, z_i x19)]) dL_foretold_712 (by decide) rfl ?_
  obtain ⟨q5, h⟩ := h
  refine z_iinc (L' := [(19, z_i (x19 + 1)), (18, z_i y4), (5, z_i 1), (0, z_r 0)]) 3 dL_foretold_714 rfl (by decide) rfl q5 ?_
  refine z_goto (tgt := 612) dL_foretold_717 (by decide) ?_
  refine z_sub (L' := [(0, z_r 0), (5, z_i 1), (18, z_i y4), (19, z_i (x19 + 1))]) [3, 2, 1, 0] rfl ?_
  exact h
