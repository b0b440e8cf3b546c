set_option maxRecDepth 100000 in
theorem t_X9_otherTimes {sh : List z_C} {w : Nat → Int → Int} {Q : Option z_V → z_S → Prop}  (hh0 : z_isMod sh 161) (h : z_Sem mX9_otherTimes (sh.length, 0) 4 [(0, z_r 161), (1, z_i 0), (2, z_i 1)] [] (sh, w) Q) : z_Sem mX9_otherTimes (sh.length, 0) 0 [(0, z_r 161)] [] (sh, w) Q := by
  refine z_iconst dX9_otherTimes_0 (by decide) ?_
  refine z_istore_n (L' := [(1, z_i 0), (0, z_r 161)]) dX9_otherTimes_1 rfl (by decide) rfl ?_
  refine z_iconst dX9_otherTimes_2 (by decide) ?_
  refine z_istore_n (L' := [(2, z_i 1), (1, z_i 0), (0, z_r 161)]) dX9_otherTimes_3 rfl (by decide) rfl ?_
  refine z_sub (L' := [(0, z_r 161), (1, z_i 0), (2, z_i 1)]) [2, 1, 0] rfl ?_
  exact h
set_option maxRecDepth 100000 in
theorem t_X9_otherTimes_4 {sh : List z_C} {w : Nat → Int → Int} {Q : Option z_V → z_S → Prop} {x1 : Int} {x2 : Int} (hh0 : z_isMod sh 161) (h : (((w 163 1) ≤ x2 → Q (some (z_i x1)) (sh, w)) ∧ (¬ (w 163 1) ≤ x2 → (s_X9_boundOf w 0 x2) ∧ (s_X9_pair w 0 x2) ∧ ((0 : Int) ≤ (f_X9_pair w 0 x2) ∧ (f_X9_pair w 0 x2) < 100) ∧ ((f_X9_boundOf w 0 x2) = (w 175 (f_X9_pair w 0 x2)) → (s_X9_boundOf w x2 0) ∧ (s_X9_pair w x2 0) ∧ ((0 : Int) ≤ (f_X9_pair w x2 0) ∧ (f_X9_pair w x2 0) < 100) ∧ True) ∧ (z_R (x1 + (if (f_X9_boundOf w 0 x2) = (w 175 (f_X9_pair w 0 x2)) then (if (f_X9_boundOf w x2 0) = (w 175 (f_X9_pair w x2 0)) then 0 else 1) else 1))) ∧ ∀ y18 : Int, y18 = (x1 + (if (f_X9_boundOf w 0 x2) = (w 175 (f_X9_pair w 0 x2)) then (if (f_X9_boundOf w x2 0) = (w 175 (f_X9_pair w x2 0)) then 0 else 1) else 1)) → (z_R (x2 + 1)) ∧ z_Sem mX9_otherTimes (sh.length, 0) 4 [(0, z_r 161), (1, z_i y18), (2, z_i (x2 + 1))] [] (sh, w) Q))) : z_Sem mX9_otherTimes (sh.length, 0) 4 [(0, z_r 161), (1, z_i x1), (2, z_i x2)] [] (sh, w) Q := by
  refine z_iload_n 2 dX9_otherTimes_4 rfl rfl ?_
  refine z_aload_n 0 dX9_otherTimes_5 rfl rfl ?_
  refine z_getR (r := 163) zfRX9_17 dX9_otherTimes_6 hh0.1 rfl ?_
  refine z_iconst dX9_otherTimes_9 (by decide) ?_
  refine z_iald dX9_otherTimes_10 hh0.2.2.1 (by decide) ?_
  refine z_icmp_ge (tgt := 66) dX9_otherTimes_11 (by decide) (fun c1 => ?_) (fun c1 => ?_)
  · replace h := h.1 c1
    refine z_iload_n 1 dX9_otherTimes_66 rfl rfl ?_
    exact z_ret (v := some (z_i x1)) dX9_otherTimes_67 ⟨rfl, Or.inl rfl⟩ rfl rfl h
  · replace h := h.2 c1
    refine z_iload_n 1 dX9_otherTimes_14 rfl rfl ?_
    refine z_aload_n 0 dX9_otherTimes_15 rfl rfl ?_
    refine z_iconst dX9_otherTimes_16 (by decide) ?_
    refine z_iload_n 2 dX9_otherTimes_17 rfl rfl ?_
    obtain ⟨q2, h⟩ := h
    refine z_callV (As := [z_i 0, z_i x2]) (rest := [z_i x1]) zmX9_boundOf znX9_boundOf zsX9_boundOf (show vwCl[9]? = some (RX9, TX9, 29) from rfl) zlRX9_113 ⟨Nat.le_of_ble_eq_true rfl, Nat.le_of_ble_eq_true rfl⟩ dX9_otherTimes_18 hh0.1 rfl rfl (z_ai (z_ai z_a0)) (Nat.le_of_ble_eq_true rfl) (Nat.le_of_ble_eq_true rfl) ⟨Nat.le_refl _, Nat.le_refl _⟩ ?_
    refine t_X9_boundOf hh0 q2 ?_
    show z_Sem mX9_otherTimes (sh.length, 0) 21 [(0, z_r 161), (1, z_i x1), (2, z_i x2)] [z_i (f_X9_boundOf w 0 x2), z_i x1] (sh, w) Q
    refine z_aload_n 0 dX9_otherTimes_21 rfl rfl ?_
    refine z_getR (r := 175) zfRX9_55 dX9_otherTimes_22 hh0.1 rfl ?_
    refine z_iconst dX9_otherTimes_25 (by decide) ?_
    refine z_iload_n 2 dX9_otherTimes_26 rfl rfl ?_
    obtain ⟨q3, h⟩ := h
    refine z_callS (As := [z_i 0, z_i x2]) (rest := [z_r 175, z_i (f_X9_boundOf w 0 x2), z_i x1]) zmX9_pair ztX9_pair zlRX9_106 ⟨Nat.le_of_ble_eq_true rfl, Nat.le_of_ble_eq_true rfl⟩ dX9_otherTimes_27 rfl rfl (z_ai (z_ai z_a0)) (Nat.le_of_ble_eq_true rfl) (Nat.le_of_ble_eq_true rfl) ⟨Nat.le_refl _, Nat.le_refl _⟩ ?_
    refine t_X9_pair  q3 ?_
    show z_Sem mX9_otherTimes (sh.length, 0) 30 [(0, z_r 161), (1, z_i x1), (2, z_i x2)] [z_i (f_X9_pair w 0 x2), z_r 175, z_i (f_X9_boundOf w 0 x2), z_i x1] (sh, w) Q
    obtain ⟨q4, h⟩ := h
    refine z_iald dX9_otherTimes_30 hh0.2.2.2.2.2.2.2.2.2.2.2.2.2.2.1 q4 ?_
    obtain ⟨m7, h⟩ := h
    suffices hJ5 : z_Sem mX9_otherTimes (sh.length, 0) 58 [(0, z_r 161), (2, z_i x2)] [z_i (if (f_X9_boundOf w 0 x2) = (w 175 (f_X9_pair w 0 x2)) then (if (f_X9_boundOf w x2 0) = (w 175 (f_X9_pair w x2 0)) then 0 else 1) else 1), z_i x1] (sh, w) Q by
      refine z_icmp_ne (tgt := 53) dX9_otherTimes_31 (by decide) (fun c6 => ?_) (fun c6 => ?_)
      · skip
        refine z_iconst dX9_otherTimes_53 (by decide) ?_
        refine z_goto (tgt := 58) dX9_otherTimes_54 (by decide) ?_
        refine z_sub (L' := [(0, z_r 161), (2, z_i x2)]) [0, 2] rfl ?_
        simp only [if_neg c6] at hJ5
        exact hJ5
      · skip
        have ho9 := m7 c6
        refine z_aload_n 0 dX9_otherTimes_34 rfl rfl ?_
        refine z_iload_n 2 dX9_otherTimes_35 rfl rfl ?_
        refine z_iconst dX9_otherTimes_36 (by decide) ?_
        obtain ⟨q10, ho9⟩ := ho9
        refine z_callV (As := [z_i x2, z_i 0]) (rest := [z_i x1]) zmX9_boundOf znX9_boundOf zsX9_boundOf (show vwCl[9]? = some (RX9, TX9, 29) from rfl) zlRX9_113 ⟨Nat.le_of_ble_eq_true rfl, Nat.le_of_ble_eq_true rfl⟩ dX9_otherTimes_37 hh0.1 rfl rfl (z_ai (z_ai z_a0)) (Nat.le_of_ble_eq_true rfl) (Nat.le_of_ble_eq_true rfl) ⟨Nat.le_refl _, Nat.le_refl _⟩ ?_
        refine t_X9_boundOf hh0 q10 ?_
        show z_Sem mX9_otherTimes (sh.length, 0) 40 [(0, z_r 161), (1, z_i x1), (2, z_i x2)] [z_i (f_X9_boundOf w x2 0), z_i x1] (sh, w) Q
        refine z_aload_n 0 dX9_otherTimes_40 rfl rfl ?_
        refine z_getR (r := 175) zfRX9_55 dX9_otherTimes_41 hh0.1 rfl ?_
        refine z_iload_n 2 dX9_otherTimes_44 rfl rfl ?_
        refine z_iconst dX9_otherTimes_45 (by decide) ?_
        obtain ⟨q11, ho9⟩ := ho9
        refine z_callS (As := [z_i x2, z_i 0]) (rest := [z_r 175, z_i (f_X9_boundOf w x2 0), z_i x1]) zmX9_pair ztX9_pair zlRX9_106 ⟨Nat.le_of_ble_eq_true rfl, Nat.le_of_ble_eq_true rfl⟩ dX9_otherTimes_46 rfl rfl (z_ai (z_ai z_a0)) (Nat.le_of_ble_eq_true rfl) (Nat.le_of_ble_eq_true rfl) ⟨Nat.le_refl _, Nat.le_refl _⟩ ?_
        refine t_X9_pair  q11 ?_
        show z_Sem mX9_otherTimes (sh.length, 0) 49 [(0, z_r 161), (1, z_i x1), (2, z_i x2)] [z_i (f_X9_pair w x2 0), z_r 175, z_i (f_X9_boundOf w x2 0), z_i x1] (sh, w) Q
        obtain ⟨q12, ho9⟩ := ho9
        refine z_iald dX9_otherTimes_49 hh0.2.2.2.2.2.2.2.2.2.2.2.2.2.2.1 q12 ?_
        suffices hJ13 : z_Sem mX9_otherTimes (sh.length, 0) 58 [(0, z_r 161), (2, z_i x2)] [z_i (if (f_X9_boundOf w x2 0) = (w 175 (f_X9_pair w x2 0)) then 0 else 1), z_i x1] (sh, w) Q by
          refine z_icmp_eq (tgt := 57) dX9_otherTimes_50 (by decide) (fun c14 => ?_) (fun c14 => ?_)
          · skip
            refine z_iconst dX9_otherTimes_57 (by decide) ?_
            refine z_sub (L' := [(0, z_r 161), (2, z_i x2)]) [0, 2] rfl ?_
            simp only [if_pos c14] at hJ13
            exact hJ13
          · skip
            refine z_iconst dX9_otherTimes_53 (by decide) ?_
            refine z_goto (tgt := 58) dX9_otherTimes_54 (by decide) ?_
            refine z_sub (L' := [(0, z_r 161), (2, z_i x2)]) [0, 2] rfl ?_
            simp only [if_neg c14] at hJ13
            exact hJ13
        simp only [if_pos c6] at hJ5
        exact hJ5
    obtain ⟨q17, h⟩ := h
    refine z_iadd dX9_otherTimes_58 q17 ?_
    refine z_nam (fun y18 hy18 => ?_)
    replace h := h y18 hy18
    refine z_istore_n (L' := [(1, z_i y18), (0, z_r 161), (2, z_i x2)]) dX9_otherTimes_59 rfl (by decide) rfl ?_
    obtain ⟨q19, h⟩ := h
    refine z_iinc (L' := [(2, z_i (x2 + 1)), (1, z_i y18), (0, z_r 161)]) 2 dX9_otherTimes_60 rfl (by decide) rfl q19 ?_
    refine z_goto (tgt := 4) dX9_otherTimes_63 (by decide) ?_
    refine z_sub (L' := [(0, z_r 161), (1, z_i y18), (2, z_i (x2 + 1))]) [2, 1, 0] rfl ?_
    exact h
set_option maxRecDepth 100000 in
theorem t_X9_tellsThen {sh : List z_C} {w : Nat → Int → Int} {Q : Option z_V → z_S → Prop} {x1 : Int} (hh0 : z_isMod sh 161) (h : z_CI mX9_lays [z_r 161] sh w (fun y2 w1 => ((y2 = 0 → z_CI mX9_fails [z_r 161, z_i (-5)] sh w1 (fun y19 w18 => Q (some (z_i y19)) (sh, w18))) ∧ (¬ y2 = 0 → ((x1 = 0 → z_CI mX9_otherBounds [z_r 161] sh w1 (fun y15 w14 => z_CI mX9_fails [z_r 161, z_i y15] sh w14 (fun y17 w16 => Q (some (z_i y17)) (sh, w16)))) ∧ (¬ x1 = 0 → ((x1 = 1 → z_CI mX9_otherTimes [z_r 161] sh w1 (fun y11 w10 => z_CI mX9_fails [z_r 161, z_i y11] sh w10 (fun y13 w12 => Q (some (z_i y13)) (sh, w12)))) ∧ (¬ x1 = 1 → z_CI mX9_allRoom [z_r 161] sh w1 (fun y7 w6 => z_CI mX9_fails [z_r 161, z_i y7] sh w6 (fun y9 w8 => Q (some (z_i y9)) (sh, w8))))))))))) : z_Sem mX9_tellsThen (sh.length, 0) 0 [(0, z_r 161), (1, z_i x1)] [] (sh, w) Q := by
  refine z_aload_n 0 dX9_tellsThen_0 rfl rfl ?_
  refine z_callV (As := []) (rest := []) zmX9_lays znX9_lays zsX9_lays (show vwCl[9]? = some (RX9, TX9, 29) from rfl) zlRX9_126 ⟨Nat.le_of_ble_eq_true rfl, Nat.le_of_ble_eq_true rfl⟩ dX9_tellsThen_1 hh0.1 rfl rfl z_a0 (Nat.le_of_ble_eq_true rfl) (Nat.le_of_ble_eq_true rfl) ⟨Nat.le_refl _, Nat.le_refl _⟩ (z_CIm h ?_)
  intro y2 w1 h
  show z_Sem mX9_tellsThen (sh.length, 0) 4 [(0, z_r 161), (1, z_i x1)] [z_i y2] (sh, w1) Q
  refine z_if_ne (tgt := 14) dX9_tellsThen_4 (by decide) (fun c3 => ?_) (fun c3 => ?_)
  · replace h := h.2 c3
    refine z_aload_n 0 dX9_tellsThen_14 rfl rfl ?_
    refine z_iload_n 1 dX9_tellsThen_15 rfl rfl ?_
    refine z_if_ne (tgt := 26) dX9_tellsThen_16 (by decide) (fun c4 => ?_) (fun c4 => ?_)
    · replace h := h.2 c4
      refine z_iload_n 1 dX9_tellsThen_26 rfl rfl ?_
      refine z_iconst dX9_tellsThen_27 (by decide) ?_
      refine z_icmp_ne (tgt := 38) dX9_tellsThen_28 (by decide) (fun c5 => ?_) (fun c5 => ?_)
      · replace h := h.2 c5
        refine z_aload_n 0 dX9_tellsThen_38 rfl rfl ?_
        refine z_callV (As := []) (rest := [z_r 161]) zmX9_allRoom znX9_allRoom zsX9_allRoom (show vwCl[9]? = some (RX9, TX9, 29) from rfl) zlRX9_169 ⟨Nat.le_of_ble_eq_true rfl, Nat.le_of_ble_eq_true rfl⟩ dX9_tellsThen_39 hh0.1 rfl rfl z_a0 (Nat.le_of_ble_eq_true rfl) (Nat.le_of_ble_eq_true rfl) ⟨Nat.le_refl _, Nat.le_refl _⟩ (z_CIm h ?_)
        intro y7 w6 h
        show z_Sem mX9_tellsThen (sh.length, 0) 42 [(0, z_r 161), (1, z_i x1)] [z_i y7, z_r 161] (sh, w6) Q
        refine z_callV (As := [z_i y7]) (rest := []) zmX9_fails znX9_fails zsX9_fails (show vwCl[9]? = some (RX9, TX9, 29) from rfl) zlRX9_137 ⟨Nat.le_of_ble_eq_true rfl, Nat.le_of_ble_eq_true rfl⟩ dX9_tellsThen_42 hh0.1 rfl rfl (z_ai z_a0) (Nat.le_of_ble_eq_true rfl) (Nat.le_of_ble_eq_true rfl) ⟨Nat.le_refl _, Nat.le_refl _⟩ (z_CIm h ?_)
        intro y9 w8 h
        show z_Sem mX9_tellsThen (sh.length, 0) 45 [(0, z_r 161), (1, z_i x1)] [z_i y9] (sh, w8) Q
        exact z_ret (v := some (z_i y9)) dX9_tellsThen_45 ⟨rfl, Or.inl rfl⟩ rfl rfl h
      · replace h := h.1 c5
        refine z_aload_n 0 dX9_tellsThen_31 rfl rfl ?_
        refine z_callV (As := []) (rest := [z_r 161]) zmX9_otherTimes znX9_otherTimes zsX9_otherTimes (show vwCl[9]? = some (RX9, TX9, 29) from rfl) zlRX9_323 ⟨Nat.le_of_ble_eq_true rfl, Nat.le_of_ble_eq_true rfl⟩ dX9_tellsThen_32 hh0.1 rfl rfl z_a0 (Nat.le_of_ble_eq_true rfl) (Nat.le_of_ble_eq_true rfl) ⟨Nat.le_refl _, Nat.le_refl _⟩ (z_CIm h ?_)
        intro y11 w10 h
        show z_Sem mX9_tellsThen (sh.length, 0) 35 [(0, z_r 161), (1, z_i x1)] [z_i y11, z_r 161] (sh, w10) Q
        refine z_goto (tgt := 42) dX9_tellsThen_35 (by decide) ?_
        refine z_callV (As := [z_i y11]) (rest := []) zmX9_fails znX9_fails zsX9_fails (show vwCl[9]? = some (RX9, TX9, 29) from rfl) zlRX9_137 ⟨Nat.le_of_ble_eq_true rfl, Nat.le_of_ble_eq_true rfl⟩ dX9_tellsThen_42 hh0.1 rfl rfl (z_ai z_a0) (Nat.le_of_ble_eq_true rfl) (Nat.le_of_ble_eq_true rfl) ⟨Nat.le_refl _, Nat.le_refl _⟩ (z_CIm h ?_)
        intro y13 w12 h
        show z_Sem mX9_tellsThen (sh.length, 0) 45 [(0, z_r 161), (1, z_i x1)] [z_i y13] (sh, w12) Q
        exact z_ret (v := some (z_i y13)) dX9_tellsThen_45 ⟨rfl, Or.inl rfl⟩ rfl rfl h
    · replace h := h.1 c4
      refine z_aload_n 0 dX9_tellsThen_19 rfl rfl ?_
      refine z_callV (As := []) (rest := [z_r 161]) zmX9_otherBounds znX9_otherBounds zsX9_otherBounds (show vwCl[9]? = some (RX9, TX9, 29) from rfl) zlRX9_320 ⟨Nat.le_of_ble_eq_true rfl, Nat.le_of_ble_eq_true rfl⟩ dX9_tellsThen_20 hh0.1 rfl rfl z_a0 (Nat.le_of_ble_eq_true rfl) (Nat.le_of_ble_eq_true rfl) ⟨Nat.le_refl _, Nat.le_refl _⟩ (z_CIm h ?_)
      intro y15 w14 h
      show z_Sem mX9_tellsThen (sh.length, 0) 23 [(0, z_r 161), (1, z_i x1)] [z_i y15, z_r 161] (sh, w14) Q
      refine z_goto (tgt := 42) dX9_tellsThen_23 (by decide) ?_
      refine z_callV (As := [z_i y15]) (rest := []) zmX9_fails znX9_fails zsX9_fails (show vwCl[9]? = some (RX9, TX9, 29) from rfl) zlRX9_137 ⟨Nat.le_of_ble_eq_true rfl, Nat.le_of_ble_eq_true rfl⟩ dX9_tellsThen_42 hh0.1 rfl rfl (z_ai z_a0) (Nat.le_of_ble_eq_true rfl) (Nat.le_of_ble_eq_true rfl) ⟨Nat.le_refl _, Nat.le_refl _⟩ (z_CIm h ?_)
      intro y17 w16 h
      show z_Sem mX9_tellsThen (sh.length, 0) 45 [(0, z_r 161), (1, z_i x1)] [z_i y17] (sh, w16) Q
      exact z_ret (v := some (z_i y17)) dX9_tellsThen_45 ⟨rfl, Or.inl rfl⟩ rfl rfl h
  · replace h := h.1 c3
    refine z_aload_n 0 dX9_tellsThen_7 rfl rfl ?_
    refine z_bipush dX9_tellsThen_8 (by decide) (by decide) ?_
    refine z_callV (As := [z_i (-5)]) (rest := []) zmX9_fails znX9_fails zsX9_fails (show vwCl[9]? = some (RX9, TX9, 29) from rfl) zlRX9_137 ⟨Nat.le_of_ble_eq_true rfl, Nat.le_of_ble_eq_true rfl⟩ dX9_tellsThen_10 hh0.1 rfl rfl (z_ai z_a0) (Nat.le_of_ble_eq_true rfl) (Nat.le_of_ble_eq_true rfl) ⟨Nat.le_refl _, Nat.le_refl _⟩ (z_CIm h ?_)
    intro y19 w18 h
    show z_Sem mX9_tellsThen (sh.length, 0) 13 [(0, z_r 161), (1, z_i x1)] [z_i y19] (sh, w18) Q
    exact z_ret (v := some (z_i y19)) dX9_tellsThen_13 ⟨rfl, Or.inl rfl⟩ rfl rfl h
set_option maxRecDepth 100000 in
theorem t_X9_ifTold {sh : List z_C} {w : Nat → Int → Int} {Q : Option z_V → z_S → Prop} {x1 : Int} {x2 : Int} {x3 : Int} {x4 : Int} {x5 : Int} (hh0 : z_isMod sh 161) (h : (s_X9_areTwo w x1 x2) ∧ (((f_X9_areTwo w x1 x2) = 0 → Q (some (z_i (-1))) (sh, w)) ∧ (¬ (f_X9_areTwo w x1 x2) = 0 → (((f_X9_isN w x3 x4) = 0 → Q (some (z_i (-1))) (sh, w)) ∧ (¬ (f_X9_isN w x3 x4) = 0 → (((f_X9_in w x5 0 2) = 0 → Q (some (z_i (-1))) (sh, w)) ∧ (¬ (f_X9_in w x5 0 2) = 0 → z_CV mX9_keepsBounds [z_r 161] sh w (fun w5 => z_CV mX9_laysAside [z_r 161, z_i x1, z_i x2, z_i x3, z_i x4] sh w5 (fun w6 => (s_X9_leastRing w6) ∧ ((0 ≤ (f_X9_leastRing w6) → ∀ y9 : Int, y9 = (w6 163 1) → z_Sem mX9_ifTold (sh.length, 0) 64 [(0, z_r 161), (5, z_i x5), (6, z_i y9), (7, z_i 0)] [] (sh, w6) Q) ∧ (¬ 0 ≤ (f_X9_leastRing w6) → Q (some (z_i (-5))) (sh, w6)))))))))))) : z_Sem mX9_ifTold (sh.length, 0) 0 [(0, z_r 161), (1, z_i x1), (2, z_i x2), (3, z_i x3), (4, z_i x4), (5, z_i x5)] [] (sh, w) Q := by
  refine z_aload_n 0 dX9_ifTold_0 rfl rfl ?_
  refine z_iload_n 1 dX9_ifTold_1 rfl rfl ?_
  refine z_iload_n 2 dX9_ifTold_2 rfl rfl ?_
  obtain ⟨q1, h⟩ := h
  refine z_callV (As := [z_i x1, z_i x2]) (rest := []) zmX9_areTwo znX9_areTwo zsX9_areTwo (show vwCl[9]? = some (RX9, TX9, 29) from rfl) zlRX9_143 ⟨Nat.le_of_ble_eq_true rfl, Nat.le_of_ble_eq_true rfl⟩ dX9_ifTold_3 hh0.1 rfl rfl (z_ai (z_ai z_a0)) (Nat.le_of_ble_eq_true rfl) (Nat.le_of_ble_eq_true rfl) ⟨Nat.le_refl _, Nat.le_refl _⟩ ?_
  refine t_X9_areTwo hh0 q1 ?_
  show z_Sem mX9_ifTold (sh.length, 0) 6 [(0, z_r 161), (1, z_i x1), (2, z_i x2), (3, z_i x3), (4, z_i x4), (5, z_i x5)] [z_i (f_X9_areTwo w x1 x2)] (sh, w) Q
  refine z_if_eq (tgt := 28) dX9_ifTold_6 (by decide) (fun c2 => ?_) (fun c2 => ?_)
  · replace h := h.1 c2
    refine z_iconst dX9_ifTold_28 (by decide) ?_
    exact z_ret (v := some (z_i (-1))) dX9_ifTold_29 ⟨rfl, Or.inl rfl⟩ rfl rfl h
  · replace h := h.2 c2
    refine z_iload_n 3 dX9_ifTold_9 rfl rfl ?_
    refine z_iload 4 dX9_ifTold_10 rfl ?_
    refine z_callS (As := [z_i x3, z_i x4]) (rest := []) zmX9_isN ztX9_isN zlRX9_147 ⟨Nat.le_of_ble_eq_true rfl, Nat.le_of_ble_eq_true rfl⟩ dX9_ifTold_12 rfl rfl (z_ai (z_ai z_a0)) (Nat.le_of_ble_eq_true rfl) (Nat.le_of_ble_eq_true rfl) ⟨Nat.le_refl _, Nat.le_refl _⟩ ?_
    refine t_X9_isN  ?_
    show z_Sem mX9_ifTold (sh.length, 0) 15 [(0, z_r 161), (1, z_i x1), (2, z_i x2), (3, z_i x3), (4, z_i x4), (5, z_i x5)] [z_i (f_X9_isN w x3 x4)] (sh, w) Q
    refine z_if_eq (tgt := 28) dX9_ifTold_15 (by decide) (fun c3 => ?_) (fun c3 => ?_)
    · replace h := h.1 c3
      refine z_iconst dX9_ifTold_28 (by decide) ?_
      exact z_ret (v := some (z_i (-1))) dX9_ifTold_29 ⟨rfl, Or.inl rfl⟩ rfl rfl h
    · replace h := h.2 c3
      refine z_iload 5 dX9_ifTold_18 rfl ?_
      refine z_iconst dX9_ifTold_20 (by decide) ?_
      refine z_iconst dX9_ifTold_21 (by decide) ?_
      refine z_callS (As := [z_i x5, z_i 0, z_i 2]) (rest := []) zmX9_in ztX9_in zlRX9_65 ⟨Nat.le_of_ble_eq_true rfl, Nat.le_of_ble_eq_true rfl⟩ dX9_ifTold_22 rfl rfl (z_ai (z_ai (z_ai z_a0))) (Nat.le_of_ble_eq_true rfl) (Nat.le_of_ble_eq_true rfl) ⟨Nat.le_refl _, Nat.le_refl _⟩ ?_
      refine t_X9_in  ?_
      show z_Sem mX9_ifTold (sh.length, 0) 25 [(0, z_r 161), (1, z_i x1), (2, z_i x2), (3, z_i x3), (4, z_i x4), (5, z_i x5)] [z_i (f_X9_in w x5 0 2)] (sh, w) Q
      refine z_if_ne (tgt := 30) dX9_ifTold_25 (by decide) (fun c4 => ?_) (fun c4 => ?_)
      · replace h := h.2 c4
        refine z_aload_n 0 dX9_ifTold_30 rfl rfl ?_
        refine z_callV (As := []) (rest := []) zmX9_keepsBounds znX9_keepsBounds zsX9_keepsBounds (show vwCl[9]? = some (RX9, TX9, 29) from rfl) zlRX9_326 ⟨Nat.le_of_ble_eq_true rfl, Nat.le_of_ble_eq_true rfl⟩ dX9_ifTold_31 hh0.1 rfl rfl z_a0 (Nat.le_of_ble_eq_true rfl) (Nat.le_of_ble_eq_true rfl) ⟨Nat.le_refl _, Nat.le_refl _⟩ (z_CVm h ?_)
        intro w5 h
        show z_Sem mX9_ifTold (sh.length, 0) 34 [(0, z_r 161), (1, z_i x1), (2, z_i x2), (3, z_i x3), (4, z_i x4), (5, z_i x5)] [] (sh, w5) Q
        refine z_aload_n 0 dX9_ifTold_34 rfl rfl ?_
        refine z_iload_n 1 dX9_ifTold_35 rfl rfl ?_
        refine z_iload_n 2 dX9_ifTold_36 rfl rfl ?_
        refine z_iload_n 3 dX9_ifTold_37 rfl rfl ?_
        refine z_iload 4 dX9_ifTold_38 rfl ?_
        refine z_callV (As := [z_i x1, z_i x2, z_i x3, z_i x4]) (rest := []) zmX9_laysAside znX9_laysAside zsX9_laysAside (show vwCl[9]? = some (RX9, TX9, 29) from rfl) zlRX9_308 ⟨Nat.le_of_ble_eq_true rfl, Nat.le_of_ble_eq_true rfl⟩ dX9_ifTold_40 hh0.1 rfl rfl (z_ai (z_ai (z_ai (z_ai z_a0)))) (Nat.le_of_ble_eq_true rfl) (Nat.le_of_ble_eq_true rfl) ⟨Nat.le_refl _, Nat.le_refl _⟩ (z_CVm h ?_)
        intro w6 h
        show z_Sem mX9_ifTold (sh.length, 0) 43 [(0, z_r 161), (1, z_i x1), (2, z_i x2), (3, z_i x3), (4, z_i x4), (5, z_i x5)] [] (sh, w6) Q
        refine z_aload_n 0 dX9_ifTold_43 rfl rfl ?_
        obtain ⟨q7, h⟩ := h
        refine z_callV (As := []) (rest := []) zmX9_leastRing znX9_leastRing zsX9_leastRing (show vwCl[9]? = some (RX9, TX9, 29) from rfl) zlRX9_311 ⟨Nat.le_of_ble_eq_true rfl, Nat.le_of_ble_eq_true rfl⟩ dX9_ifTold_44 hh0.1 rfl rfl z_a0 (Nat.le_of_ble_eq_true rfl) (Nat.le_of_ble_eq_true rfl) ⟨Nat.le_refl _, Nat.le_refl _⟩ ?_
        refine t_X9_leastRing hh0 q7 ?_
        show z_Sem mX9_ifTold (sh.length, 0) 47 [(0, z_r 161), (1, z_i x1), (2, z_i x2), (3, z_i x3), (4, z_i x4), (5, z_i x5)] [z_i (f_X9_leastRing w6)] (sh, w6) Q
        refine z_if_ge (tgt := 53) dX9_ifTold_47 (by decide) (fun c8 => ?_) (fun c8 => ?_)
        · replace h := h.1 c8
          refine z_aload_n 0 dX9_ifTold_53 rfl rfl ?_
          refine z_getR (r := 163) zfRX9_17 dX9_ifTold_54 hh0.1 rfl ?_
          refine z_iconst dX9_ifTold_57 (by decide) ?_
          refine z_iald dX9_ifTold_58 hh0.2.2.1 (by decide) ?_
          refine z_nam (fun y9 hy9 => ?_)
          replace h := h y9 hy9
          refine z_istore (L' := [(6, z_i y9), (0, z_r 161), (1, z_i x1), (2, z_i x2), (3, z_i x3), (4, z_i x4), (5, z_i x5)]) dX9_ifTold_59 (by decide) rfl ?_
          refine z_iconst dX9_ifTold_61 (by decide) ?_
          refine z_istore (L' := [(7, z_i 0), (6, z_i y9), (0, z_r 161), (1, z_i x1), (2, z_i x2), (3, z_i x3), (4, z_i x4), (5, z_i x5)]) dX9_ifTold_62 (by decide) rfl ?_
          refine z_sub (L' := [(0, z_r 161), (5, z_i x5), (6, z_i y9), (7, z_i 0)]) [2, 7, 1, 0] rfl ?_
          exact h
        · replace h := h.2 c8
          refine z_bipush dX9_ifTold_50 (by decide) (by decide) ?_
          exact z_ret (v := some (z_i (-5))) dX9_ifTold_52 ⟨rfl, Or.inl rfl⟩ rfl rfl h
      · replace h := h.1 c4
        refine z_iconst dX9_ifTold_28 (by decide) ?_
        exact z_ret (v := some (z_i (-1))) dX9_ifTold_29 ⟨rfl, Or.inl rfl⟩ rfl rfl h
set_option maxRecDepth 100000 in
theorem t_X9_ifTold_64 {sh : List z_C} {w : Nat → Int → Int} {Q : Option z_V → z_S → Prop} {x5 : Int} {x6 : Int} {x7 : Int} (hh0 : z_isMod sh 161) (h : ((x6 ≤ x7 → ((x5 = 0 → z_CI mX9_otherBounds [z_r 161] sh w (fun y9 w8 => Q (some (z_i y9)) (sh, w8))) ∧ (¬ x5 = 0 → ((x5 = 1 → z_CI mX9_otherTimes [z_r 161] sh w (fun y7 w6 => Q (some (z_i y7)) (sh, w6))) ∧ (¬ x5 = 1 → z_CI mX9_allRoom [z_r 161] sh w (fun y5 w4 => Q (some (z_i y5)) (sh, w4))))))) ∧ (¬ x6 ≤ x7 → z_Sem mX9_ifTold (sh.length, 0) 74 [(0, z_r 161), (5, z_i x5), (6, z_i x6), (7, z_i x7), (8, z_i 0)] [] (sh, w) Q))) : z_Sem mX9_ifTold (sh.length, 0) 64 [(0, z_r 161), (5, z_i x5), (6, z_i x6), (7, z_i x7)] [] (sh, w) Q := by
  refine z_iload 3 dX9_ifTold_64 rfl ?_
  refine z_iload 2 dX9_ifTold_66 rfl ?_
  refine z_icmp_ge (tgt := 175) dX9_ifTold_68 (by decide) (fun c1 => ?_) (fun c1 => ?_)
  · replace h := h.1 c1
    refine z_iload 1 dX9_ifTold_175 rfl ?_
    refine z_if_ne (tgt := 187) dX9_ifTold_177 (by decide) (fun c2 => ?_) (fun c2 => ?_)
    · replace h := h.2 c2
      refine z_iload 1 dX9_ifTold_187 rfl ?_
      refine z_iconst dX9_ifTold_189 (by decide) ?_
      refine z_icmp_ne (tgt := 200) dX9_ifTold_190 (by decide) (fun c3 => ?_) (fun c3 => ?_)
      · replace h := h.2 c3
        refine z_aload_n 0 dX9_ifTold_200 rfl rfl ?_
        refine z_callV (As := []) (rest := []) zmX9_allRoom znX9_allRoom zsX9_allRoom (show vwCl[9]? = some (RX9, TX9, 29) from rfl) zlRX9_169 ⟨Nat.le_of_ble_eq_true rfl, Nat.le_of_ble_eq_true rfl⟩ dX9_ifTold_201 hh0.1 rfl rfl z_a0 (Nat.le_of_ble_eq_true rfl) (Nat.le_of_ble_eq_true rfl) ⟨Nat.le_refl _, Nat.le_refl _⟩ (z_CIm h ?_)
        intro y5 w4 h
        show z_Sem mX9_ifTold (sh.length, 0) 204 [(0, z_r 161), (5, z_i x5), (6, z_i x6), (7, z_i x7)] [z_i y5] (sh, w4) Q
        exact z_ret (v := some (z_i y5)) dX9_ifTold_204 ⟨rfl, Or.inl rfl⟩ rfl rfl h
      · replace h := h.1 c3
        refine z_aload_n 0 dX9_ifTold_193 rfl rfl ?_
        refine z_callV (As := []) (rest := []) zmX9_otherTimes znX9_otherTimes zsX9_otherTimes (show vwCl[9]? = some (RX9, TX9, 29) from rfl) zlRX9_323 ⟨Nat.le_of_ble_eq_true rfl, Nat.le_of_ble_eq_true rfl⟩ dX9_ifTold_194 hh0.1 rfl rfl z_a0 (Nat.le_of_ble_eq_true rfl) (Nat.le_of_ble_eq_true rfl) ⟨Nat.le_refl _, Nat.le_refl _⟩ (z_CIm h ?_)
        intro y7 w6 h
        show z_Sem mX9_ifTold (sh.length, 0) 197 [(0, z_r 161), (5, z_i x5), (6, z_i x6), (7, z_i x7)] [z_i y7] (sh, w6) Q
        refine z_goto (tgt := 204) dX9_ifTold_197 (by decide) ?_
        exact z_ret (v := some (z_i y7)) dX9_ifTold_204 ⟨rfl, Or.inl rfl⟩ rfl rfl h
    · replace h := h.1 c2
      refine z_aload_n 0 dX9_ifTold_180 rfl rfl ?_
      refine z_callV (As := []) (rest := []) zmX9_otherBounds znX9_otherBounds zsX9_otherBounds (show vwCl[9]? = some (RX9, TX9, 29) from rfl) zlRX9_320 ⟨Nat.le_of_ble_eq_true rfl, Nat.le_of_ble_eq_true rfl⟩ dX9_ifTold_181 hh0.1 rfl rfl z_a0 (Nat.le_of_ble_eq_true rfl) (Nat.le_of_ble_eq_true rfl) ⟨Nat.le_refl _, Nat.le_refl _⟩ (z_CIm h ?_)
      intro y9 w8 h
      show z_Sem mX9_ifTold (sh.length, 0) 184 [(0, z_r 161), (5, z_i x5), (6, z_i x6), (7, z_i x7)] [z_i y9] (sh, w8) Q
      refine z_goto (tgt := 204) dX9_ifTold_184 (by decide) ?_
      exact z_ret (v := some (z_i y9)) dX9_ifTold_204 ⟨rfl, Or.inl rfl⟩ rfl rfl h
  · replace h := h.2 c1
    refine z_iconst dX9_ifTold_71 (by decide) ?_
    refine z_istore (L' := [(8, z_i 0), (0, z_r 161), (5, z_i x5), (6, z_i x6), (7, z_i x7)]) dX9_ifTold_72 (by decide) rfl ?_
    refine z_sub (L' := [(0, z_r 161), (5, z_i x5), (6, z_i x6), (7, z_i x7), (8, z_i 0)]) [1, 2, 3, 4, 0] rfl ?_
    exact h
set_option maxRecDepth 100000 in
theorem t_X9_ifTold_74 {sh : List z_C} {w : Nat → Int → Int} {Q : Option z_V → z_S → Prop} {x5 : Int} {x6 : Int} {x7 : Int} {x8 : Int} (hh0 : z_isMod sh 161) (h : ((x6 ≤ x8 → (z_R (x7 + 1)) ∧ z_Sem mX9_ifTold (sh.length, 0) 64 [(0, z_r 161), (5, z_i x5), (6, z_i x6), (7, z_i (x7 + 1))] [] (sh, w) Q) ∧ (¬ x6 ≤ x8 → (s_X9_pair w x7 (w 161 23)) ∧ ((0 : Int) ≤ (f_X9_pair w x7 (w 161 23)) ∧ (f_X9_pair w x7 (w 161 23)) < 100) ∧ (z_R ((w 175 (f_X9_pair w x7 (w 161 23))) + (w 161 25))) ∧ (s_X9_pair w (w 161 24) x8) ∧ ((0 : Int) ≤ (f_X9_pair w (w 161 24) x8) ∧ (f_X9_pair w (w 161 24) x8) < 100) ∧ (z_R (((w 175 (f_X9_pair w x7 (w 161 23))) + (w 161 25)) + (w 175 (f_X9_pair w (w 161 24) x8)))) ∧ ∀ y9 : Int, y9 = (((w 175 (f_X9_pair w x7 (w 161 23))) + (w 161 25)) + (w 175 (f_X9_pair w (w 161 24) x8))) → (s_X9_pair w x7 x8) ∧ (s_X9_pair w x7 x8) ∧ ((0 : Int) ≤ (f_X9_pair w x7 x8) ∧ (f_X9_pair w x7 x8) < 100) ∧ ((w 175 (f_X9_pair w x7 x8)) ≤ y9 → (s_X9_pair w x7 x8) ∧ ((0 : Int) ≤ (f_X9_pair w x7 x8) ∧ (f_X9_pair w x7 x8) < 100) ∧ True) ∧ ((0 : Int) ≤ (f_X9_pair w x7 x8) ∧ (f_X9_pair w x7 x8) < 100) ∧ ∀ w20 : Nat → Int → Int, w20 = z_W w 172 (f_X9_pair w x7 x8) (if (w 175 (f_X9_pair w x7 x8)) ≤ y9 then w 175 (f_X9_pair w x7 x8) else y9) → (z_R (x8 + 1)) ∧ z_Sem mX9_ifTold (sh.length, 0) 74 [(0, z_r 161), (5, z_i x5), (6, z_i x6), (7, z_i x7), (8, z_i (x8 + 1))] [] (sh, w20) Q))) : z_Sem mX9_ifTold (sh.length, 0) 74 [(0, z_r 161), (5, z_i x5), (6, z_i x6), (7, z_i x7), (8, z_i x8)] [] (sh, w) Q := by
  refine z_iload 4 dX9_ifTold_74 rfl ?_
  refine z_iload 2 dX9_ifTold_76 rfl ?_
  refine z_icmp_ge (tgt := 169) dX9_ifTold_78 (by decide) (fun c1 => ?_) (fun c1 => ?_)
  · replace h := h.1 c1
    obtain ⟨q2, h⟩ := h
    refine z_iinc (L' := [(7, z_i (x7 + 1)), (0, z_r 161), (5, z_i x5), (6, z_i x6), (8, z_i x8)]) 3 dX9_ifTold_169 rfl (by decide) rfl q2 ?_
    refine z_goto (tgt := 64) dX9_ifTold_172 (by decide) ?_
    refine z_sub (L' := [(0, z_r 161), (5, z_i x5), (6, z_i x6), (7, z_i (x7 + 1))]) [1, 2, 3, 0] rfl ?_
    exact h
  · replace h := h.2 c1
    refine z_aload_n 0 dX9_ifTold_81 rfl rfl ?_
    refine z_getR (r := 175) zfRX9_55 dX9_ifTold_82 hh0.1 rfl ?_
    refine z_iload 3 dX9_ifTold_85 rfl ?_
    refine z_aload_n 0 dX9_ifTold_87 rfl rfl ?_
    refine z_getI (ki := 23) zfRX9_299 dX9_ifTold_88 hh0.1 rfl rfl ?_
    obtain ⟨q3, h⟩ := h
    refine z_callS (As := [z_i x7, z_i (w 161 23)]) (rest := [z_r 175]) zmX9_pair ztX9_pair zlRX9_106 ⟨Nat.le_of_ble_eq_true rfl, Nat.le_of_ble_eq_true rfl⟩ dX9_ifTold_91 rfl rfl (z_ai (z_ai z_a0)) (Nat.le_of_ble_eq_true rfl) (Nat.le_of_ble_eq_true rfl) ⟨Nat.le_refl _, Nat.le_refl _⟩ ?_
    refine t_X9_pair  q3 ?_
    show z_Sem mX9_ifTold (sh.length, 0) 94 [(0, z_r 161), (5, z_i x5), (6, z_i x6), (7, z_i x7), (8, z_i x8)] [z_i (f_X9_pair w x7 (w 161 23)), z_r 175] (sh, w) Q
    obtain ⟨q4, h⟩ := h
    refine z_iald dX9_ifTold_94 hh0.2.2.2.2.2.2.2.2.2.2.2.2.2.2.1 q4 ?_
    refine z_aload_n 0 dX9_ifTold_95 rfl rfl ?_
    refine z_getI (ki := 25) zfRX9_305 dX9_ifTold_96 hh0.1 rfl rfl ?_
    obtain ⟨q5, h⟩ := h
    refine z_iadd dX9_ifTold_99 q5 ?_
    refine z_aload_n 0 dX9_ifTold_100 rfl rfl ?_
    refine z_getR (r := 175) zfRX9_55 dX9_ifTold_101 hh0.1 rfl ?_
    refine z_aload_n 0 dX9_ifTold_104 rfl rfl ?_
    refine z_getI (ki := 24) zfRX9_302 dX9_ifTold_105 hh0.1 rfl rfl ?_
    refine z_iload 4 dX9_ifTold_108 rfl ?_
    obtain ⟨q6, h⟩ := h
    refine z_callS (As := [z_i (w 161 24), z_i x8]) (rest := [z_r 175, z_i ((w 175 (f_X9_pair w x7 (w 161 23))) + (w 161 25))]) zmX9_pair ztX9_pair zlRX9_106 ⟨Nat.le_of_ble_eq_true rfl, Nat.le_of_ble_eq_true rfl⟩ dX9_ifTold_110 rfl rfl (z_ai (z_ai z_a0)) (Nat.le_of_ble_eq_true rfl) (Nat.le_of_ble_eq_true rfl) ⟨Nat.le_refl _, Nat.le_refl _⟩ ?_
    refine t_X9_pair  q6 ?_
    show z_Sem mX9_ifTold (sh.length, 0) 113 [(0, z_r 161), (5, z_i x5), (6, z_i x6), (7, z_i x7), (8, z_i x8)] [z_i (f_X9_pair w (w 161 24) x8), z_r 175, z_i ((w 175 (f_X9_pair w x7 (w 161 23))) + (w 161 25))] (sh, w) Q
    obtain ⟨q7, h⟩ := h
    refine z_iald dX9_ifTold_113 hh0.2.2.2.2.2.2.2.2.2.2.2.2.2.2.1 q7 ?_
    obtain ⟨q8, h⟩ := h
    refine z_iadd dX9_ifTold_114 q8 ?_
    refine z_nam (fun y9 hy9 => ?_)
    replace h := h y9 hy9
    refine z_istore (L' := [(9, z_i y9), (0, z_r 161), (5, z_i x5), (6, z_i x6), (7, z_i x7), (8, z_i x8)]) dX9_ifTold_115 (by decide) rfl ?_
    refine z_aload_n 1 dX9_ifTold_117 rfl rfl ?_
    refine z_getR (r := 172) zfRX9_46 dX9_ifTold_118 hh0.1 rfl ?_
    refine z_iload 4 dX9_ifTold_121 rfl ?_
    refine z_iload 5 dX9_ifTold_123 rfl ?_
    obtain ⟨q10, h⟩ := h
    refine z_callS (As := [z_i x7, z_i x8]) (rest := [z_r 172]) zmX9_pair ztX9_pair zlRX9_106 ⟨Nat.le_of_ble_eq_true rfl, Nat.le_of_ble_eq_true rfl⟩ dX9_ifTold_125 rfl rfl (z_ai (z_ai z_a0)) (Nat.le_of_ble_eq_true rfl) (Nat.le_of_ble_eq_true rfl) ⟨Nat.le_refl _, Nat.le_refl _⟩ ?_
    refine t_X9_pair  q10 ?_
    show z_Sem mX9_ifTold (sh.length, 0) 128 [(9, z_i y9), (0, z_r 161), (5, z_i x5), (6, z_i x6), (7, z_i x7), (8, z_i x8)] [z_i (f_X9_pair w x7 x8), z_r 172] (sh, w) Q
    refine z_iload 0 dX9_ifTold_128 rfl ?_
    refine z_aload_n 1 dX9_ifTold_130 rfl rfl ?_
    refine z_getR (r := 175) zfRX9_55 dX9_ifTold_131 hh0.1 rfl ?_
    refine z_iload 4 dX9_ifTold_134 rfl ?_
    refine z_iload 5 dX9_ifTold_136 rfl ?_
    obtain ⟨q11, h⟩ := h
    refine z_callS (As := [z_i x7, z_i x8]) (rest := [z_r 175, z_i y9, z_i (f_X9_pair w x7 x8), z_r 172]) zmX9_pair ztX9_pair zlRX9_106 ⟨Nat.le_of_ble_eq_true rfl, Nat.le_of_ble_eq_true rfl⟩ dX9_ifTold_138 rfl rfl (z_ai (z_ai z_a0)) (Nat.le_of_ble_eq_true rfl) (Nat.le_of_ble_eq_true rfl) ⟨Nat.le_refl _, Nat.le_refl _⟩ ?_
    refine t_X9_pair  q11 ?_
    show z_Sem mX9_ifTold (sh.length, 0) 141 [(9, z_i y9), (0, z_r 161), (5, z_i x5), (6, z_i x6), (7, z_i x7), (8, z_i x8)] [z_i (f_X9_pair w x7 x8), z_r 175, z_i y9, z_i (f_X9_pair w x7 x8), z_r 172] (sh, w) Q
    obtain ⟨q12, h⟩ := h
    refine z_iald dX9_ifTold_141 hh0.2.2.2.2.2.2.2.2.2.2.2.2.2.2.1 q12 ?_
    obtain ⟨m15, h⟩ := h
    suffices hJ13 : z_Sem mX9_ifTold (sh.length, 0) 162 [(0, z_r 161), (5, z_i x5), (6, z_i x6), (7, z_i x7), (8, z_i x8)] [z_i (if (w 175 (f_X9_pair w x7 x8)) ≤ y9 then w 175 (f_X9_pair w x7 x8) else y9), z_i (f_X9_pair w x7 x8), z_r 172] (sh, w) Q by
      refine z_icmp_ge (tgt := 150) dX9_ifTold_142 (by decide) (fun c14 => ?_) (fun c14 => ?_)
      · skip
        have ho16 := m15 c14
        refine z_aload_n 1 dX9_ifTold_150 rfl rfl ?_
        refine z_getR (r := 175) zfRX9_55 dX9_ifTold_151 hh0.1 rfl ?_
        refine z_iload 4 dX9_ifTold_154 rfl ?_
        refine z_iload 5 dX9_ifTold_156 rfl ?_
        obtain ⟨q17, ho16⟩ := ho16
        refine z_callS (As := [z_i x7, z_i x8]) (rest := [z_r 175, z_i (f_X9_pair w x7 x8), z_r 172]) zmX9_pair ztX9_pair zlRX9_106 ⟨Nat.le_of_ble_eq_true rfl, Nat.le_of_ble_eq_true rfl⟩ dX9_ifTold_158 rfl rfl (z_ai (z_ai z_a0)) (Nat.le_of_ble_eq_true rfl) (Nat.le_of_ble_eq_true rfl) ⟨Nat.le_refl _, Nat.le_refl _⟩ ?_
        refine t_X9_pair  q17 ?_
        show z_Sem mX9_ifTold (sh.length, 0) 161 [(9, z_i y9), (0, z_r 161), (5, z_i x5), (6, z_i x6), (7, z_i x7), (8, z_i x8)] [z_i (f_X9_pair w x7 x8), z_r 175, z_i (f_X9_pair w x7 x8), z_r 172] (sh, w) Q
        obtain ⟨q18, ho16⟩ := ho16
        refine z_iald dX9_ifTold_161 hh0.2.2.2.2.2.2.2.2.2.2.2.2.2.2.1 q18 ?_
        refine z_sub (L' := [(0, z_r 161), (5, z_i x5), (6, z_i x6), (7, z_i x7), (8, z_i x8)]) [1, 2, 3, 4, 5] rfl ?_
        simp only [if_pos c14] at hJ13
        exact hJ13
      · skip
        refine z_iload 0 dX9_ifTold_145 rfl ?_
        refine z_goto (tgt := 162) dX9_ifTold_147 (by decide) ?_
        refine z_sub (L' := [(0, z_r 161), (5, z_i x5), (6, z_i x6), (7, z_i x7), (8, z_i x8)]) [1, 2, 3, 4, 5] rfl ?_
        simp only [if_neg c14] at hJ13
        exact hJ13
    obtain ⟨q21, h⟩ := h
    refine z_iast dX9_ifTold_162 hh0.2.2.2.2.2.2.2.2.2.2.2.1 q21 ?_
    refine z_genw (fun w20 hw20 => ?_)
    replace h := h w20 hw20
    obtain ⟨q22, h⟩ := h
    refine z_iinc (L' := [(8, z_i (x8 + 1)), (0, z_r 161), (5, z_i x5), (6, z_i x6), (7, z_i x7)]) 4 dX9_ifTold_163 rfl (by decide) rfl q22 ?_
    refine z_goto (tgt := 74) dX9_ifTold_166 (by decide) ?_
    refine z_sub (L' := [(0, z_r 161), (5, z_i x5), (6, z_i x6), (7, z_i x7), (8, z_i (x8 + 1))]) [1, 2, 3, 4, 0] rfl ?_
    exact h
set_option maxRecDepth 100000 in
theorem t_X9_ifDropped {sh : List z_C} {w : Nat → Int → Int} {Q : Option z_V → z_S → Prop} {x1 : Int} {x2 : Int} (hh0 : z_isMod sh 161) (h : (s_X9_isGap w x1) ∧ (((f_X9_isGap w x1) = 0 → Q (some (z_i (-1))) (sh, w)) ∧ (¬ (f_X9_isGap w x1) = 0 → (((f_X9_in w x2 0 2) = 0 → Q (some (z_i (-1))) (sh, w)) ∧ (¬ (f_X9_in w x2 0 2) = 0 → z_CV mX9_keepsBounds [z_r 161] sh w (fun w4 => z_CV mX9_begins [z_r 161] sh w4 (fun w5 => z_CV mX9_drops [z_r 161, z_i x1] sh w5 (fun w6 => z_CI mX9_tellsThen [z_r 161, z_i x2] sh w6 (fun y8 w7 => Q (some (z_i y8)) (sh, w7)))))))))) : z_Sem mX9_ifDropped (sh.length, 0) 0 [(0, z_r 161), (1, z_i x1), (2, z_i x2)] [] (sh, w) Q := by
  refine z_aload_n 0 dX9_ifDropped_0 rfl rfl ?_
  refine z_iload_n 1 dX9_ifDropped_1 rfl rfl ?_
  obtain ⟨q1, h⟩ := h
  refine z_callV (As := [z_i x1]) (rest := []) zmX9_isGap znX9_isGap zsX9_isGap (show vwCl[9]? = some (RX9, TX9, 29) from rfl) zlRX9_154 ⟨Nat.le_of_ble_eq_true rfl, Nat.le_of_ble_eq_true rfl⟩ dX9_ifDropped_2 hh0.1 rfl rfl (z_ai z_a0) (Nat.le_of_ble_eq_true rfl) (Nat.le_of_ble_eq_true rfl) ⟨Nat.le_refl _, Nat.le_refl _⟩ ?_
  refine t_X9_isGap hh0 q1 ?_
  show z_Sem mX9_ifDropped (sh.length, 0) 5 [(0, z_r 161), (1, z_i x1), (2, z_i x2)] [z_i (f_X9_isGap w x1)] (sh, w) Q
  refine z_if_eq (tgt := 17) dX9_ifDropped_5 (by decide) (fun c2 => ?_) (fun c2 => ?_)
  · replace h := h.1 c2
    refine z_iconst dX9_ifDropped_17 (by decide) ?_
    exact z_ret (v := some (z_i (-1))) dX9_ifDropped_18 ⟨rfl, Or.inl rfl⟩ rfl rfl h
  · replace h := h.2 c2
    refine z_iload_n 2 dX9_ifDropped_8 rfl rfl ?_
    refine z_iconst dX9_ifDropped_9 (by decide) ?_
    refine z_iconst dX9_ifDropped_10 (by decide) ?_
    refine z_callS (As := [z_i x2, z_i 0, z_i 2]) (rest := []) zmX9_in ztX9_in zlRX9_65 ⟨Nat.le_of_ble_eq_true rfl, Nat.le_of_ble_eq_true rfl⟩ dX9_ifDropped_11 rfl rfl (z_ai (z_ai (z_ai z_a0))) (Nat.le_of_ble_eq_true rfl) (Nat.le_of_ble_eq_true rfl) ⟨Nat.le_refl _, Nat.le_refl _⟩ ?_
    refine t_X9_in  ?_
    show z_Sem mX9_ifDropped (sh.length, 0) 14 [(0, z_r 161), (1, z_i x1), (2, z_i x2)] [z_i (f_X9_in w x2 0 2)] (sh, w) Q
    refine z_if_ne (tgt := 19) dX9_ifDropped_14 (by decide) (fun c3 => ?_) (fun c3 => ?_)
    · replace h := h.2 c3
      refine z_aload_n 0 dX9_ifDropped_19 rfl rfl ?_
      refine z_callV (As := []) (rest := []) zmX9_keepsBounds znX9_keepsBounds zsX9_keepsBounds (show vwCl[9]? = some (RX9, TX9, 29) from rfl) zlRX9_326 ⟨Nat.le_of_ble_eq_true rfl, Nat.le_of_ble_eq_true rfl⟩ dX9_ifDropped_20 hh0.1 rfl rfl z_a0 (Nat.le_of_ble_eq_true rfl) (Nat.le_of_ble_eq_true rfl) ⟨Nat.le_refl _, Nat.le_refl _⟩ (z_CVm h ?_)
      intro w4 h
      show z_Sem mX9_ifDropped (sh.length, 0) 23 [(0, z_r 161), (1, z_i x1), (2, z_i x2)] [] (sh, w4) Q
      refine z_aload_n 0 dX9_ifDropped_23 rfl rfl ?_
      refine z_callV (As := []) (rest := []) zmX9_begins znX9_begins zsX9_begins (show vwCl[9]? = some (RX9, TX9, 29) from rfl) zlRX9_69 ⟨Nat.le_of_ble_eq_true rfl, Nat.le_of_ble_eq_true rfl⟩ dX9_ifDropped_24 hh0.1 rfl rfl z_a0 (Nat.le_of_ble_eq_true rfl) (Nat.le_of_ble_eq_true rfl) ⟨Nat.le_refl _, Nat.le_refl _⟩ (z_CVm h ?_)
      intro w5 h
      show z_Sem mX9_ifDropped (sh.length, 0) 27 [(0, z_r 161), (1, z_i x1), (2, z_i x2)] [] (sh, w5) Q
      refine z_aload_n 0 dX9_ifDropped_27 rfl rfl ?_
      refine z_iload_n 1 dX9_ifDropped_28 rfl rfl ?_
      refine z_callV (As := [z_i x1]) (rest := []) zmX9_drops znX9_drops zsX9_drops (show vwCl[9]? = some (RX9, TX9, 29) from rfl) zlRX9_157 ⟨Nat.le_of_ble_eq_true rfl, Nat.le_of_ble_eq_true rfl⟩ dX9_ifDropped_29 hh0.1 rfl rfl (z_ai z_a0) (Nat.le_of_ble_eq_true rfl) (Nat.le_of_ble_eq_true rfl) ⟨Nat.le_refl _, Nat.le_refl _⟩ (z_CVm h ?_)
      intro w6 h
      show z_Sem mX9_ifDropped (sh.length, 0) 32 [(0, z_r 161), (1, z_i x1), (2, z_i x2)] [] (sh, w6) Q
      refine z_aload_n 0 dX9_ifDropped_32 rfl rfl ?_
      refine z_iload_n 2 dX9_ifDropped_33 rfl rfl ?_
      refine z_callV (As := [z_i x2]) (rest := []) zmX9_tellsThen znX9_tellsThen zsX9_tellsThen (show vwCl[9]? = some (RX9, TX9, 29) from rfl) zlRX9_329 ⟨Nat.le_of_ble_eq_true rfl, Nat.le_of_ble_eq_true rfl⟩ dX9_ifDropped_34 hh0.1 rfl rfl (z_ai z_a0) (Nat.le_of_ble_eq_true rfl) (Nat.le_of_ble_eq_true rfl) ⟨Nat.le_refl _, Nat.le_refl _⟩ (z_CIm h ?_)
      intro y8 w7 h
      show z_Sem mX9_ifDropped (sh.length, 0) 37 [(0, z_r 161), (1, z_i x1), (2, z_i x2)] [z_i y8] (sh, w7) Q
      exact z_ret (v := some (z_i y8)) dX9_ifDropped_37 ⟨rfl, Or.inl rfl⟩ rfl rfl h
    · replace h := h.1 c3
      refine z_iconst dX9_ifDropped_17 (by decide) ?_
      exact z_ret (v := some (z_i (-1))) dX9_ifDropped_18 ⟨rfl, Or.inl rfl⟩ rfl rfl h
set_option maxRecDepth 100000 in
theorem t_X9_ifTurned {sh : List z_C} {w : Nat → Int → Int} {Q : Option z_V → z_S → Prop} {x1 : Int} {x2 : Int} (hh0 : z_isMod sh 161) (h : (s_X9_isGap w x1) ∧ (((f_X9_isGap w x1) = 0 → Q (some (z_i (-1))) (sh, w)) ∧ (¬ (f_X9_isGap w x1) = 0 → (((f_X9_in w x2 0 2) = 0 → Q (some (z_i (-1))) (sh, w)) ∧ (¬ (f_X9_in w x2 0 2) = 0 → z_CV mX9_keepsBounds [z_r 161] sh w (fun w4 => z_CV mX9_begins [z_r 161] sh w4 (fun w5 => (s_X9_of w5 x1 4) ∧ (z_R (1 - (f_X9_of w5 x1 4))) ∧ z_CV mX9_puts [z_r 161, z_i x1, z_i 4, z_i (1 - (f_X9_of w5 x1 4))] sh w5 (fun w8 => z_CI mX9_tellsThen [z_r 161, z_i x2] sh w8 (fun y10 w9 => Q (some (z_i y10)) (sh, w9)))))))))) : z_Sem mX9_ifTurned (sh.length, 0) 0 [(0, z_r 161), (1, z_i x1), (2, z_i x2)] [] (sh, w) Q := by
  refine z_aload_n 0 dX9_ifTurned_0 rfl rfl ?_
  refine z_iload_n 1 dX9_ifTurned_1 rfl rfl ?_
  obtain ⟨q1, h⟩ := h
  refine z_callV (As := [z_i x1]) (rest := []) zmX9_isGap znX9_isGap zsX9_isGap (show vwCl[9]? = some (RX9, TX9, 29) from rfl) zlRX9_154 ⟨Nat.le_of_ble_eq_true rfl, Nat.le_of_ble_eq_true rfl⟩ dX9_ifTurned_2 hh0.1 rfl rfl (z_ai z_a0) (Nat.le_of_ble_eq_true rfl) (Nat.le_of_ble_eq_true rfl) ⟨Nat.le_refl _, Nat.le_refl _⟩ ?_
  refine t_X9_isGap hh0 q1 ?_
  show z_Sem mX9_ifTurned (sh.length, 0) 5 [(0, z_r 161), (1, z_i x1), (2, z_i x2)] [z_i (f_X9_isGap w x1)] (sh, w) Q
  refine z_if_eq (tgt := 17) dX9_ifTurned_5 (by decide) (fun c2 => ?_) (fun c2 => ?_)
  · replace h := h.1 c2
    refine z_iconst dX9_ifTurned_17 (by decide) ?_
    exact z_ret (v := some (z_i (-1))) dX9_ifTurned_18 ⟨rfl, Or.inl rfl⟩ rfl rfl h
  · replace h := h.2 c2
    refine z_iload_n 2 dX9_ifTurned_8 rfl rfl ?_
    refine z_iconst dX9_ifTurned_9 (by decide) ?_
    refine z_iconst dX9_ifTurned_10 (by decide) ?_
    refine z_callS (As := [z_i x2, z_i 0, z_i 2]) (rest := []) zmX9_in ztX9_in zlRX9_65 ⟨Nat.le_of_ble_eq_true rfl, Nat.le_of_ble_eq_true rfl⟩ dX9_ifTurned_11 rfl rfl (z_ai (z_ai (z_ai z_a0))) (Nat.le_of_ble_eq_true rfl) (Nat.le_of_ble_eq_true rfl) ⟨Nat.le_refl _, Nat.le_refl _⟩ ?_
    refine t_X9_in  ?_
    show z_Sem mX9_ifTurned (sh.length, 0) 14 [(0, z_r 161), (1, z_i x1), (2, z_i x2)] [z_i (f_X9_in w x2 0 2)] (sh, w) Q
    refine z_if_ne (tgt := 19) dX9_ifTurned_14 (by decide) (fun c3 => ?_) (fun c3 => ?_)
    · replace h := h.2 c3
      refine z_aload_n 0 dX9_ifTurned_19 rfl rfl ?_
      refine z_callV (As := []) (rest := []) zmX9_keepsBounds znX9_keepsBounds zsX9_keepsBounds (show vwCl[9]? = some (RX9, TX9, 29) from rfl) zlRX9_326 ⟨Nat.le_of_ble_eq_true rfl, Nat.le_of_ble_eq_true rfl⟩ dX9_ifTurned_20 hh0.1 rfl rfl z_a0 (Nat.le_of_ble_eq_true rfl) (Nat.le_of_ble_eq_true rfl) ⟨Nat.le_refl _, Nat.le_refl _⟩ (z_CVm h ?_)
      intro w4 h
      show z_Sem mX9_ifTurned (sh.length, 0) 23 [(0, z_r 161), (1, z_i x1), (2, z_i x2)] [] (sh, w4) Q
      refine z_aload_n 0 dX9_ifTurned_23 rfl rfl ?_
      refine z_callV (As := []) (rest := []) zmX9_begins znX9_begins zsX9_begins (show vwCl[9]? = some (RX9, TX9, 29) from rfl) zlRX9_69 ⟨Nat.le_of_ble_eq_true rfl, Nat.le_of_ble_eq_true rfl⟩ dX9_ifTurned_24 hh0.1 rfl rfl z_a0 (Nat.le_of_ble_eq_true rfl) (Nat.le_of_ble_eq_true rfl) ⟨Nat.le_refl _, Nat.le_refl _⟩ (z_CVm h ?_)
      intro w5 h
      show z_Sem mX9_ifTurned (sh.length, 0) 27 [(0, z_r 161), (1, z_i x1), (2, z_i x2)] [] (sh, w5) Q
      refine z_aload_n 0 dX9_ifTurned_27 rfl rfl ?_
      refine z_iload_n 1 dX9_ifTurned_28 rfl rfl ?_
      refine z_iconst dX9_ifTurned_29 (by decide) ?_
      refine z_iconst dX9_ifTurned_30 (by decide) ?_
      refine z_aload_n 0 dX9_ifTurned_31 rfl rfl ?_
      refine z_iload_n 1 dX9_ifTurned_32 rfl rfl ?_
      refine z_iconst dX9_ifTurned_33 (by decide) ?_
      obtain ⟨q6, h⟩ := h
      refine z_callV (As := [z_i x1, z_i 4]) (rest := [z_i 1, z_i 4, z_i x1, z_r 161]) zmX9_of znX9_of zsX9_of (show vwCl[9]? = some (RX9, TX9, 29) from rfl) zlRX9_76 ⟨Nat.le_of_ble_eq_true rfl, Nat.le_of_ble_eq_true rfl⟩ dX9_ifTurned_34 hh0.1 rfl rfl (z_ai (z_ai z_a0)) (Nat.le_of_ble_eq_true rfl) (Nat.le_of_ble_eq_true rfl) ⟨Nat.le_refl _, Nat.le_refl _⟩ ?_
      refine t_X9_of hh0 q6 ?_
      show z_Sem mX9_ifTurned (sh.length, 0) 37 [(0, z_r 161), (1, z_i x1), (2, z_i x2)] [z_i (f_X9_of w5 x1 4), z_i 1, z_i 4, z_i x1, z_r 161] (sh, w5) Q
      obtain ⟨q7, h⟩ := h
      refine z_isub dX9_ifTurned_37 q7 ?_
      refine z_callV (As := [z_i x1, z_i 4, z_i (1 - (f_X9_of w5 x1 4))]) (rest := []) zmX9_puts znX9_puts zsX9_puts (show vwCl[9]? = some (RX9, TX9, 29) from rfl) zlRX9_133 ⟨Nat.le_of_ble_eq_true rfl, Nat.le_of_ble_eq_true rfl⟩ dX9_ifTurned_38 hh0.1 rfl rfl (z_ai (z_ai (z_ai z_a0))) (Nat.le_of_ble_eq_true rfl) (Nat.le_of_ble_eq_true rfl) ⟨Nat.le_refl _, Nat.le_refl _⟩ (z_CVm h ?_)
      intro w8 h
      show z_Sem mX9_ifTurned (sh.length, 0) 41 [(0, z_r 161), (1, z_i x1), (2, z_i x2)] [] (sh, w8) Q
      refine z_aload_n 0 dX9_ifTurned_41 rfl rfl ?_
      refine z_iload_n 2 dX9_ifTurned_42 rfl rfl ?_
      refine z_callV (As := [z_i x2]) (rest := []) zmX9_tellsThen znX9_tellsThen zsX9_tellsThen (show vwCl[9]? = some (RX9, TX9, 29) from rfl) zlRX9_329 ⟨Nat.le_of_ble_eq_true rfl, Nat.le_of_ble_eq_true rfl⟩ dX9_ifTurned_43 hh0.1 rfl rfl (z_ai z_a0) (Nat.le_of_ble_eq_true rfl) (Nat.le_of_ble_eq_true rfl) ⟨Nat.le_refl _, Nat.le_refl _⟩ (z_CIm h ?_)
      intro y10 w9 h
      show z_Sem mX9_ifTurned (sh.length, 0) 46 [(0, z_r 161), (1, z_i x1), (2, z_i x2)] [z_i y10] (sh, w9) Q
      exact z_ret (v := some (z_i y10)) dX9_ifTurned_46 ⟨rfl, Or.inl rfl⟩ rfl rfl h
    · replace h := h.1 c3
      refine z_iconst dX9_ifTurned_17 (by decide) ?_
      exact z_ret (v := some (z_i (-1))) dX9_ifTurned_18 ⟨rfl, Or.inl rfl⟩ rfl rfl h
set_option maxRecDepth 100000 in
theorem t_X9_ifPinned {sh : List z_C} {w : Nat → Int → Int} {Q : Option z_V → z_S → Prop} {x1 : Int} {x2 : Int} {x3 : Int} (hh0 : z_isMod sh 161) (h : (s_X9_isEvent w x1) ∧ (((f_X9_isEvent w x1) = 0 → Q (some (z_i (-1))) (sh, w)) ∧ (¬ (f_X9_isEvent w x1) = 0 → (((f_X9_in w x2 0 (w 163 0)) = 0 → Q (some (z_i (-1))) (sh, w)) ∧ (¬ (f_X9_in w x2 0 (w 163 0)) = 0 → (((f_X9_in w x3 0 2) = 0 → Q (some (z_i (-1))) (sh, w)) ∧ (¬ (f_X9_in w x3 0 2) = 0 → ((x1 = 0 → Q (some (z_i (-3))) (sh, w)) ∧ (¬ x1 = 0 → (s_X9_isPinned w x1) ∧ (((f_X9_isPinned w x1) = 0 → z_CV mX9_keepsBounds [z_r 161] sh w (fun w8 => z_CV mX9_begins [z_r 161] sh w8 (fun w9 => (z_R (133 + x1)) ∧ (z_R (x2 + 1)) ∧ ((0 : Int) ≤ (133 + x1) ∧ (133 + x1) < 264) ∧ ∀ w12 : Nat → Int → Int, w12 = z_W w9 163 (133 + x1) (x2 + 1) → z_CI mX9_tellsThen [z_r 161, z_i x3] sh w12 (fun y15 w14 => Q (some (z_i y15)) (sh, w14))))) ∧ (¬ (f_X9_isPinned w x1) = 0 → Q (some (z_i (-3))) (sh, w)))))))))))) : z_Sem mX9_ifPinned (sh.length, 0) 0 [(0, z_r 161), (1, z_i x1), (2, z_i x2), (3, z_i x3)] [] (sh, w) Q := by
  refine z_aload_n 0 dX9_ifPinned_0 rfl rfl ?_
  refine z_iload_n 1 dX9_ifPinned_1 rfl rfl ?_
  obtain ⟨q1, h⟩ := h
  refine z_callV (As := [z_i x1]) (rest := []) zmX9_isEvent znX9_isEvent zsX9_isEvent (show vwCl[9]? = some (RX9, TX9, 29) from rfl) zlRX9_80 ⟨Nat.le_of_ble_eq_true rfl, Nat.le_of_ble_eq_true rfl⟩ dX9_ifPinned_2 hh0.1 rfl rfl (z_ai z_a0) (Nat.le_of_ble_eq_true rfl) (Nat.le_of_ble_eq_true rfl) ⟨Nat.le_refl _, Nat.le_refl _⟩ ?_
  refine t_X9_isEvent hh0 q1 ?_
  show z_Sem mX9_ifPinned (sh.length, 0) 5 [(0, z_r 161), (1, z_i x1), (2, z_i x2), (3, z_i x3)] [z_i (f_X9_isEvent w x1)] (sh, w) Q
  refine z_if_eq (tgt := 31) dX9_ifPinned_5 (by decide) (fun c2 => ?_) (fun c2 => ?_)
  · replace h := h.1 c2
    refine z_iconst dX9_ifPinned_31 (by decide) ?_
    exact z_ret (v := some (z_i (-1))) dX9_ifPinned_32 ⟨rfl, Or.inl rfl⟩ rfl rfl h
  · replace h := h.2 c2
    refine z_iload_n 2 dX9_ifPinned_8 rfl rfl ?_
    refine z_iconst dX9_ifPinned_9 (by decide) ?_
    refine z_aload_n 0 dX9_ifPinned_10 rfl rfl ?_
    refine z_getR (r := 163) zfRX9_17 dX9_ifPinned_11 hh0.1 rfl ?_
    refine z_iconst dX9_ifPinned_14 (by decide) ?_
    refine z_iald dX9_ifPinned_15 hh0.2.2.1 (by decide) ?_
    refine z_callS (As := [z_i x2, z_i 0, z_i (w 163 0)]) (rest := []) zmX9_in ztX9_in zlRX9_65 ⟨Nat.le_of_ble_eq_true rfl, Nat.le_of_ble_eq_true rfl⟩ dX9_ifPinned_16 rfl rfl (z_ai (z_ai (z_ai z_a0))) (Nat.le_of_ble_eq_true rfl) (Nat.le_of_ble_eq_true rfl) ⟨Nat.le_refl _, Nat.le_refl _⟩ ?_
    refine t_X9_in  ?_
    show z_Sem mX9_ifPinned (sh.length, 0) 19 [(0, z_r 161), (1, z_i x1), (2, z_i x2), (3, z_i x3)] [z_i (f_X9_in w x2 0 (w 163 0))] (sh, w) Q
    refine z_if_eq (tgt := 31) dX9_ifPinned_19 (by decide) (fun c3 => ?_) (fun c3 => ?_)
    · replace h := h.1 c3
      refine z_iconst dX9_ifPinned_31 (by decide) ?_
      exact z_ret (v := some (z_i (-1))) dX9_ifPinned_32 ⟨rfl, Or.inl rfl⟩ rfl rfl h
    · replace h := h.2 c3
      refine z_iload_n 3 dX9_ifPinned_22 rfl rfl ?_
      refine z_iconst dX9_ifPinned_23 (by decide) ?_
      refine z_iconst dX9_ifPinned_24 (by decide) ?_
      refine z_callS (As := [z_i x3, z_i 0, z_i 2]) (rest := []) zmX9_in ztX9_in zlRX9_65 ⟨Nat.le_of_ble_eq_true rfl, Nat.le_of_ble_eq_true rfl⟩ dX9_ifPinned_25 rfl rfl (z_ai (z_ai (z_ai z_a0))) (Nat.le_of_ble_eq_true rfl) (Nat.le_of_ble_eq_true rfl) ⟨Nat.le_refl _, Nat.le_refl _⟩ ?_
      refine t_X9_in  ?_
      show z_Sem mX9_ifPinned (sh.length, 0) 28 [(0, z_r 161), (1, z_i x1), (2, z_i x2), (3, z_i x3)] [z_i (f_X9_in w x3 0 2)] (sh, w) Q
      refine z_if_ne (tgt := 33) dX9_ifPinned_28 (by decide) (fun c4 => ?_) (fun c4 => ?_)
      · replace h := h.2 c4
        refine z_iload_n 1 dX9_ifPinned_33 rfl rfl ?_
        refine z_if_eq (tgt := 45) dX9_ifPinned_34 (by decide) (fun c5 => ?_) (fun c5 => ?_)
        · replace h := h.1 c5
          refine z_bipush dX9_ifPinned_45 (by decide) (by decide) ?_
          exact z_ret (v := some (z_i (-3))) dX9_ifPinned_47 ⟨rfl, Or.inl rfl⟩ rfl rfl h
        · replace h := h.2 c5
          refine z_aload_n 0 dX9_ifPinned_37 rfl rfl ?_
          refine z_iload_n 1 dX9_ifPinned_38 rfl rfl ?_
          obtain ⟨q6, h⟩ := h
          refine z_callV (As := [z_i x1]) (rest := []) zmX9_isPinned znX9_isPinned zsX9_isPinned (show vwCl[9]? = some (RX9, TX9, 29) from rfl) zlRX9_103 ⟨Nat.le_of_ble_eq_true rfl, Nat.le_of_ble_eq_true rfl⟩ dX9_ifPinned_39 hh0.1 rfl rfl (z_ai z_a0) (Nat.le_of_ble_eq_true rfl) (Nat.le_of_ble_eq_true rfl) ⟨Nat.le_refl _, Nat.le_refl _⟩ ?_
          refine t_X9_isPinned hh0 q6 ?_
          show z_Sem mX9_ifPinned (sh.length, 0) 42 [(0, z_r 161), (1, z_i x1), (2, z_i x2), (3, z_i x3)] [z_i (f_X9_isPinned w x1)] (sh, w) Q
          refine z_if_eq (tgt := 48) dX9_ifPinned_42 (by decide) (fun c7 => ?_) (fun c7 => ?_)
          · replace h := h.1 c7
            refine z_aload_n 0 dX9_ifPinned_48 rfl rfl ?_
            refine z_callV (As := []) (rest := []) zmX9_keepsBounds znX9_keepsBounds zsX9_keepsBounds (show vwCl[9]? = some (RX9, TX9, 29) from rfl) zlRX9_326 ⟨Nat.le_of_ble_eq_true rfl, Nat.le_of_ble_eq_true rfl⟩ dX9_ifPinned_49 hh0.1 rfl rfl z_a0 (Nat.le_of_ble_eq_true rfl) (Nat.le_of_ble_eq_true rfl) ⟨Nat.le_refl _, Nat.le_refl _⟩ (z_CVm h ?_)
            intro w8 h
            show z_Sem mX9_ifPinned (sh.length, 0) 52 [(0, z_r 161), (1, z_i x1), (2, z_i x2), (3, z_i x3)] [] (sh, w8) Q
            refine z_aload_n 0 dX9_ifPinned_52 rfl rfl ?_
            refine z_callV (As := []) (rest := []) zmX9_begins znX9_begins zsX9_begins (show vwCl[9]? = some (RX9, TX9, 29) from rfl) zlRX9_69 ⟨Nat.le_of_ble_eq_true rfl, Nat.le_of_ble_eq_true rfl⟩ dX9_ifPinned_53 hh0.1 rfl rfl z_a0 (Nat.le_of_ble_eq_true rfl) (Nat.le_of_ble_eq_true rfl) ⟨Nat.le_refl _, Nat.le_refl _⟩ (z_CVm h ?_)
            intro w9 h
            show z_Sem mX9_ifPinned (sh.length, 0) 56 [(0, z_r 161), (1, z_i x1), (2, z_i x2), (3, z_i x3)] [] (sh, w9) Q
            refine z_aload_n 0 dX9_ifPinned_56 rfl rfl ?_
            refine z_getR (r := 163) zfRX9_17 dX9_ifPinned_57 hh0.1 rfl ?_
            refine z_sipush dX9_ifPinned_60 (by decide) (by decide) ?_
            refine z_iload_n 1 dX9_ifPinned_63 rfl rfl ?_
            obtain ⟨q10, h⟩ := h
            refine z_iadd dX9_ifPinned_64 q10 ?_
            refine z_iload_n 2 dX9_ifPinned_65 rfl rfl ?_
            refine z_iconst dX9_ifPinned_66 (by decide) ?_
            obtain ⟨q11, h⟩ := h
            refine z_iadd dX9_ifPinned_67 q11 ?_
            obtain ⟨q13, h⟩ := h
            refine z_iast dX9_ifPinned_68 hh0.2.2.1 q13 ?_
            refine z_genw (fun w12 hw12 => ?_)
            replace h := h w12 hw12
            refine z_aload_n 0 dX9_ifPinned_69 rfl rfl ?_
            refine z_iload_n 3 dX9_ifPinned_70 rfl rfl ?_
            refine z_callV (As := [z_i x3]) (rest := []) zmX9_tellsThen znX9_tellsThen zsX9_tellsThen (show vwCl[9]? = some (RX9, TX9, 29) from rfl) zlRX9_329 ⟨Nat.le_of_ble_eq_true rfl, Nat.le_of_ble_eq_true rfl⟩ dX9_ifPinned_71 hh0.1 rfl rfl (z_ai z_a0) (Nat.le_of_ble_eq_true rfl) (Nat.le_of_ble_eq_true rfl) ⟨Nat.le_refl _, Nat.le_refl _⟩ (z_CIm h ?_)
            intro y15 w14 h
            show z_Sem mX9_ifPinned (sh.length, 0) 74 [(0, z_r 161), (1, z_i x1), (2, z_i x2), (3, z_i x3)] [z_i y15] (sh, w14) Q
            exact z_ret (v := some (z_i y15)) dX9_ifPinned_74 ⟨rfl, Or.inl rfl⟩ rfl rfl h
          · replace h := h.2 c7
            refine z_bipush dX9_ifPinned_45 (by decide) (by decide) ?_
            exact z_ret (v := some (z_i (-3))) dX9_ifPinned_47 ⟨rfl, Or.inl rfl⟩ rfl rfl h
      · replace h := h.1 c4
        refine z_iconst dX9_ifPinned_31 (by decide) ?_
        exact z_ret (v := some (z_i (-1))) dX9_ifPinned_32 ⟨rfl, Or.inl rfl⟩ rfl rfl h
set_option maxRecDepth 100000 in
theorem t_X9_leastEnd {sh : List z_C} {w : Nat → Int → Int} {Q : Option z_V → z_S → Prop}  (hh0 : z_isMod sh 161) (h : z_CV mX9_begins [z_r 161] sh w (fun w1 => ∀ w2 : Nat → Int → Int, w2 = z_W w1 163 0 1 → z_Sem mX9_leastEnd (sh.length, 0) 13 [(0, z_r 161), (1, z_i 1)] [] (sh, w2) Q)) : z_Sem mX9_leastEnd (sh.length, 0) 0 [(0, z_r 161)] [] (sh, w) Q := by
  refine z_aload_n 0 dX9_leastEnd_0 rfl rfl ?_
  refine z_callV (As := []) (rest := []) zmX9_begins znX9_begins zsX9_begins (show vwCl[9]? = some (RX9, TX9, 29) from rfl) zlRX9_69 ⟨Nat.le_of_ble_eq_true rfl, Nat.le_of_ble_eq_true rfl⟩ dX9_leastEnd_1 hh0.1 rfl rfl z_a0 (Nat.le_of_ble_eq_true rfl) (Nat.le_of_ble_eq_true rfl) ⟨Nat.le_refl _, Nat.le_refl _⟩ (z_CVm h ?_)
  intro w1 h
  show z_Sem mX9_leastEnd (sh.length, 0) 4 [(0, z_r 161)] [] (sh, w1) Q
  refine z_iconst dX9_leastEnd_4 (by decide) ?_
  refine z_istore_n (L' := [(1, z_i 1), (0, z_r 161)]) dX9_leastEnd_5 rfl (by decide) rfl ?_
  refine z_aload_n 1 dX9_leastEnd_6 rfl rfl ?_
  refine z_getR (r := 163) zfRX9_17 dX9_leastEnd_7 hh0.1 rfl ?_
  refine z_iconst dX9_leastEnd_10 (by decide) ?_
  refine z_iconst dX9_leastEnd_11 (by decide) ?_
  refine z_iast dX9_leastEnd_12 hh0.2.2.1 (by decide) ?_
  refine z_genw (fun w2 hw2 => ?_)
  replace h := h w2 hw2
  refine z_sub (L' := [(0, z_r 161), (1, z_i 1)]) [1, 0] rfl ?_
  exact h
set_option maxRecDepth 100000 in
theorem t_X9_leastEnd_13 {sh : List z_C} {w : Nat → Int → Int} {Q : Option z_V → z_S → Prop} {x1 : Int} (hh0 : z_isMod sh 161) (h : z_CI mX9_lays [z_r 161] sh w (fun y2 w1 => ((y2 = 0 → (z_R (x1 + 1)) ∧ ∀ w7 : Nat → Int → Int, w7 = z_W w1 163 0 (x1 + 1) → z_Sem mX9_leastEnd (sh.length, 0) 13 [(0, z_r 161), (1, z_i (x1 + 1))] [] (sh, w7) Q) ∧ (¬ y2 = 0 → z_CI mX9_fails [z_r 161, z_i x1] sh w1 (fun y5 w4 => Q (some (z_i y5)) (sh, w4)))))) : z_Sem mX9_leastEnd (sh.length, 0) 13 [(0, z_r 161), (1, z_i x1)] [] (sh, w) Q := by
  refine z_aload_n 0 dX9_leastEnd_13 rfl rfl ?_
  refine z_callV (As := []) (rest := []) zmX9_lays znX9_lays zsX9_lays (show vwCl[9]? = some (RX9, TX9, 29) from rfl) zlRX9_126 ⟨Nat.le_of_ble_eq_true rfl, Nat.le_of_ble_eq_true rfl⟩ dX9_leastEnd_14 hh0.1 rfl rfl z_a0 (Nat.le_of_ble_eq_true rfl) (Nat.le_of_ble_eq_true rfl) ⟨Nat.le_refl _, Nat.le_refl _⟩ (z_CIm h ?_)
  intro y2 w1 h
  show z_Sem mX9_leastEnd (sh.length, 0) 17 [(0, z_r 161), (1, z_i x1)] [z_i y2] (sh, w1) Q
  refine z_if_ne (tgt := 33) dX9_leastEnd_17 (by decide) (fun c3 => ?_) (fun c3 => ?_)
  · replace h := h.2 c3
    refine z_aload_n 0 dX9_leastEnd_33 rfl rfl ?_
    refine z_iload_n 1 dX9_leastEnd_34 rfl rfl ?_
    refine z_callV (As := [z_i x1]) (rest := []) zmX9_fails znX9_fails zsX9_fails (show vwCl[9]? = some (RX9, TX9, 29) from rfl) zlRX9_137 ⟨Nat.le_of_ble_eq_true rfl, Nat.le_of_ble_eq_true rfl⟩ dX9_leastEnd_35 hh0.1 rfl rfl (z_ai z_a0) (Nat.le_of_ble_eq_true rfl) (Nat.le_of_ble_eq_true rfl) ⟨Nat.le_refl _, Nat.le_refl _⟩ (z_CIm h ?_)
    intro y5 w4 h
    show z_Sem mX9_leastEnd (sh.length, 0) 38 [(0, z_r 161), (1, z_i x1)] [z_i y5] (sh, w4) Q
    exact z_ret (v := some (z_i y5)) dX9_leastEnd_38 ⟨rfl, Or.inl rfl⟩ rfl rfl h
  · replace h := h.1 c3
    obtain ⟨q6, h⟩ := h
    refine z_iinc (L' := [(1, z_i (x1 + 1)), (0, z_r 161)]) 1 dX9_leastEnd_20 rfl (by decide) rfl q6 ?_
    refine z_aload_n 1 dX9_leastEnd_23 rfl rfl ?_
    refine z_getR (r := 163) zfRX9_17 dX9_leastEnd_24 hh0.1 rfl ?_
    refine z_iconst dX9_leastEnd_27 (by decide) ?_
    refine z_iload_n 0 dX9_leastEnd_28 rfl rfl ?_
    refine z_iast dX9_leastEnd_29 hh0.2.2.1 (by decide) ?_
    refine z_genw (fun w7 hw7 => ?_)
    replace h := h w7 hw7
    refine z_goto (tgt := 13) dX9_leastEnd_30 (by decide) ?_
    refine z_sub (L' := [(0, z_r 161), (1, z_i (x1 + 1))]) [1, 0] rfl ?_
    exact h
set_option maxRecDepth 100000 in
theorem t_X9_slowest {sh : List z_C} {w : Nat → Int → Int} {Q : Option z_V → z_S → Prop}  (hh0 : z_isMod sh 161) (h : z_Sem mX9_slowest (sh.length, 0) 7 [(0, z_r 161), (1, z_i (-2)), (2, z_i 0), (3, z_i 0)] [] (sh, w) Q) : z_Sem mX9_slowest (sh.length, 0) 0 [(0, z_r 161)] [] (sh, w) Q := by
  refine z_bipush dX9_slowest_0 (by decide) (by decide) ?_
  refine z_istore_n (L' := [(1, z_i (-2)), (0, z_r 161)]) dX9_slowest_2 rfl (by decide) rfl ?_
  refine z_iconst dX9_slowest_3 (by decide) ?_
  refine z_istore_n (L' := [(2, z_i 0), (1, z_i (-2)), (0, z_r 161)]) dX9_slowest_4 rfl (by decide) rfl ?_
  refine z_iconst dX9_slowest_5 (by decide) ?_
  refine z_istore_n (L' := [(3, z_i 0), (2, z_i 0), (1, z_i (-2)), (0, z_r 161)]) dX9_slowest_6 rfl (by decide) rfl ?_
  refine z_sub (L' := [(0, z_r 161), (1, z_i (-2)), (2, z_i 0), (3, z_i 0)]) [3, 2, 1, 0] rfl ?_
  exact h
set_option maxRecDepth 100000 in
theorem t_X9_slowest_7 {sh : List z_C} {w : Nat → Int → Int} {Q : Option z_V → z_S → Prop} {x1 : Int} {x2 : Int} {x3 : Int} (hh0 : z_isMod sh 161) (h : (((w 163 2) ≤ x3 → Q (some (z_i x1)) (sh, w)) ∧ (¬ (w 163 2) ≤ x3 → (s_X9_isOn w x3) ∧ (((f_X9_isOn w x3) = 0 → (z_R (x3 + 1)) ∧ z_Sem mX9_slowest (sh.length, 0) 7 [(0, z_r 161), (1, z_i x1), (2, z_i x2), (3, z_i (x3 + 1))] [] (sh, w) Q) ∧ (¬ (f_X9_isOn w x3) = 0 → z_CV mX9_puts [z_r 161, z_i x3, z_i 4, z_i 0] sh w (fun w5 => z_CI mX9_lays [z_r 161] sh w5 (fun y7 w6 => z_CV mX9_puts [z_r 161, z_i x3, z_i 4, z_i 1] sh w6 (fun w8 => ((x1 < 0 → z_CI mX9_greatestEarliest [z_r 161] sh w8 (fun y11 w10 => (z_R (x3 + 1)) ∧ z_Sem mX9_slowest (sh.length, 0) 7 [(0, z_r 161), (1, z_i x3), (2, z_i y11), (3, z_i (x3 + 1))] [] (sh, w10) Q)) ∧ (¬ x1 < 0 → z_CI mX9_greatestEarliest [z_r 161] sh w8 (fun y14 w13 => ((x2 ≤ y14 → (z_R (x3 + 1)) ∧ z_Sem mX9_slowest (sh.length, 0) 7 [(0, z_r 161), (1, z_i x1), (2, z_i x2), (3, z_i (x3 + 1))] [] (sh, w13) Q) ∧ (¬ x2 ≤ y14 → z_CI mX9_greatestEarliest [z_r 161] sh w13 (fun y18 w17 => (z_R (x3 + 1)) ∧ z_Sem mX9_slowest (sh.length, 0) 7 [(0, z_r 161), (1, z_i x3), (2, z_i y18), (3, z_i (x3 + 1))] [] (sh, w17) Q)))))))))))))) : z_Sem mX9_slowest (sh.length, 0) 7 [(0, z_r 161), (1, z_i x1), (2, z_i x2), (3, z_i x3)] [] (sh, w) Q := by
  refine z_iload_n 3 dX9_slowest_7 rfl rfl ?_
  refine z_aload_n 0 dX9_slowest_8 rfl rfl ?_
  refine z_getR (r := 163) zfRX9_17 dX9_slowest_9 hh0.1 rfl ?_
  refine z_iconst dX9_slowest_12 (by decide) ?_
  refine z_iald dX9_slowest_13 hh0.2.2.1 (by decide) ?_
  refine z_icmp_ge (tgt := 70) dX9_slowest_14 (by decide) (fun c1 => ?_) (fun c1 => ?_)
  · replace h := h.1 c1
    refine z_iload_n 1 dX9_slowest_70 rfl rfl ?_
    exact z_ret (v := some (z_i x1)) dX9_slowest_71 ⟨rfl, Or.inl rfl⟩ rfl rfl h
  · replace h := h.2 c1
    refine z_aload_n 0 dX9_slowest_17 rfl rfl ?_
    refine z_iload_n 3 dX9_slowest_18 rfl rfl ?_
    obtain ⟨q2, h⟩ := h
    refine z_callV (As := [z_i x3]) (rest := []) zmX9_isOn znX9_isOn zsX9_isOn (show vwCl[9]? = some (RX9, TX9, 29) from rfl) zlRX9_87 ⟨Nat.le_of_ble_eq_true rfl, Nat.le_of_ble_eq_true rfl⟩ dX9_slowest_19 hh0.1 rfl rfl (z_ai z_a0) (Nat.le_of_ble_eq_true rfl) (Nat.le_of_ble_eq_true rfl) ⟨Nat.le_refl _, Nat.le_refl _⟩ ?_
    refine t_X9_isOn hh0 q2 ?_
    show z_Sem mX9_slowest (sh.length, 0) 22 [(0, z_r 161), (1, z_i x1), (2, z_i x2), (3, z_i x3)] [z_i (f_X9_isOn w x3)] (sh, w) Q
    refine z_if_eq (tgt := 64) dX9_slowest_22 (by decide) (fun c3 => ?_) (fun c3 => ?_)
    · replace h := h.1 c3
      obtain ⟨q4, h⟩ := h
      refine z_iinc (L' := [(3, z_i (x3 + 1)), (0, z_r 161), (1, z_i x1), (2, z_i x2)]) 3 dX9_slowest_64 rfl (by decide) rfl q4 ?_
      refine z_goto (tgt := 7) dX9_slowest_67 (by decide) ?_
      refine z_sub (L' := [(0, z_r 161), (1, z_i x1), (2, z_i x2), (3, z_i (x3 + 1))]) [1, 2, 3, 0] rfl ?_
      exact h
    · replace h := h.2 c3
      refine z_aload_n 0 dX9_slowest_25 rfl rfl ?_
      refine z_iload_n 3 dX9_slowest_26 rfl rfl ?_
      refine z_iconst dX9_slowest_27 (by decide) ?_
      refine z_iconst dX9_slowest_28 (by decide) ?_
      refine z_callV (As := [z_i x3, z_i 4, z_i 0]) (rest := []) zmX9_puts znX9_puts zsX9_puts (show vwCl[9]? = some (RX9, TX9, 29) from rfl) zlRX9_133 ⟨Nat.le_of_ble_eq_true rfl, Nat.le_of_ble_eq_true rfl⟩ dX9_slowest_29 hh0.1 rfl rfl (z_ai (z_ai (z_ai z_a0))) (Nat.le_of_ble_eq_true rfl) (Nat.le_of_ble_eq_true rfl) ⟨Nat.le_refl _, Nat.le_refl _⟩ (z_CVm h ?_)
      intro w5 h
      show z_Sem mX9_slowest (sh.length, 0) 32 [(0, z_r 161), (1, z_i x1), (2, z_i x2), (3, z_i x3)] [] (sh, w5) Q
      refine z_aload_n 0 dX9_slowest_32 rfl rfl ?_
      refine z_callV (As := []) (rest := []) zmX9_lays znX9_lays zsX9_lays (show vwCl[9]? = some (RX9, TX9, 29) from rfl) zlRX9_126 ⟨Nat.le_of_ble_eq_true rfl, Nat.le_of_ble_eq_true rfl⟩ dX9_slowest_33 hh0.1 rfl rfl z_a0 (Nat.le_of_ble_eq_true rfl) (Nat.le_of_ble_eq_true rfl) ⟨Nat.le_refl _, Nat.le_refl _⟩ (z_CIm h ?_)
      intro y7 w6 h
      show z_Sem mX9_slowest (sh.length, 0) 36 [(0, z_r 161), (1, z_i x1), (2, z_i x2), (3, z_i x3)] [z_i y7] (sh, w6) Q
      refine z_istore (L' := [(4, z_i y7), (0, z_r 161), (1, z_i x1), (2, z_i x2), (3, z_i x3)]) dX9_slowest_36 (by decide) rfl ?_
      refine z_aload_n 1 dX9_slowest_38 rfl rfl ?_
      refine z_iload_n 4 dX9_slowest_39 rfl rfl ?_
      refine z_iconst dX9_slowest_40 (by decide) ?_
      refine z_iconst dX9_slowest_41 (by decide) ?_
      refine z_callV (As := [z_i x3, z_i 4, z_i 1]) (rest := []) zmX9_puts znX9_puts zsX9_puts (show vwCl[9]? = some (RX9, TX9, 29) from rfl) zlRX9_133 ⟨Nat.le_of_ble_eq_true rfl, Nat.le_of_ble_eq_true rfl⟩ dX9_slowest_42 hh0.1 rfl rfl (z_ai (z_ai (z_ai z_a0))) (Nat.le_of_ble_eq_true rfl) (Nat.le_of_ble_eq_true rfl) ⟨Nat.le_refl _, Nat.le_refl _⟩ (z_CVm h ?_)
      intro w8 h
      show z_Sem mX9_slowest (sh.length, 0) 45 [(4, z_i y7), (0, z_r 161), (1, z_i x1), (2, z_i x2), (3, z_i x3)] [] (sh, w8) Q
      refine z_iload_n 2 dX9_slowest_45 rfl rfl ?_
      refine z_if_lt (tgt := 57) dX9_slowest_46 (by decide) (fun c9 => ?_) (fun c9 => ?_)
      · replace h := h.1 c9
        refine z_iload_n 4 dX9_slowest_57 rfl rfl ?_
        refine z_istore_n (L' := [(1, z_i x3), (4, z_i y7), (0, z_r 161), (2, z_i x2), (3, z_i x3)]) dX9_slowest_58 rfl (by decide) rfl ?_
        refine z_aload_n 2 dX9_slowest_59 rfl rfl ?_
        refine z_callV (As := []) (rest := []) zmX9_greatestEarliest znX9_greatestEarliest zsX9_greatestEarliest (show vwCl[9]? = some (RX9, TX9, 29) from rfl) zlRX9_266 ⟨Nat.le_of_ble_eq_true rfl, Nat.le_of_ble_eq_true rfl⟩ dX9_slowest_60 hh0.1 rfl rfl z_a0 (Nat.le_of_ble_eq_true rfl) (Nat.le_of_ble_eq_true rfl) ⟨Nat.le_refl _, Nat.le_refl _⟩ (z_CIm h ?_)
        intro y11 w10 h
        show z_Sem mX9_slowest (sh.length, 0) 63 [(1, z_i x3), (4, z_i y7), (0, z_r 161), (2, z_i x2), (3, z_i x3)] [z_i y11] (sh, w10) Q
        refine z_istore_n (L' := [(2, z_i y11), (1, z_i x3), (4, z_i y7), (0, z_r 161), (3, z_i x3)]) dX9_slowest_63 rfl (by decide) rfl ?_
        obtain ⟨q12, h⟩ := h
        refine z_iinc (L' := [(3, z_i (x3 + 1)), (2, z_i y11), (1, z_i x3), (4, z_i y7), (0, z_r 161)]) 4 dX9_slowest_64 rfl (by decide) rfl q12 ?_
        refine z_goto (tgt := 7) dX9_slowest_67 (by decide) ?_
        refine z_sub (L' := [(0, z_r 161), (1, z_i x3), (2, z_i y11), (3, z_i (x3 + 1))]) [4, 2, 1, 0] rfl ?_
        exact h
      · replace h := h.2 c9
        refine z_aload_n 1 dX9_slowest_49 rfl rfl ?_
        refine z_callV (As := []) (rest := []) zmX9_greatestEarliest znX9_greatestEarliest zsX9_greatestEarliest (show vwCl[9]? = some (RX9, TX9, 29) from rfl) zlRX9_266 ⟨Nat.le_of_ble_eq_true rfl, Nat.le_of_ble_eq_true rfl⟩ dX9_slowest_50 hh0.1 rfl rfl z_a0 (Nat.le_of_ble_eq_true rfl) (Nat.le_of_ble_eq_true rfl) ⟨Nat.le_refl _, Nat.le_refl _⟩ (z_CIm h ?_)
        intro y14 w13 h
        show z_Sem mX9_slowest (sh.length, 0) 53 [(4, z_i y7), (0, z_r 161), (1, z_i x1), (2, z_i x2), (3, z_i x3)] [z_i y14] (sh, w13) Q
        refine z_iload_n 3 dX9_slowest_53 rfl rfl ?_
        refine z_icmp_ge (tgt := 64) dX9_slowest_54 (by decide) (fun c15 => ?_) (fun c15 => ?_)
        · replace h := h.1 c15
          obtain ⟨q16, h⟩ := h
          refine z_iinc (L' := [(3, z_i (x3 + 1)), (4, z_i y7), (0, z_r 161), (1, z_i x1), (2, z_i x2)]) 4 dX9_slowest_64 rfl (by decide) rfl q16 ?_
          refine z_goto (tgt := 7) dX9_slowest_67 (by decide) ?_
          refine z_sub (L' := [(0, z_r 161), (1, z_i x1), (2, z_i x2), (3, z_i (x3 + 1))]) [2, 3, 4, 0] rfl ?_
          exact h
        · replace h := h.2 c15
          refine z_iload_n 4 dX9_slowest_57 rfl rfl ?_
          refine z_istore_n (L' := [(1, z_i x3), (4, z_i y7), (0, z_r 161), (2, z_i x2), (3, z_i x3)]) dX9_slowest_58 rfl (by decide) rfl ?_
          refine z_aload_n 2 dX9_slowest_59 rfl rfl ?_
          refine z_callV (As := []) (rest := []) zmX9_greatestEarliest znX9_greatestEarliest zsX9_greatestEarliest (show vwCl[9]? = some (RX9, TX9, 29) from rfl) zlRX9_266 ⟨Nat.le_of_ble_eq_true rfl, Nat.le_of_ble_eq_true rfl⟩ dX9_slowest_60 hh0.1 rfl rfl z_a0 (Nat.le_of_ble_eq_true rfl) (Nat.le_of_ble_eq_true rfl) ⟨Nat.le_refl _, Nat.le_refl _⟩ (z_CIm h ?_)
          intro y18 w17 h
          show z_Sem mX9_slowest (sh.length, 0) 63 [(1, z_i x3), (4, z_i y7), (0, z_r 161), (2, z_i x2), (3, z_i x3)] [z_i y18] (sh, w17) Q
          refine z_istore_n (L' := [(2, z_i y18), (1, z_i x3), (4, z_i y7), (0, z_r 161), (3, z_i x3)]) dX9_slowest_63 rfl (by decide) rfl ?_
          obtain ⟨q19, h⟩ := h
          refine z_iinc (L' := [(3, z_i (x3 + 1)), (2, z_i y18), (1, z_i x3), (4, z_i y7), (0, z_r 161)]) 4 dX9_slowest_64 rfl (by decide) rfl q19 ?_
          refine z_goto (tgt := 7) dX9_slowest_67 (by decide) ?_
          refine z_sub (L' := [(0, z_r 161), (1, z_i x3), (2, z_i y18), (3, z_i (x3 + 1))]) [4, 2, 1, 0] rfl ?_
          exact h
set_option maxRecDepth 100000 in
theorem t_X9_tightShare {sh : List z_C} {w : Nat → Int → Int} {Q : Option z_V → z_S → Prop}  (hh0 : z_isMod sh 161) (h : z_CI mX9_onGaps [z_r 161] sh w (fun y2 w1 => ((y2 = 0 → Q (some (z_f (FP.fconst0))) (sh, w1)) ∧ (¬ y2 = 0 → z_CI mX9_tightGaps [z_r 161] sh w1 (fun y5 w4 => z_CI mX9_onGaps [z_r 161] sh w4 (fun y7 w6 => (vf_n32 (FP.fdiv (FP.i2f (Int32.ofInt y5)) (FP.i2f (Int32.ofInt y7)))) ∧ Q (some (z_f (FP.fdiv (FP.i2f (Int32.ofInt y5)) (FP.i2f (Int32.ofInt y7))))) (sh, w6))))))) : z_Sem mX9_tightShare (sh.length, 0) 0 [(0, z_r 161)] [] (sh, w) Q := by
  refine z_aload_n 0 dX9_tightShare_0 rfl rfl ?_
  refine z_callV (As := []) (rest := []) zmX9_onGaps znX9_onGaps zsX9_onGaps (show vwCl[9]? = some (RX9, TX9, 29) from rfl) zlRX9_254 ⟨Nat.le_of_ble_eq_true rfl, Nat.le_of_ble_eq_true rfl⟩ dX9_tightShare_1 hh0.1 rfl rfl z_a0 (Nat.le_of_ble_eq_true rfl) (Nat.le_of_ble_eq_true rfl) ⟨Nat.le_refl _, Nat.le_refl _⟩ (z_CIm h ?_)
  intro y2 w1 h
  show z_Sem mX9_tightShare (sh.length, 0) 4 [(0, z_r 161)] [z_i y2] (sh, w1) Q
  refine z_if_ne (tgt := 11) dX9_tightShare_4 (by decide) (fun c3 => ?_) (fun c3 => ?_)
  · replace h := h.2 c3
    refine z_aload_n 0 dX9_tightShare_11 rfl rfl ?_
    refine z_callV (As := []) (rest := []) zmX9_tightGaps znX9_tightGaps zsX9_tightGaps (show vwCl[9]? = some (RX9, TX9, 29) from rfl) zlRX9_257 ⟨Nat.le_of_ble_eq_true rfl, Nat.le_of_ble_eq_true rfl⟩ dX9_tightShare_12 hh0.1 rfl rfl z_a0 (Nat.le_of_ble_eq_true rfl) (Nat.le_of_ble_eq_true rfl) ⟨Nat.le_refl _, Nat.le_refl _⟩ (z_CIm h ?_)
    intro y5 w4 h
    show z_Sem mX9_tightShare (sh.length, 0) 15 [(0, z_r 161)] [z_i y5] (sh, w4) Q
    refine z_i2f dX9_tightShare_15 ?_
    refine z_aload_n 0 dX9_tightShare_16 rfl rfl ?_
    refine z_callV (As := []) (rest := [z_f (FP.i2f (Int32.ofInt y5))]) zmX9_onGaps znX9_onGaps zsX9_onGaps (show vwCl[9]? = some (RX9, TX9, 29) from rfl) zlRX9_254 ⟨Nat.le_of_ble_eq_true rfl, Nat.le_of_ble_eq_true rfl⟩ dX9_tightShare_17 hh0.1 rfl rfl z_a0 (Nat.le_of_ble_eq_true rfl) (Nat.le_of_ble_eq_true rfl) ⟨Nat.le_refl _, Nat.le_refl _⟩ (z_CIm h ?_)
    intro y7 w6 h
    show z_Sem mX9_tightShare (sh.length, 0) 20 [(0, z_r 161)] [z_i y7, z_f (FP.i2f (Int32.ofInt y5))] (sh, w6) Q
    refine z_i2f dX9_tightShare_20 ?_
    obtain ⟨q8, h⟩ := h
    refine z_fdiv dX9_tightShare_21 q8 ?_
    exact z_ret (v := some (z_f (FP.fdiv (FP.i2f (Int32.ofInt y5)) (FP.i2f (Int32.ofInt y7))))) dX9_tightShare_22 ⟨rfl, rfl⟩ rfl rfl h
  · replace h := h.1 c3
    refine z_fconst0 dX9_tightShare_7 ?_
    refine z_goto (tgt := 22) dX9_tightShare_8 (by decide) ?_
    exact z_ret (v := some (z_f (FP.fconst0))) dX9_tightShare_22 ⟨rfl, rfl⟩ rfl rfl h
set_option maxRecDepth 100000 in
theorem t_X9_meanRoom {sh : List z_C} {w : Nat → Int → Int} {Q : Option z_V → z_S → Prop}  (hh0 : z_isMod sh 161) (h : z_CI mX9_lays [z_r 161] sh w (fun y2 w1 => z_CI mX9_allRoom [z_r 161] sh w1 (fun y4 w3 => (vf_n64 (FP.ddiv (FP.i2d (Int32.ofInt y4)) (FP.i2d (Int32.ofInt (w3 163 1))))) ∧ Q (some (z_d (FP.ddiv (FP.i2d (Int32.ofInt y4)) (FP.i2d (Int32.ofInt (w3 163 1)))))) (sh, w3)))) : z_Sem mX9_meanRoom (sh.length, 0) 0 [(0, z_r 161)] [] (sh, w) Q := by
  refine z_aload_n 0 dX9_meanRoom_0 rfl rfl ?_
  refine z_callV (As := []) (rest := []) zmX9_lays znX9_lays zsX9_lays (show vwCl[9]? = some (RX9, TX9, 29) from rfl) zlRX9_126 ⟨Nat.le_of_ble_eq_true rfl, Nat.le_of_ble_eq_true rfl⟩ dX9_meanRoom_1 hh0.1 rfl rfl z_a0 (Nat.le_of_ble_eq_true rfl) (Nat.le_of_ble_eq_true rfl) ⟨Nat.le_refl _, Nat.le_refl _⟩ (z_CIm h ?_)
  intro y2 w1 h
  show z_Sem mX9_meanRoom (sh.length, 0) 4 [(0, z_r 161)] [z_i y2] (sh, w1) Q
  refine z_istore_n (L' := [(1, z_i y2), (0, z_r 161)]) dX9_meanRoom_4 rfl (by decide) rfl ?_
  refine z_aload_n 1 dX9_meanRoom_5 rfl rfl ?_
  refine z_callV (As := []) (rest := []) zmX9_allRoom znX9_allRoom zsX9_allRoom (show vwCl[9]? = some (RX9, TX9, 29) from rfl) zlRX9_169 ⟨Nat.le_of_ble_eq_true rfl, Nat.le_of_ble_eq_true rfl⟩ dX9_meanRoom_6 hh0.1 rfl rfl z_a0 (Nat.le_of_ble_eq_true rfl) (Nat.le_of_ble_eq_true rfl) ⟨Nat.le_refl _, Nat.le_refl _⟩ (z_CIm h ?_)
  intro y4 w3 h
  show z_Sem mX9_meanRoom (sh.length, 0) 9 [(1, z_i y2), (0, z_r 161)] [z_i y4] (sh, w3) Q
  refine z_i2d dX9_meanRoom_9 ?_
  refine z_aload_n 1 dX9_meanRoom_10 rfl rfl ?_
  refine z_getR (r := 163) zfRX9_17 dX9_meanRoom_11 hh0.1 rfl ?_
  refine z_iconst dX9_meanRoom_14 (by decide) ?_
  refine z_iald dX9_meanRoom_15 hh0.2.2.1 (by decide) ?_
  refine z_i2d dX9_meanRoom_16 ?_
  obtain ⟨q5, h⟩ := h
  refine z_ddiv dX9_meanRoom_17 q5 ?_
  exact z_ret (v := some (z_d (FP.ddiv (FP.i2d (Int32.ofInt y4)) (FP.i2d (Int32.ofInt (w3 163 1)))))) dX9_meanRoom_18 ⟨rfl, rfl⟩ rfl rfl h
set_option maxRecDepth 100000 in
theorem t_X9_says {sh : List z_C} {w : Nat → Int → Int} {Q : Option z_V → z_S → Prop} {x1 : Int} (hh0 : z_isMod sh 161) (h : ((0 : Int) ≤ (w 161 28) ∧ (w 161 28) < 1200) ∧ (z_i2bv (z_i2bv x1) = (z_i2bv x1)) ∧ ∀ w1 : Nat → Int → Int, w1 = z_W w 176 (w 161 28) (z_i2bv x1) → (z_R ((w1 161 28) + 1)) ∧ ∀ w5 : Nat → Int → Int, w5 = z_W w1 161 28 ((w1 161 28) + 1) → Q none (sh, w5)) : z_Sem mX9_says (sh.length, 0) 0 [(0, z_r 161), (1, z_i x1)] [] (sh, w) Q := by
  refine z_aload_n 0 dX9_says_0 rfl rfl ?_
  refine z_getR (r := 176) zfRX9_58 dX9_says_1 hh0.1 rfl ?_
  refine z_aload_n 0 dX9_says_4 rfl rfl ?_
  refine z_getI (ki := 28) zfRX9_332 dX9_says_5 hh0.1 rfl rfl ?_
  refine z_iload_n 1 dX9_says_8 rfl rfl ?_
  refine z_i2b dX9_says_9 ?_
  obtain ⟨q2, h⟩ := h
  obtain ⟨q3, h⟩ := h
  refine z_bast dX9_says_10 hh0.2.2.2.2.2.2.2.2.2.2.2.2.2.2.2 q2 q3 ?_
  refine z_genw (fun w1 hw1 => ?_)
  replace h := h w1 hw1
  refine z_aload_n 0 dX9_says_11 rfl rfl ?_
  refine z_dup dX9_says_12 rfl ?_
  refine z_getI (ki := 28) zfRX9_332 dX9_says_13 hh0.1 rfl rfl ?_
  refine z_iconst dX9_says_16 (by decide) ?_
  obtain ⟨q4, h⟩ := h
  refine z_iadd dX9_says_17 q4 ?_
  refine z_putI (ki := 28) zfRX9_332 dX9_says_18 hh0.1 rfl rfl ?_
  refine z_genw (fun w5 hw5 => ?_)
  replace h := h w5 hw5
  exact z_ret (v := none) dX9_says_21 ⟨rfl, rfl⟩ rfl rfl h
set_option maxRecDepth 100000 in
theorem t_X9_saysWord {sh : List z_C} {w : Nat → Int → Int} {Q : Option z_V → z_S → Prop} {x1 : Int} (hh0 : z_isMod sh 161) (h : z_Sem mX9_saysWord (sh.length, 0) 2 [(0, z_r 161), (1, z_i x1), (2, z_i 0)] [] (sh, w) Q) : z_Sem mX9_saysWord (sh.length, 0) 0 [(0, z_r 161), (1, z_i x1)] [] (sh, w) Q := by
  refine z_iconst dX9_saysWord_0 (by decide) ?_
  refine z_istore_n (L' := [(2, z_i 0), (0, z_r 161), (1, z_i x1)]) dX9_saysWord_1 rfl (by decide) rfl ?_
  refine z_sub (L' := [(0, z_r 161), (1, z_i x1), (2, z_i 0)]) [1, 2, 0] rfl ?_
  exact h
set_option maxRecDepth 100000 in
theorem t_X9_saysWord_2 {sh : List z_C} {w : Nat → Int → Int} {Q : Option z_V → z_S → Prop} {x1 : Int} {x2 : Int} (hh0 : z_isMod sh 161) (h : z_CI mX9_lettersOf [z_i x1] sh w (fun y2 w1 => ((y2 ≤ x2 → Q none (sh, w1)) ∧ (¬ y2 ≤ x2 → z_CI mX9_letterOf [z_i x1, z_i x2] sh w1 (fun y5 w4 => (z_R (96 + y5)) ∧ z_CV mX9_says [z_r 161, z_i (96 + y5)] sh w4 (fun w7 => (z_R (x2 + 1)) ∧ z_Sem mX9_saysWord (sh.length, 0) 2 [(0, z_r 161), (1, z_i x1), (2, z_i (x2 + 1))] [] (sh, w7) Q)))))) : z_Sem mX9_saysWord (sh.length, 0) 2 [(0, z_r 161), (1, z_i x1), (2, z_i x2)] [] (sh, w) Q := by
  refine z_iload_n 2 dX9_saysWord_2 rfl rfl ?_
  refine z_iload_n 1 dX9_saysWord_3 rfl rfl ?_
  refine z_callS (As := [z_i x1]) (rest := [z_i x2]) zmX9_lettersOf ztX9_lettersOf zlRX9_269 ⟨Nat.le_of_ble_eq_true rfl, Nat.le_of_ble_eq_true rfl⟩ dX9_saysWord_4 rfl rfl (z_ai z_a0) (Nat.le_of_ble_eq_true rfl) (Nat.le_of_ble_eq_true rfl) ⟨Nat.le_refl _, Nat.le_refl _⟩ (z_CIm h ?_)
  intro y2 w1 h
  show z_Sem mX9_saysWord (sh.length, 0) 7 [(0, z_r 161), (1, z_i x1), (2, z_i x2)] [z_i y2, z_i x2] (sh, w1) Q
  refine z_icmp_ge (tgt := 28) dX9_saysWord_7 (by decide) (fun c3 => ?_) (fun c3 => ?_)
  · replace h := h.1 c3
    exact z_ret (v := none) dX9_saysWord_28 ⟨rfl, rfl⟩ rfl rfl h
  · replace h := h.2 c3
    refine z_aload_n 0 dX9_saysWord_10 rfl rfl ?_
    refine z_bipush dX9_saysWord_11 (by decide) (by decide) ?_
    refine z_iload_n 1 dX9_saysWord_13 rfl rfl ?_
    refine z_iload_n 2 dX9_saysWord_14 rfl rfl ?_
    refine z_callS (As := [z_i x1, z_i x2]) (rest := [z_i 96, z_r 161]) zmX9_letterOf ztX9_letterOf zlRX9_272 ⟨Nat.le_of_ble_eq_true rfl, Nat.le_of_ble_eq_true rfl⟩ dX9_saysWord_15 rfl rfl (z_ai (z_ai z_a0)) (Nat.le_of_ble_eq_true rfl) (Nat.le_of_ble_eq_true rfl) ⟨Nat.le_refl _, Nat.le_refl _⟩ (z_CIm h ?_)
    intro y5 w4 h
    show z_Sem mX9_saysWord (sh.length, 0) 18 [(0, z_r 161), (1, z_i x1), (2, z_i x2)] [z_i y5, z_i 96, z_r 161] (sh, w4) Q
    obtain ⟨q6, h⟩ := h
    refine z_iadd dX9_saysWord_18 q6 ?_
    refine z_callV (As := [z_i (96 + y5)]) (rest := []) zmX9_says znX9_says zsX9_says (show vwCl[9]? = some (RX9, TX9, 29) from rfl) zlRX9_335 ⟨Nat.le_of_ble_eq_true rfl, Nat.le_of_ble_eq_true rfl⟩ dX9_saysWord_19 hh0.1 rfl rfl (z_ai z_a0) (Nat.le_of_ble_eq_true rfl) (Nat.le_of_ble_eq_true rfl) ⟨Nat.le_refl _, Nat.le_refl _⟩ (z_CVm h ?_)
    intro w7 h
    show z_Sem mX9_saysWord (sh.length, 0) 22 [(0, z_r 161), (1, z_i x1), (2, z_i x2)] [] (sh, w7) Q
    obtain ⟨q8, h⟩ := h
    refine z_iinc (L' := [(2, z_i (x2 + 1)), (0, z_r 161), (1, z_i x1)]) 2 dX9_saysWord_22 rfl (by decide) rfl q8 ?_
    refine z_goto (tgt := 2) dX9_saysWord_25 (by decide) ?_
    refine z_sub (L' := [(0, z_r 161), (1, z_i x1), (2, z_i (x2 + 1))]) [1, 2, 0] rfl ?_
    exact h
set_option maxRecDepth 100000 in
theorem t_X9_saysNumber {sh : List z_C} {w : Nat → Int → Int} {Q : Option z_V → z_S → Prop} {x1 : Int} (hh0 : z_isMod sh 161) (h : z_Sem mX9_saysNumber (sh.length, 0) 2 [(0, z_r 161), (1, z_i x1), (2, z_i 1)] [] (sh, w) Q) : z_Sem mX9_saysNumber (sh.length, 0) 0 [(0, z_r 161), (1, z_i x1)] [] (sh, w) Q := by
  refine z_iconst dX9_saysNumber_0 (by decide) ?_
  refine z_istore_n (L' := [(2, z_i 1), (0, z_r 161), (1, z_i x1)]) dX9_saysNumber_1 rfl (by decide) rfl ?_
  refine z_sub (L' := [(0, z_r 161), (1, z_i x1), (2, z_i 1)]) [1, 2, 0] rfl ?_
  exact h
set_option maxRecDepth 100000 in
theorem t_X9_saysNumber_2 {sh : List z_C} {w : Nat → Int → Int} {Q : Option z_V → z_S → Prop} {x1 : Int} {x2 : Int} (hh0 : z_isMod sh 161) (h : ((0 : Int) < x2) ∧ (((x1.tdiv x2) ≤ 9 → z_Sem mX9_saysNumber (sh.length, 0) 18 [(0, z_r 161), (1, z_i x1), (2, z_i x2)] [] (sh, w) Q) ∧ (¬ (x1.tdiv x2) ≤ 9 → (z_R (x2 * 10)) ∧ z_Sem mX9_saysNumber (sh.length, 0) 2 [(0, z_r 161), (1, z_i x1), (2, z_i (x2 * 10))] [] (sh, w) Q))) : z_Sem mX9_saysNumber (sh.length, 0) 2 [(0, z_r 161), (1, z_i x1), (2, z_i x2)] [] (sh, w) Q := by
  refine z_iload_n 1 dX9_saysNumber_2 rfl rfl ?_
  refine z_iload_n 2 dX9_saysNumber_3 rfl rfl ?_
  obtain ⟨q1, h⟩ := h
  refine z_idiv dX9_saysNumber_4 q1 ?_
  refine z_bipush dX9_saysNumber_5 (by decide) (by decide) ?_
  refine z_icmp_le (tgt := 18) dX9_saysNumber_7 (by decide) (fun c2 => ?_) (fun c2 => ?_)
  · replace h := h.1 c2
    exact h
  · replace h := h.2 c2
    refine z_iload_n 2 dX9_saysNumber_10 rfl rfl ?_
    refine z_bipush dX9_saysNumber_11 (by decide) (by decide) ?_
    obtain ⟨q3, h⟩ := h
    refine z_imul dX9_saysNumber_13 q3 ?_
    refine z_istore_n (L' := [(2, z_i (x2 * 10)), (0, z_r 161), (1, z_i x1)]) dX9_saysNumber_14 rfl (by decide) rfl ?_
    refine z_goto (tgt := 2) dX9_saysNumber_15 (by decide) ?_
    refine z_sub (L' := [(0, z_r 161), (1, z_i x1), (2, z_i (x2 * 10))]) [1, 2, 0] rfl ?_
    exact h
set_option maxRecDepth 100000 in
theorem t_X9_saysNumber_18 {sh : List z_C} {w : Nat → Int → Int} {Q : Option z_V → z_S → Prop} {x1 : Int} {x2 : Int} (hh0 : z_isMod sh 161) (h : ((x2 ≤ 0 → Q none (sh, w)) ∧ (¬ x2 ≤ 0 → ((0 : Int) < x2) ∧ (z_R (48 + ((x1.tdiv x2).tmod 10))) ∧ z_CV mX9_says [z_r 161, z_i (48 + ((x1.tdiv x2).tmod 10))] sh w (fun w4 => z_Sem mX9_saysNumber (sh.length, 0) 18 [(0, z_r 161), (1, z_i x1), (2, z_i (x2.tdiv 10))] [] (sh, w4) Q)))) : z_Sem mX9_saysNumber (sh.length, 0) 18 [(0, z_r 161), (1, z_i x1), (2, z_i x2)] [] (sh, w) Q := by
  refine z_iload_n 2 dX9_saysNumber_18 rfl rfl ?_
  refine z_if_le (tgt := 43) dX9_saysNumber_19 (by decide) (fun c1 => ?_) (fun c1 => ?_)
  · replace h := h.1 c1
    exact z_ret (v := none) dX9_saysNumber_43 ⟨rfl, rfl⟩ rfl rfl h
  · replace h := h.2 c1
    refine z_aload_n 0 dX9_saysNumber_22 rfl rfl ?_
    refine z_bipush dX9_saysNumber_23 (by decide) (by decide) ?_
    refine z_iload_n 1 dX9_saysNumber_25 rfl rfl ?_
    refine z_iload_n 2 dX9_saysNumber_26 rfl rfl ?_
    obtain ⟨q2, h⟩ := h
    refine z_idiv dX9_saysNumber_27 q2 ?_
    refine z_bipush dX9_saysNumber_28 (by decide) (by decide) ?_
    refine z_irem dX9_saysNumber_30 (by decide) ?_
    obtain ⟨q3, h⟩ := h
    refine z_iadd dX9_saysNumber_31 q3 ?_
    refine z_callV (As := [z_i (48 + ((x1.tdiv x2).tmod 10))]) (rest := []) zmX9_says znX9_says zsX9_says (show vwCl[9]? = some (RX9, TX9, 29) from rfl) zlRX9_335 ⟨Nat.le_of_ble_eq_true rfl, Nat.le_of_ble_eq_true rfl⟩ dX9_saysNumber_32 hh0.1 rfl rfl (z_ai z_a0) (Nat.le_of_ble_eq_true rfl) (Nat.le_of_ble_eq_true rfl) ⟨Nat.le_refl _, Nat.le_refl _⟩ (z_CVm h ?_)
    intro w4 h
    show z_Sem mX9_saysNumber (sh.length, 0) 35 [(0, z_r 161), (1, z_i x1), (2, z_i x2)] [] (sh, w4) Q
    refine z_iload_n 2 dX9_saysNumber_35 rfl rfl ?_
    refine z_bipush dX9_saysNumber_36 (by decide) (by decide) ?_
    refine z_idiv dX9_saysNumber_38 (by decide) ?_
    refine z_istore_n (L' := [(2, z_i (x2.tdiv 10)), (0, z_r 161), (1, z_i x1)]) dX9_saysNumber_39 rfl (by decide) rfl ?_
    refine z_goto (tgt := 18) dX9_saysNumber_40 (by decide) ?_
    refine z_sub (L' := [(0, z_r 161), (1, z_i x1), (2, z_i (x2.tdiv 10))]) [1, 2, 0] rfl ?_
    exact h
set_option maxRecDepth 100000 in
theorem t_X9_saysKey {sh : List z_C} {w : Nat → Int → Int} {Q : Option z_V → z_S → Prop} {x1 : Int} {x2 : Int} (hh0 : z_isMod sh 161) (h : z_CV mX9_saysWord [z_r 161, z_i x1] sh w (fun w1 => z_CV mX9_says [z_r 161, z_i 32] sh w1 (fun w2 => z_CV mX9_saysNumber [z_r 161, z_i x2] sh w2 (fun w3 => Q none (sh, w3))))) : z_Sem mX9_saysKey (sh.length, 0) 0 [(0, z_r 161), (1, z_i x1), (2, z_i x2)] [] (sh, w) Q := by
  refine z_aload_n 0 dX9_saysKey_0 rfl rfl ?_
  refine z_iload_n 1 dX9_saysKey_1 rfl rfl ?_
  refine z_callV (As := [z_i x1]) (rest := []) zmX9_saysWord znX9_saysWord zsX9_saysWord (show vwCl[9]? = some (RX9, TX9, 29) from rfl) zlRX9_338 ⟨Nat.le_of_ble_eq_true rfl, Nat.le_of_ble_eq_true rfl⟩ dX9_saysKey_2 hh0.1 rfl rfl (z_ai z_a0) (Nat.le_of_ble_eq_true rfl) (Nat.le_of_ble_eq_true rfl) ⟨Nat.le_refl _, Nat.le_refl _⟩ (z_CVm h ?_)
  intro w1 h
  show z_Sem mX9_saysKey (sh.length, 0) 5 [(0, z_r 161), (1, z_i x1), (2, z_i x2)] [] (sh, w1) Q
  refine z_aload_n 0 dX9_saysKey_5 rfl rfl ?_
  refine z_bipush dX9_saysKey_6 (by decide) (by decide) ?_
  refine z_callV (As := [z_i 32]) (rest := []) zmX9_says znX9_says zsX9_says (show vwCl[9]? = some (RX9, TX9, 29) from rfl) zlRX9_335 ⟨Nat.le_of_ble_eq_true rfl, Nat.le_of_ble_eq_true rfl⟩ dX9_saysKey_8 hh0.1 rfl rfl (z_ai z_a0) (Nat.le_of_ble_eq_true rfl) (Nat.le_of_ble_eq_true rfl) ⟨Nat.le_refl _, Nat.le_refl _⟩ (z_CVm h ?_)
  intro w2 h
  show z_Sem mX9_saysKey (sh.length, 0) 11 [(0, z_r 161), (1, z_i x1), (2, z_i x2)] [] (sh, w2) Q
  refine z_aload_n 0 dX9_saysKey_11 rfl rfl ?_
  refine z_iload_n 2 dX9_saysKey_12 rfl rfl ?_
  refine z_callV (As := [z_i x2]) (rest := []) zmX9_saysNumber znX9_saysNumber zsX9_saysNumber (show vwCl[9]? = some (RX9, TX9, 29) from rfl) zlRX9_341 ⟨Nat.le_of_ble_eq_true rfl, Nat.le_of_ble_eq_true rfl⟩ dX9_saysKey_13 hh0.1 rfl rfl (z_ai z_a0) (Nat.le_of_ble_eq_true rfl) (Nat.le_of_ble_eq_true rfl) ⟨Nat.le_refl _, Nat.le_refl _⟩ (z_CVm h ?_)
  intro w3 h
  show z_Sem mX9_saysKey (sh.length, 0) 16 [(0, z_r 161), (1, z_i x1), (2, z_i x2)] [] (sh, w3) Q
  exact z_ret (v := none) dX9_saysKey_16 ⟨rfl, rfl⟩ rfl rfl h
set_option maxRecDepth 100000 in
theorem t_X9_saysEvent {sh : List z_C} {w : Nat → Int → Int} {Q : Option z_V → z_S → Prop} {x1 : Int} (hh0 : z_isMod sh 161) (h : z_CV mX9_says [z_r 161, z_i 32] sh w (fun w1 => (z_R (3 + x1)) ∧ ((0 : Int) ≤ (3 + x1) ∧ (3 + x1) < 264) ∧ z_CV mX9_saysWord [z_r 161, z_i (w1 163 (3 + x1))] sh w1 (fun w4 => Q none (sh, w4)))) : z_Sem mX9_saysEvent (sh.length, 0) 0 [(0, z_r 161), (1, z_i x1)] [] (sh, w) Q := by
  refine z_aload_n 0 dX9_saysEvent_0 rfl rfl ?_
  refine z_bipush dX9_saysEvent_1 (by decide) (by decide) ?_
  refine z_callV (As := [z_i 32]) (rest := []) zmX9_says znX9_says zsX9_says (show vwCl[9]? = some (RX9, TX9, 29) from rfl) zlRX9_335 ⟨Nat.le_of_ble_eq_true rfl, Nat.le_of_ble_eq_true rfl⟩ dX9_saysEvent_3 hh0.1 rfl rfl (z_ai z_a0) (Nat.le_of_ble_eq_true rfl) (Nat.le_of_ble_eq_true rfl) ⟨Nat.le_refl _, Nat.le_refl _⟩ (z_CVm h ?_)
  intro w1 h
  show z_Sem mX9_saysEvent (sh.length, 0) 6 [(0, z_r 161), (1, z_i x1)] [] (sh, w1) Q
  refine z_aload_n 0 dX9_saysEvent_6 rfl rfl ?_
  refine z_aload_n 0 dX9_saysEvent_7 rfl rfl ?_
  refine z_getR (r := 163) zfRX9_17 dX9_saysEvent_8 hh0.1 rfl ?_
  refine z_iconst dX9_saysEvent_11 (by decide) ?_
  refine z_iload_n 1 dX9_saysEvent_12 rfl rfl ?_
  obtain ⟨q2, h⟩ := h
  refine z_iadd dX9_saysEvent_13 q2 ?_
  obtain ⟨q3, h⟩ := h
  refine z_iald dX9_saysEvent_14 hh0.2.2.1 q3 ?_
  refine z_callV (As := [z_i (w1 163 (3 + x1))]) (rest := []) zmX9_saysWord znX9_saysWord zsX9_saysWord (show vwCl[9]? = some (RX9, TX9, 29) from rfl) zlRX9_338 ⟨Nat.le_of_ble_eq_true rfl, Nat.le_of_ble_eq_true rfl⟩ dX9_saysEvent_15 hh0.1 rfl rfl (z_ai z_a0) (Nat.le_of_ble_eq_true rfl) (Nat.le_of_ble_eq_true rfl) ⟨Nat.le_refl _, Nat.le_refl _⟩ (z_CVm h ?_)
  intro w4 h
  show z_Sem mX9_saysEvent (sh.length, 0) 18 [(0, z_r 161), (1, z_i x1)] [] (sh, w4) Q
  exact z_ret (v := none) dX9_saysEvent_18 ⟨rfl, rfl⟩ rfl rfl h
def f_X9_toldByte (w : Nat → Int → Int) (x1 : Int) : Int := if 0 ≤ x1 then (if (w 161 28) ≤ x1 then -2 else w 176 x1) else -1
def s_X9_toldByte (w : Nat → Int → Int) (x1 : Int) : Prop := (0 ≤ x1 → (¬ (w 161 28) ≤ x1 → ((0 : Int) ≤ x1 ∧ x1 < 1200) ∧ True) ∧ True) ∧ True
set_option maxRecDepth 100000 in
theorem t_X9_toldByte {sh : List z_C} {w : Nat → Int → Int} {Q : Option z_V → z_S → Prop} {x1 : Int} (hh0 : z_isMod sh 161) (hs : s_X9_toldByte w x1) (h : Q (some (z_i (f_X9_toldByte w x1))) (sh, w)) : z_Sem mX9_toldByte (sh.length, 0) 0 [(0, z_r 161), (1, z_i x1)] [] (sh, w) Q := by
  unfold f_X9_toldByte at h
  unfold s_X9_toldByte at hs
  refine z_iload_n 1 dX9_toldByte_0 rfl rfl ?_
  obtain ⟨m3, hs⟩ := hs
  suffices hJ1 : z_Sem mX9_toldByte (sh.length, 0) 27 [] [z_i (if 0 ≤ x1 then (if (w 161 28) ≤ x1 then -2 else w 176 x1) else -1)] (sh, w) Q by
    refine z_if_ge (tgt := 8) dX9_toldByte_1 (by decide) (fun c2 => ?_) (fun c2 => ?_)
    · skip
      have ho4 := m3 c2
      refine z_iload_n 1 dX9_toldByte_8 rfl rfl ?_
      refine z_aload_n 0 dX9_toldByte_9 rfl rfl ?_
      refine z_getI (ki := 28) zfRX9_332 dX9_toldByte_10 hh0.1 rfl rfl ?_
      obtain ⟨m7, ho4⟩ := ho4
      suffices hJ5 : z_Sem mX9_toldByte (sh.length, 0) 27 [] [z_i (if (w 161 28) ≤ x1 then -2 else w 176 x1)] (sh, w) Q by
        refine z_icmp_ge (tgt := 25) dX9_toldByte_13 (by decide) (fun c6 => ?_) (fun c6 => ?_)
        · skip
          refine z_bipush dX9_toldByte_25 (by decide) (by decide) ?_
          refine z_sub (L' := []) [] rfl ?_
          simp only [if_pos c6] at hJ5
          exact hJ5
        · skip
          have ho9 := m7 c6
          refine z_aload_n 0 dX9_toldByte_16 rfl rfl ?_
          refine z_getR (r := 176) zfRX9_58 dX9_toldByte_17 hh0.1 rfl ?_
          refine z_iload_n 1 dX9_toldByte_20 rfl rfl ?_
          obtain ⟨q10, ho9⟩ := ho9
          refine z_bald dX9_toldByte_21 hh0.2.2.2.2.2.2.2.2.2.2.2.2.2.2.2 q10 ?_
          refine z_goto (tgt := 27) dX9_toldByte_22 (by decide) ?_
          refine z_sub (L' := []) [] rfl ?_
          simp only [if_neg c6] at hJ5
          exact hJ5
      simp only [if_pos c2] at hJ1
      exact hJ1
    · skip
      refine z_iconst dX9_toldByte_4 (by decide) ?_
      refine z_goto (tgt := 27) dX9_toldByte_5 (by decide) ?_
      refine z_sub (L' := []) [] rfl ?_
      simp only [if_neg c2] at hJ1
      exact hJ1
  exact z_ret (v := some (z_i (if 0 ≤ x1 then (if (w 161 28) ≤ x1 then -2 else w 176 x1) else -1))) dX9_toldByte_27 ⟨rfl, Or.inl rfl⟩ rfl rfl h
set_option maxRecDepth 100000 in
theorem t_X9_writesList {sh : List z_C} {w : Nat → Int → Int} {Q : Option z_V → z_S → Prop}  (hh0 : z_isMod sh 161) (h : ∀ w1 : Nat → Int → Int, w1 = z_W w 161 28 0 → z_CI mX9_lays [z_r 161] sh w1 (fun y3 w2 => z_Sem mX9_writesList (sh.length, 0) 12 [(0, z_r 161), (2, z_i 0)] [] (sh, w2) Q)) : z_Sem mX9_writesList (sh.length, 0) 0 [(0, z_r 161)] [] (sh, w) Q := by
  refine z_aload_n 0 dX9_writesList_0 rfl rfl ?_
  refine z_iconst dX9_writesList_1 (by decide) ?_
  refine z_putI (ki := 28) zfRX9_332 dX9_writesList_2 hh0.1 rfl rfl ?_
  refine z_genw (fun w1 hw1 => ?_)
  replace h := h w1 hw1
  refine z_aload_n 0 dX9_writesList_5 rfl rfl ?_
  refine z_callV (As := []) (rest := []) zmX9_lays znX9_lays zsX9_lays (show vwCl[9]? = some (RX9, TX9, 29) from rfl) zlRX9_126 ⟨Nat.le_of_ble_eq_true rfl, Nat.le_of_ble_eq_true rfl⟩ dX9_writesList_6 hh0.1 rfl rfl z_a0 (Nat.le_of_ble_eq_true rfl) (Nat.le_of_ble_eq_true rfl) ⟨Nat.le_refl _, Nat.le_refl _⟩ (z_CIm h ?_)
  intro y3 w2 h
  show z_Sem mX9_writesList (sh.length, 0) 9 [(0, z_r 161)] [z_i y3] (sh, w2) Q
  refine z_istore_n (L' := [(1, z_i y3), (0, z_r 161)]) dX9_writesList_9 rfl (by decide) rfl ?_
  refine z_iconst dX9_writesList_10 (by decide) ?_
  refine z_istore_n (L' := [(2, z_i 0), (1, z_i y3), (0, z_r 161)]) dX9_writesList_11 rfl (by decide) rfl ?_
  refine z_sub (L' := [(0, z_r 161), (2, z_i 0)]) [2, 0] rfl ?_
  exact h
set_option maxRecDepth 100000 in
theorem t_X9_writesList_12 {sh : List z_C} {w : Nat → Int → Int} {Q : Option z_V → z_S → Prop} {x2 : Int} (hh0 : z_isMod sh 161) (h : (((w 163 1) ≤ x2 → Q none (sh, w)) ∧ (¬ (w 163 1) ≤ x2 → (z_R (3 + x2)) ∧ ((0 : Int) ≤ (3 + x2) ∧ (3 + x2) < 264) ∧ (s_X9_earliest w x2) ∧ z_CV mX9_saysKey [z_r 161, z_i (w 163 (3 + x2)), z_i (f_X9_earliest w x2)] sh w (fun w5 => (s_X9_roomOf w5 x2) ∧ (((f_X9_roomOf w5 x2) ≤ 0 → (s_X9_isPinned w5 x2) ∧ (((f_X9_isPinned w5 x2) = 0 → z_CV mX9_says [z_r 161, z_i 10] sh w5 (fun w10 => (z_R (x2 + 1)) ∧ z_Sem mX9_writesList (sh.length, 0) 12 [(0, z_r 161), (2, z_i (x2 + 1))] [] (sh, w10) Q)) ∧ (¬ (f_X9_isPinned w5 x2) = 0 → z_CV mX9_says [z_r 161, z_i 33] sh w5 (fun w12 => z_CV mX9_says [z_r 161, z_i 10] sh w12 (fun w13 => (z_R (x2 + 1)) ∧ z_Sem mX9_writesList (sh.length, 0) 12 [(0, z_r 161), (2, z_i (x2 + 1))] [] (sh, w13) Q))))) ∧ (¬ (f_X9_roomOf w5 x2) ≤ 0 → z_CV mX9_says [z_r 161, z_i 45] sh w5 (fun w15 => (s_X9_latest w15 x2) ∧ z_CV mX9_saysNumber [z_r 161, z_i (f_X9_latest w15 x2)] sh w15 (fun w17 => (s_X9_isPinned w17 x2) ∧ (((f_X9_isPinned w17 x2) = 0 → z_CV mX9_says [z_r 161, z_i 10] sh w17 (fun w20 => (z_R (x2 + 1)) ∧ z_Sem mX9_writesList (sh.length, 0) 12 [(0, z_r 161), (2, z_i (x2 + 1))] [] (sh, w20) Q)) ∧ (¬ (f_X9_isPinned w17 x2) = 0 → z_CV mX9_says [z_r 161, z_i 33] sh w17 (fun w22 => z_CV mX9_says [z_r 161, z_i 10] sh w22 (fun w23 => (z_R (x2 + 1)) ∧ z_Sem mX9_writesList (sh.length, 0) 12 [(0, z_r 161), (2, z_i (x2 + 1))] [] (sh, w23) Q)))))))))))) : z_Sem mX9_writesList (sh.length, 0) 12 [(0, z_r 161), (2, z_i x2)] [] (sh, w) Q := by
  refine z_iload_n 1 dX9_writesList_12 rfl rfl ?_
  refine z_aload_n 0 dX9_writesList_13 rfl rfl ?_
  refine z_getR (r := 163) zfRX9_17 dX9_writesList_14 hh0.1 rfl ?_
  refine z_iconst dX9_writesList_17 (by decide) ?_
  refine z_iald dX9_writesList_18 hh0.2.2.1 (by decide) ?_
  refine z_icmp_ge (tgt := 88) dX9_writesList_19 (by decide) (fun c1 => ?_) (fun c1 => ?_)
  · replace h := h.1 c1
    exact z_ret (v := none) dX9_writesList_88 ⟨rfl, rfl⟩ rfl rfl h
  · replace h := h.2 c1
    refine z_aload_n 0 dX9_writesList_22 rfl rfl ?_
    refine z_aload_n 0 dX9_writesList_23 rfl rfl ?_
    refine z_getR (r := 163) zfRX9_17 dX9_writesList_24 hh0.1 rfl ?_
    refine z_iconst dX9_writesList_27 (by decide) ?_
    refine z_iload_n 1 dX9_writesList_28 rfl rfl ?_
    obtain ⟨q2, h⟩ := h
    refine z_iadd dX9_writesList_29 q2 ?_
    obtain ⟨q3, h⟩ := h
    refine z_iald dX9_writesList_30 hh0.2.2.1 q3 ?_
    refine z_aload_n 0 dX9_writesList_31 rfl rfl ?_
    refine z_iload_n 1 dX9_writesList_32 rfl rfl ?_
    obtain ⟨q4, h⟩ := h
    refine z_callV (As := [z_i x2]) (rest := [z_i (w 163 (3 + x2)), z_r 161]) zmX9_earliest znX9_earliest zsX9_earliest (show vwCl[9]? = some (RX9, TX9, 29) from rfl) zlRX9_120 ⟨Nat.le_of_ble_eq_true rfl, Nat.le_of_ble_eq_true rfl⟩ dX9_writesList_33 hh0.1 rfl rfl (z_ai z_a0) (Nat.le_of_ble_eq_true rfl) (Nat.le_of_ble_eq_true rfl) ⟨Nat.le_refl _, Nat.le_refl _⟩ ?_
    refine t_X9_earliest hh0 q4 ?_
    show z_Sem mX9_writesList (sh.length, 0) 36 [(0, z_r 161), (2, z_i x2)] [z_i (f_X9_earliest w x2), z_i (w 163 (3 + x2)), z_r 161] (sh, w) Q
    refine z_callV (As := [z_i (w 163 (3 + x2)), z_i (f_X9_earliest w x2)]) (rest := []) zmX9_saysKey znX9_saysKey zsX9_saysKey (show vwCl[9]? = some (RX9, TX9, 29) from rfl) zlRX9_344 ⟨Nat.le_of_ble_eq_true rfl, Nat.le_of_ble_eq_true rfl⟩ dX9_writesList_36 hh0.1 rfl rfl (z_ai (z_ai z_a0)) (Nat.le_of_ble_eq_true rfl) (Nat.le_of_ble_eq_true rfl) ⟨Nat.le_refl _, Nat.le_refl _⟩ (z_CVm h ?_)
    intro w5 h
    show z_Sem mX9_writesList (sh.length, 0) 39 [(0, z_r 161), (2, z_i x2)] [] (sh, w5) Q
    refine z_aload_n 0 dX9_writesList_39 rfl rfl ?_
    refine z_iload_n 1 dX9_writesList_40 rfl rfl ?_
    obtain ⟨q6, h⟩ := h
    refine z_callV (As := [z_i x2]) (rest := []) zmX9_roomOf znX9_roomOf zsX9_roomOf (show vwCl[9]? = some (RX9, TX9, 29) from rfl) zlRX9_123 ⟨Nat.le_of_ble_eq_true rfl, Nat.le_of_ble_eq_true rfl⟩ dX9_writesList_41 hh0.1 rfl rfl (z_ai z_a0) (Nat.le_of_ble_eq_true rfl) (Nat.le_of_ble_eq_true rfl) ⟨Nat.le_refl _, Nat.le_refl _⟩ ?_
    refine t_X9_roomOf hh0 q6 ?_
    show z_Sem mX9_writesList (sh.length, 0) 44 [(0, z_r 161), (2, z_i x2)] [z_i (f_X9_roomOf w5 x2)] (sh, w5) Q
    refine z_if_le (tgt := 62) dX9_writesList_44 (by decide) (fun c7 => ?_) (fun c7 => ?_)
    · replace h := h.1 c7
      refine z_aload_n 0 dX9_writesList_62 rfl rfl ?_
      refine z_iload_n 1 dX9_writesList_63 rfl rfl ?_
      obtain ⟨q8, h⟩ := h
      refine z_callV (As := [z_i x2]) (rest := []) zmX9_isPinned znX9_isPinned zsX9_isPinned (show vwCl[9]? = some (RX9, TX9, 29) from rfl) zlRX9_103 ⟨Nat.le_of_ble_eq_true rfl, Nat.le_of_ble_eq_true rfl⟩ dX9_writesList_64 hh0.1 rfl rfl (z_ai z_a0) (Nat.le_of_ble_eq_true rfl) (Nat.le_of_ble_eq_true rfl) ⟨Nat.le_refl _, Nat.le_refl _⟩ ?_
      refine t_X9_isPinned hh0 q8 ?_
      show z_Sem mX9_writesList (sh.length, 0) 67 [(0, z_r 161), (2, z_i x2)] [z_i (f_X9_isPinned w5 x2)] (sh, w5) Q
      refine z_if_eq (tgt := 76) dX9_writesList_67 (by decide) (fun c9 => ?_) (fun c9 => ?_)
      · replace h := h.1 c9
        refine z_aload_n 0 dX9_writesList_76 rfl rfl ?_
        refine z_bipush dX9_writesList_77 (by decide) (by decide) ?_
        refine z_callV (As := [z_i 10]) (rest := []) zmX9_says znX9_says zsX9_says (show vwCl[9]? = some (RX9, TX9, 29) from rfl) zlRX9_335 ⟨Nat.le_of_ble_eq_true rfl, Nat.le_of_ble_eq_true rfl⟩ dX9_writesList_79 hh0.1 rfl rfl (z_ai z_a0) (Nat.le_of_ble_eq_true rfl) (Nat.le_of_ble_eq_true rfl) ⟨Nat.le_refl _, Nat.le_refl _⟩ (z_CVm h ?_)
        intro w10 h
        show z_Sem mX9_writesList (sh.length, 0) 82 [(0, z_r 161), (2, z_i x2)] [] (sh, w10) Q
        obtain ⟨q11, h⟩ := h
        refine z_iinc (L' := [(2, z_i (x2 + 1)), (0, z_r 161)]) 1 dX9_writesList_82 rfl (by decide) rfl q11 ?_
        refine z_goto (tgt := 12) dX9_writesList_85 (by decide) ?_
        refine z_sub (L' := [(0, z_r 161), (2, z_i (x2 + 1))]) [1, 0] rfl ?_
        exact h
      · replace h := h.2 c9
        refine z_aload_n 0 dX9_writesList_70 rfl rfl ?_
        refine z_bipush dX9_writesList_71 (by decide) (by decide) ?_
        refine z_callV (As := [z_i 33]) (rest := []) zmX9_says znX9_says zsX9_says (show vwCl[9]? = some (RX9, TX9, 29) from rfl) zlRX9_335 ⟨Nat.le_of_ble_eq_true rfl, Nat.le_of_ble_eq_true rfl⟩ dX9_writesList_73 hh0.1 rfl rfl (z_ai z_a0) (Nat.le_of_ble_eq_true rfl) (Nat.le_of_ble_eq_true rfl) ⟨Nat.le_refl _, Nat.le_refl _⟩ (z_CVm h ?_)
        intro w12 h
        show z_Sem mX9_writesList (sh.length, 0) 76 [(0, z_r 161), (2, z_i x2)] [] (sh, w12) Q
        refine z_aload_n 0 dX9_writesList_76 rfl rfl ?_
        refine z_bipush dX9_writesList_77 (by decide) (by decide) ?_
        refine z_callV (As := [z_i 10]) (rest := []) zmX9_says znX9_says zsX9_says (show vwCl[9]? = some (RX9, TX9, 29) from rfl) zlRX9_335 ⟨Nat.le_of_ble_eq_true rfl, Nat.le_of_ble_eq_true rfl⟩ dX9_writesList_79 hh0.1 rfl rfl (z_ai z_a0) (Nat.le_of_ble_eq_true rfl) (Nat.le_of_ble_eq_true rfl) ⟨Nat.le_refl _, Nat.le_refl _⟩ (z_CVm h ?_)
        intro w13 h
        show z_Sem mX9_writesList (sh.length, 0) 82 [(0, z_r 161), (2, z_i x2)] [] (sh, w13) Q
        obtain ⟨q14, h⟩ := h
        refine z_iinc (L' := [(2, z_i (x2 + 1)), (0, z_r 161)]) 1 dX9_writesList_82 rfl (by decide) rfl q14 ?_
        refine z_goto (tgt := 12) dX9_writesList_85 (by decide) ?_
        refine z_sub (L' := [(0, z_r 161), (2, z_i (x2 + 1))]) [1, 0] rfl ?_
        exact h
    · replace h := h.2 c7
      refine z_aload_n 0 dX9_writesList_47 rfl rfl ?_
      refine z_bipush dX9_writesList_48 (by decide) (by decide) ?_
      refine z_callV (As := [z_i 45]) (rest := []) zmX9_says znX9_says zsX9_says (show vwCl[9]? = some (RX9, TX9, 29) from rfl) zlRX9_335 ⟨Nat.le_of_ble_eq_true rfl, Nat.le_of_ble_eq_true rfl⟩ dX9_writesList_50 hh0.1 rfl rfl (z_ai z_a0) (Nat.le_of_ble_eq_true rfl) (Nat.le_of_ble_eq_true rfl) ⟨Nat.le_refl _, Nat.le_refl _⟩ (z_CVm h ?_)
      intro w15 h
      show z_Sem mX9_writesList (sh.length, 0) 53 [(0, z_r 161), (2, z_i x2)] [] (sh, w15) Q
      refine z_aload_n 0 dX9_writesList_53 rfl rfl ?_
      refine z_aload_n 0 dX9_writesList_54 rfl rfl ?_
      refine z_iload_n 1 dX9_writesList_55 rfl rfl ?_
      obtain ⟨q16, h⟩ := h
      refine z_callV (As := [z_i x2]) (rest := [z_r 161]) zmX9_latest znX9_latest zsX9_latest (show vwCl[9]? = some (RX9, TX9, 29) from rfl) zlRX9_117 ⟨Nat.le_of_ble_eq_true rfl, Nat.le_of_ble_eq_true rfl⟩ dX9_writesList_56 hh0.1 rfl rfl (z_ai z_a0) (Nat.le_of_ble_eq_true rfl) (Nat.le_of_ble_eq_true rfl) ⟨Nat.le_refl _, Nat.le_refl _⟩ ?_
      refine t_X9_latest hh0 q16 ?_
      show z_Sem mX9_writesList (sh.length, 0) 59 [(0, z_r 161), (2, z_i x2)] [z_i (f_X9_latest w15 x2), z_r 161] (sh, w15) Q
      refine z_callV (As := [z_i (f_X9_latest w15 x2)]) (rest := []) zmX9_saysNumber znX9_saysNumber zsX9_saysNumber (show vwCl[9]? = some (RX9, TX9, 29) from rfl) zlRX9_341 ⟨Nat.le_of_ble_eq_true rfl, Nat.le_of_ble_eq_true rfl⟩ dX9_writesList_59 hh0.1 rfl rfl (z_ai z_a0) (Nat.le_of_ble_eq_true rfl) (Nat.le_of_ble_eq_true rfl) ⟨Nat.le_refl _, Nat.le_refl _⟩ (z_CVm h ?_)
      intro w17 h
      show z_Sem mX9_writesList (sh.length, 0) 62 [(0, z_r 161), (2, z_i x2)] [] (sh, w17) Q
      refine z_aload_n 0 dX9_writesList_62 rfl rfl ?_
      refine z_iload_n 1 dX9_writesList_63 rfl rfl ?_
      obtain ⟨q18, h⟩ := h
      refine z_callV (As := [z_i x2]) (rest := []) zmX9_isPinned znX9_isPinned zsX9_isPinned (show vwCl[9]? = some (RX9, TX9, 29) from rfl) zlRX9_103 ⟨Nat.le_of_ble_eq_true rfl, Nat.le_of_ble_eq_true rfl⟩ dX9_writesList_64 hh0.1 rfl rfl (z_ai z_a0) (Nat.le_of_ble_eq_true rfl) (Nat.le_of_ble_eq_true rfl) ⟨Nat.le_refl _, Nat.le_refl _⟩ ?_
      refine t_X9_isPinned hh0 q18 ?_
      show z_Sem mX9_writesList (sh.length, 0) 67 [(0, z_r 161), (2, z_i x2)] [z_i (f_X9_isPinned w17 x2)] (sh, w17) Q
      refine z_if_eq (tgt := 76) dX9_writesList_67 (by decide) (fun c19 => ?_) (fun c19 => ?_)
      · replace h := h.1 c19
        refine z_aload_n 0 dX9_writesList_76 rfl rfl ?_
        refine z_bipush dX9_writesList_77 (by decide) (by decide) ?_
        refine z_callV (As := [z_i 10]) (rest := []) zmX9_says znX9_says zsX9_says (show vwCl[9]? = some (RX9, TX9, 29) from rfl) zlRX9_335 ⟨Nat.le_of_ble_eq_true rfl, Nat.le_of_ble_eq_true rfl⟩ dX9_writesList_79 hh0.1 rfl rfl (z_ai z_a0) (Nat.le_of_ble_eq_true rfl) (Nat.le_of_ble_eq_true rfl) ⟨Nat.le_refl _, Nat.le_refl _⟩ (z_CVm h ?_)
        intro w20 h
        show z_Sem mX9_writesList (sh.length, 0) 82 [(0, z_r 161), (2, z_i x2)] [] (sh, w20) Q
        obtain ⟨q21, h⟩ := h
        refine z_iinc (L' := [(2, z_i (x2 + 1)), (0, z_r 161)]) 1 dX9_writesList_82 rfl (by decide) rfl q21 ?_
        refine z_goto (tgt := 12) dX9_writesList_85 (by decide) ?_
        refine z_sub (L' := [(0, z_r 161), (2, z_i (x2 + 1))]) [1, 0] rfl ?_
        exact h
      · replace h := h.2 c19
        refine z_aload_n 0 dX9_writesList_70 rfl rfl ?_
        refine z_bipush dX9_writesList_71 (by decide) (by decide) ?_
        refine z_callV (As := [z_i 33]) (rest := []) zmX9_says znX9_says zsX9_says (show vwCl[9]? = some (RX9, TX9, 29) from rfl) zlRX9_335 ⟨Nat.le_of_ble_eq_true rfl, Nat.le_of_ble_eq_true rfl⟩ dX9_writesList_73 hh0.1 rfl rfl (z_ai z_a0) (Nat.le_of_ble_eq_true rfl) (Nat.le_of_ble_eq_true rfl) ⟨Nat.le_refl _, Nat.le_refl _⟩ (z_CVm h ?_)
        intro w22 h
        show z_Sem mX9_writesList (sh.length, 0) 76 [(0, z_r 161), (2, z_i x2)] [] (sh, w22) Q
        refine z_aload_n 0 dX9_writesList_76 rfl rfl ?_
        refine z_bipush dX9_writesList_77 (by decide) (by decide) ?_
        refine z_callV (As := [z_i 10]) (rest := []) zmX9_says znX9_says zsX9_says (show vwCl[9]? = some (RX9, TX9, 29) from rfl) zlRX9_335 ⟨Nat.le_of_ble_eq_true rfl, Nat.le_of_ble_eq_true rfl⟩ dX9_writesList_79 hh0.1 rfl rfl (z_ai z_a0) (Nat.le_of_ble_eq_true rfl) (Nat.le_of_ble_eq_true rfl) ⟨Nat.le_refl _, Nat.le_refl _⟩ (z_CVm h ?_)
        intro w23 h
        show z_Sem mX9_writesList (sh.length, 0) 82 [(0, z_r 161), (2, z_i x2)] [] (sh, w23) Q
        obtain ⟨q24, h⟩ := h
        refine z_iinc (L' := [(2, z_i (x2 + 1)), (0, z_r 161)]) 1 dX9_writesList_82 rfl (by decide) rfl q24 ?_
        refine z_goto (tgt := 12) dX9_writesList_85 (by decide) ?_
        refine z_sub (L' := [(0, z_r 161), (2, z_i (x2 + 1))]) [1, 0] rfl ?_
        exact h
set_option maxRecDepth 100000 in
theorem t_X9_listLength {sh : List z_C} {w : Nat → Int → Int} {Q : Option z_V → z_S → Prop}  (hh0 : z_isMod sh 161) (h : z_CV mX9_writesList [z_r 161] sh w (fun w1 => Q (some (z_i (w1 161 28))) (sh, w1))) : z_Sem mX9_listLength (sh.length, 0) 0 [(0, z_r 161)] [] (sh, w) Q := by
  refine z_aload_n 0 dX9_listLength_0 rfl rfl ?_
  refine z_callV (As := []) (rest := []) zmX9_writesList znX9_writesList zsX9_writesList (show vwCl[9]? = some (RX9, TX9, 29) from rfl) zlRX9_348 ⟨Nat.le_of_ble_eq_true rfl, Nat.le_of_ble_eq_true rfl⟩ dX9_listLength_1 hh0.1 rfl rfl z_a0 (Nat.le_of_ble_eq_true rfl) (Nat.le_of_ble_eq_true rfl) ⟨Nat.le_refl _, Nat.le_refl _⟩ (z_CVm h ?_)
  intro w1 h
  show z_Sem mX9_listLength (sh.length, 0) 4 [(0, z_r 161)] [] (sh, w1) Q
  refine z_aload_n 0 dX9_listLength_4 rfl rfl ?_
  refine z_getI (ki := 28) zfRX9_332 dX9_listLength_5 hh0.1 rfl rfl ?_
  exact z_ret (v := some (z_i (w1 161 28))) dX9_listLength_8 ⟨rfl, Or.inl rfl⟩ rfl rfl h
set_option maxRecDepth 100000 in
theorem t_X9_listByte {sh : List z_C} {w : Nat → Int → Int} {Q : Option z_V → z_S → Prop} {x1 : Int} (hh0 : z_isMod sh 161) (h : z_CV mX9_writesList [z_r 161] sh w (fun w1 => (s_X9_toldByte w1 x1) ∧ Q (some (z_i (f_X9_toldByte w1 x1))) (sh, w1))) : z_Sem mX9_listByte (sh.length, 0) 0 [(0, z_r 161), (1, z_i x1)] [] (sh, w) Q := by
  refine z_aload_n 0 dX9_listByte_0 rfl rfl ?_
  refine z_callV (As := []) (rest := []) zmX9_writesList znX9_writesList zsX9_writesList (show vwCl[9]? = some (RX9, TX9, 29) from rfl) zlRX9_348 ⟨Nat.le_of_ble_eq_true rfl, Nat.le_of_ble_eq_true rfl⟩ dX9_listByte_1 hh0.1 rfl rfl z_a0 (Nat.le_of_ble_eq_true rfl) (Nat.le_of_ble_eq_true rfl) ⟨Nat.le_refl _, Nat.le_refl _⟩ (z_CVm h ?_)
  intro w1 h
  show z_Sem mX9_listByte (sh.length, 0) 4 [(0, z_r 161), (1, z_i x1)] [] (sh, w1) Q
  refine z_aload_n 0 dX9_listByte_4 rfl rfl ?_
  refine z_iload_n 1 dX9_listByte_5 rfl rfl ?_
  obtain ⟨q2, h⟩ := h
  refine z_callV (As := [z_i x1]) (rest := []) zmX9_toldByte znX9_toldByte zsX9_toldByte (show vwCl[9]? = some (RX9, TX9, 29) from rfl) zlRX9_351 ⟨Nat.le_of_ble_eq_true rfl, Nat.le_of_ble_eq_true rfl⟩ dX9_listByte_6 hh0.1 rfl rfl (z_ai z_a0) (Nat.le_of_ble_eq_true rfl) (Nat.le_of_ble_eq_true rfl) ⟨Nat.le_refl _, Nat.le_refl _⟩ ?_
  refine t_X9_toldByte hh0 q2 ?_
  show z_Sem mX9_listByte (sh.length, 0) 9 [(0, z_r 161), (1, z_i x1)] [z_i (f_X9_toldByte w1 x1)] (sh, w1) Q
  exact z_ret (v := some (z_i (f_X9_toldByte w1 x1))) dX9_listByte_9 ⟨rfl, Or.inl rfl⟩ rfl rfl h
set_option maxRecDepth 100000 in
theorem t_X9_writesGap {sh : List z_C} {w : Nat → Int → Int} {Q : Option z_V → z_S → Prop} {x1 : Int} (hh0 : z_isMod sh 161) (h : z_CV mX9_saysWord [z_r 161, z_i 7216] sh w (fun w1 => (s_X9_of w1 x1 0) ∧ z_CV mX9_saysEvent [z_r 161, z_i (f_X9_of w1 x1 0)] sh w1 (fun w3 => (s_X9_of w3 x1 1) ∧ z_CV mX9_saysEvent [z_r 161, z_i (f_X9_of w3 x1 1)] sh w3 (fun w5 => z_CV mX9_says [z_r 161, z_i 32] sh w5 (fun w6 => (s_X9_of w6 x1 2) ∧ (s_X9_of w6 x1 3) ∧ z_CV mX9_saysKey [z_r 161, z_i (if (f_X9_of w6 x1 2) = 0 then 441972 else 12748404), z_i (f_X9_of w6 x1 3)] sh w6 (fun w13 => (s_X9_isOn w13 x1) ∧ (((f_X9_isOn w13 x1) = 0 → z_CV mX9_says [z_r 161, z_i 32] sh w13 (fun w17 => z_CV mX9_saysWord [z_r 161, z_i 15558] sh w17 (fun w18 => z_CV mX9_says [z_r 161, z_i 59] sh w18 (fun w19 => Q none (sh, w19))))) ∧ (¬ (f_X9_isOn w13 x1) = 0 → z_CV mX9_says [z_r 161, z_i 59] sh w13 (fun w16 => Q none (sh, w16)))))))))) : z_Sem mX9_writesGap (sh.length, 0) 0 [(0, z_r 161), (1, z_i x1)] [] (sh, w) Q := by
  refine z_aload_n 0 dX9_writesGap_0 rfl rfl ?_
  refine z_sipush dX9_writesGap_1 (by decide) (by decide) ?_
  refine z_callV (As := [z_i 7216]) (rest := []) zmX9_saysWord znX9_saysWord zsX9_saysWord (show vwCl[9]? = some (RX9, TX9, 29) from rfl) zlRX9_338 ⟨Nat.le_of_ble_eq_true rfl, Nat.le_of_ble_eq_true rfl⟩ dX9_writesGap_4 hh0.1 rfl rfl (z_ai z_a0) (Nat.le_of_ble_eq_true rfl) (Nat.le_of_ble_eq_true rfl) ⟨Nat.le_refl _, Nat.le_refl _⟩ (z_CVm h ?_)
  intro w1 h
  show z_Sem mX9_writesGap (sh.length, 0) 7 [(0, z_r 161), (1, z_i x1)] [] (sh, w1) Q
  refine z_aload_n 0 dX9_writesGap_7 rfl rfl ?_
  refine z_aload_n 0 dX9_writesGap_8 rfl rfl ?_
  refine z_iload_n 1 dX9_writesGap_9 rfl rfl ?_
  refine z_iconst dX9_writesGap_10 (by decide) ?_
  obtain ⟨q2, h⟩ := h
  refine z_callV (As := [z_i x1, z_i 0]) (rest := [z_r 161]) zmX9_of znX9_of zsX9_of (show vwCl[9]? = some (RX9, TX9, 29) from rfl) zlRX9_76 ⟨Nat.le_of_ble_eq_true rfl, Nat.le_of_ble_eq_true rfl⟩ dX9_writesGap_11 hh0.1 rfl rfl (z_ai (z_ai z_a0)) (Nat.le_of_ble_eq_true rfl) (Nat.le_of_ble_eq_true rfl) ⟨Nat.le_refl _, Nat.le_refl _⟩ ?_
  refine t_X9_of hh0 q2 ?_
  show z_Sem mX9_writesGap (sh.length, 0) 14 [(0, z_r 161), (1, z_i x1)] [z_i (f_X9_of w1 x1 0), z_r 161] (sh, w1) Q
  refine z_callV (As := [z_i (f_X9_of w1 x1 0)]) (rest := []) zmX9_saysEvent znX9_saysEvent zsX9_saysEvent (show vwCl[9]? = some (RX9, TX9, 29) from rfl) zlRX9_354 ⟨Nat.le_of_ble_eq_true rfl, Nat.le_of_ble_eq_true rfl⟩ dX9_writesGap_14 hh0.1 rfl rfl (z_ai z_a0) (Nat.le_of_ble_eq_true rfl) (Nat.le_of_ble_eq_true rfl) ⟨Nat.le_refl _, Nat.le_refl _⟩ (z_CVm h ?_)
  intro w3 h
  show z_Sem mX9_writesGap (sh.length, 0) 17 [(0, z_r 161), (1, z_i x1)] [] (sh, w3) Q
  refine z_aload_n 0 dX9_writesGap_17 rfl rfl ?_
  refine z_aload_n 0 dX9_writesGap_18 rfl rfl ?_
  refine z_iload_n 1 dX9_writesGap_19 rfl rfl ?_
  refine z_iconst dX9_writesGap_20 (by decide) ?_
  obtain ⟨q4, h⟩ := h
  refine z_callV (As := [z_i x1, z_i 1]) (rest := [z_r 161]) zmX9_of znX9_of zsX9_of (show vwCl[9]? = some (RX9, TX9, 29) from rfl) zlRX9_76 ⟨Nat.le_of_ble_eq_true rfl, Nat.le_of_ble_eq_true rfl⟩ dX9_writesGap_21 hh0.1 rfl rfl (z_ai (z_ai z_a0)) (Nat.le_of_ble_eq_true rfl) (Nat.le_of_ble_eq_true rfl) ⟨Nat.le_refl _, Nat.le_refl _⟩ ?_
  refine t_X9_of hh0 q4 ?_
  show z_Sem mX9_writesGap (sh.length, 0) 24 [(0, z_r 161), (1, z_i x1)] [z_i (f_X9_of w3 x1 1), z_r 161] (sh, w3) Q
  refine z_callV (As := [z_i (f_X9_of w3 x1 1)]) (rest := []) zmX9_saysEvent znX9_saysEvent zsX9_saysEvent (show vwCl[9]? = some (RX9, TX9, 29) from rfl) zlRX9_354 ⟨Nat.le_of_ble_eq_true rfl, Nat.le_of_ble_eq_true rfl⟩ dX9_writesGap_24 hh0.1 rfl rfl (z_ai z_a0) (Nat.le_of_ble_eq_true rfl) (Nat.le_of_ble_eq_true rfl) ⟨Nat.le_refl _, Nat.le_refl _⟩ (z_CVm h ?_)
  intro w5 h
  show z_Sem mX9_writesGap (sh.length, 0) 27 [(0, z_r 161), (1, z_i x1)] [] (sh, w5) Q
  refine z_aload_n 0 dX9_writesGap_27 rfl rfl ?_
  refine z_bipush dX9_writesGap_28 (by decide) (by decide) ?_
  refine z_callV (As := [z_i 32]) (rest := []) zmX9_says znX9_says zsX9_says (show vwCl[9]? = some (RX9, TX9, 29) from rfl) zlRX9_335 ⟨Nat.le_of_ble_eq_true rfl, Nat.le_of_ble_eq_true rfl⟩ dX9_writesGap_30 hh0.1 rfl rfl (z_ai z_a0) (Nat.le_of_ble_eq_true rfl) (Nat.le_of_ble_eq_true rfl) ⟨Nat.le_refl _, Nat.le_refl _⟩ (z_CVm h ?_)
  intro w6 h
  show z_Sem mX9_writesGap (sh.length, 0) 33 [(0, z_r 161), (1, z_i x1)] [] (sh, w6) Q
  refine z_aload_n 0 dX9_writesGap_33 rfl rfl ?_
  refine z_aload_n 0 dX9_writesGap_34 rfl rfl ?_
  refine z_iload_n 1 dX9_writesGap_35 rfl rfl ?_
  refine z_iconst dX9_writesGap_36 (by decide) ?_
  obtain ⟨q7, h⟩ := h
  refine z_callV (As := [z_i x1, z_i 2]) (rest := [z_r 161]) zmX9_of znX9_of zsX9_of (show vwCl[9]? = some (RX9, TX9, 29) from rfl) zlRX9_76 ⟨Nat.le_of_ble_eq_true rfl, Nat.le_of_ble_eq_true rfl⟩ dX9_writesGap_37 hh0.1 rfl rfl (z_ai (z_ai z_a0)) (Nat.le_of_ble_eq_true rfl) (Nat.le_of_ble_eq_true rfl) ⟨Nat.le_refl _, Nat.le_refl _⟩ ?_
  refine t_X9_of hh0 q7 ?_
  show z_Sem mX9_writesGap (sh.length, 0) 40 [(0, z_r 161), (1, z_i x1)] [z_i (f_X9_of w6 x1 2), z_r 161] (sh, w6) Q
  suffices hJ8 : z_Sem mX9_writesGap (sh.length, 0) 50 [(0, z_r 161), (1, z_i x1)] [z_i (if (f_X9_of w6 x1 2) = 0 then 441972 else 12748404), z_r 161] (sh, w6) Q by
    refine z_if_ne (tgt := 48) dX9_writesGap_40 (by decide) (fun c9 => ?_) (fun c9 => ?_)
    · skip
      refine z_ldc (n := 12748404) zkRX9_231 dX9_writesGap_48 (by decide) (by decide) ?_
      simp only [if_neg c9] at hJ8
      exact hJ8
    · skip
      refine z_ldc (n := 441972) zkRX9_235 dX9_writesGap_43 (by decide) (by decide) ?_
      refine z_goto (tgt := 50) dX9_writesGap_45 (by decide) ?_
      simp only [if_pos c9] at hJ8
      exact hJ8
  refine z_aload_n 0 dX9_writesGap_50 rfl rfl ?_
  refine z_iload_n 1 dX9_writesGap_51 rfl rfl ?_
  refine z_iconst dX9_writesGap_52 (by decide) ?_
  obtain ⟨q12, h⟩ := h
  refine z_callV (As := [z_i x1, z_i 3]) (rest := [z_i (if (f_X9_of w6 x1 2) = 0 then 441972 else 12748404), z_r 161]) zmX9_of znX9_of zsX9_of (show vwCl[9]? = some (RX9, TX9, 29) from rfl) zlRX9_76 ⟨Nat.le_of_ble_eq_true rfl, Nat.le_of_ble_eq_true rfl⟩ dX9_writesGap_53 hh0.1 rfl rfl (z_ai (z_ai z_a0)) (Nat.le_of_ble_eq_true rfl) (Nat.le_of_ble_eq_true rfl) ⟨Nat.le_refl _, Nat.le_refl _⟩ ?_
  refine t_X9_of hh0 q12 ?_
  show z_Sem mX9_writesGap (sh.length, 0) 56 [(0, z_r 161), (1, z_i x1)] [z_i (f_X9_of w6 x1 3), z_i (if (f_X9_of w6 x1 2) = 0 then 441972 else 12748404), z_r 161] (sh, w6) Q
  refine z_callV (As := [z_i (if (f_X9_of w6 x1 2) = 0 then 441972 else 12748404), z_i (f_X9_of w6 x1 3)]) (rest := []) zmX9_saysKey znX9_saysKey zsX9_saysKey (show vwCl[9]? = some (RX9, TX9, 29) from rfl) zlRX9_344 ⟨Nat.le_of_ble_eq_true rfl, Nat.le_of_ble_eq_true rfl⟩ dX9_writesGap_56 hh0.1 rfl rfl (z_ai (z_ai z_a0)) (Nat.le_of_ble_eq_true rfl) (Nat.le_of_ble_eq_true rfl) ⟨Nat.le_refl _, Nat.le_refl _⟩ (z_CVm h ?_)
  intro w13 h
  show z_Sem mX9_writesGap (sh.length, 0) 59 [(0, z_r 161), (1, z_i x1)] [] (sh, w13) Q
  refine z_aload_n 0 dX9_writesGap_59 rfl rfl ?_
  refine z_iload_n 1 dX9_writesGap_60 rfl rfl ?_
  obtain ⟨q14, h⟩ := h
  refine z_callV (As := [z_i x1]) (rest := []) zmX9_isOn znX9_isOn zsX9_isOn (show vwCl[9]? = some (RX9, TX9, 29) from rfl) zlRX9_87 ⟨Nat.le_of_ble_eq_true rfl, Nat.le_of_ble_eq_true rfl⟩ dX9_writesGap_61 hh0.1 rfl rfl (z_ai z_a0) (Nat.le_of_ble_eq_true rfl) (Nat.le_of_ble_eq_true rfl) ⟨Nat.le_refl _, Nat.le_refl _⟩ ?_
  refine t_X9_isOn hh0 q14 ?_
  show z_Sem mX9_writesGap (sh.length, 0) 64 [(0, z_r 161), (1, z_i x1)] [z_i (f_X9_isOn w13 x1)] (sh, w13) Q
  refine z_if_ne (tgt := 80) dX9_writesGap_64 (by decide) (fun c15 => ?_) (fun c15 => ?_)
  · replace h := h.2 c15
    refine z_aload_n 0 dX9_writesGap_80 rfl rfl ?_
    refine z_bipush dX9_writesGap_81 (by decide) (by decide) ?_
    refine z_callV (As := [z_i 59]) (rest := []) zmX9_says znX9_says zsX9_says (show vwCl[9]? = some (RX9, TX9, 29) from rfl) zlRX9_335 ⟨Nat.le_of_ble_eq_true rfl, Nat.le_of_ble_eq_true rfl⟩ dX9_writesGap_83 hh0.1 rfl rfl (z_ai z_a0) (Nat.le_of_ble_eq_true rfl) (Nat.le_of_ble_eq_true rfl) ⟨Nat.le_refl _, Nat.le_refl _⟩ (z_CVm h ?_)
    intro w16 h
    show z_Sem mX9_writesGap (sh.length, 0) 86 [(0, z_r 161), (1, z_i x1)] [] (sh, w16) Q
    exact z_ret (v := none) dX9_writesGap_86 ⟨rfl, rfl⟩ rfl rfl h
  · replace h := h.1 c15
    refine z_aload_n 0 dX9_writesGap_67 rfl rfl ?_
    refine z_bipush dX9_writesGap_68 (by decide) (by decide) ?_
    refine z_callV (As := [z_i 32]) (rest := []) zmX9_says znX9_says zsX9_says (show vwCl[9]? = some (RX9, TX9, 29) from rfl) zlRX9_335 ⟨Nat.le_of_ble_eq_true rfl, Nat.le_of_ble_eq_true rfl⟩ dX9_writesGap_70 hh0.1 rfl rfl (z_ai z_a0) (Nat.le_of_ble_eq_true rfl) (Nat.le_of_ble_eq_true rfl) ⟨Nat.le_refl _, Nat.le_refl _⟩ (z_CVm h ?_)
    intro w17 h
    show z_Sem mX9_writesGap (sh.length, 0) 73 [(0, z_r 161), (1, z_i x1)] [] (sh, w17) Q
    refine z_aload_n 0 dX9_writesGap_73 rfl rfl ?_
    refine z_sipush dX9_writesGap_74 (by decide) (by decide) ?_
    refine z_callV (As := [z_i 15558]) (rest := []) zmX9_saysWord znX9_saysWord zsX9_saysWord (show vwCl[9]? = some (RX9, TX9, 29) from rfl) zlRX9_338 ⟨Nat.le_of_ble_eq_true rfl, Nat.le_of_ble_eq_true rfl⟩ dX9_writesGap_77 hh0.1 rfl rfl (z_ai z_a0) (Nat.le_of_ble_eq_true rfl) (Nat.le_of_ble_eq_true rfl) ⟨Nat.le_refl _, Nat.le_refl _⟩ (z_CVm h ?_)
    intro w18 h
    show z_Sem mX9_writesGap (sh.length, 0) 80 [(0, z_r 161), (1, z_i x1)] [] (sh, w18) Q
    refine z_aload_n 0 dX9_writesGap_80 rfl rfl ?_
    refine z_bipush dX9_writesGap_81 (by decide) (by decide) ?_
    refine z_callV (As := [z_i 59]) (rest := []) zmX9_says znX9_says zsX9_says (show vwCl[9]? = some (RX9, TX9, 29) from rfl) zlRX9_335 ⟨Nat.le_of_ble_eq_true rfl, Nat.le_of_ble_eq_true rfl⟩ dX9_writesGap_83 hh0.1 rfl rfl (z_ai z_a0) (Nat.le_of_ble_eq_true rfl) (Nat.le_of_ble_eq_true rfl) ⟨Nat.le_refl _, Nat.le_refl _⟩ (z_CVm h ?_)
    intro w19 h
    show z_Sem mX9_writesGap (sh.length, 0) 86 [(0, z_r 161), (1, z_i x1)] [] (sh, w19) Q
    exact z_ret (v := none) dX9_writesGap_86 ⟨rfl, rfl⟩ rfl rfl h
set_option maxRecDepth 100000 in
theorem t_X9_writesSetup {sh : List z_C} {w : Nat → Int → Int} {Q : Option z_V → z_S → Prop}  (hh0 : z_isMod sh 161) (h : ∀ w1 : Nat → Int → Int, w1 = z_W w 161 28 0 → z_CV mX9_saysKey [z_r 161, z_i 5572, z_i (w1 163 0)] sh w1 (fun w2 => z_CV mX9_says [z_r 161, z_i 59] sh w2 (fun w3 => z_Sem mX9_writesSetup (sh.length, 0) 26 [(0, z_r 161), (1, z_i 1)] [] (sh, w3) Q))) : z_Sem mX9_writesSetup (sh.length, 0) 0 [(0, z_r 161)] [] (sh, w) Q := by
  refine z_aload_n 0 dX9_writesSetup_0 rfl rfl ?_
  refine z_iconst dX9_writesSetup_1 (by decide) ?_
  refine z_putI (ki := 28) zfRX9_332 dX9_writesSetup_2 hh0.1 rfl rfl ?_
  refine z_genw (fun w1 hw1 => ?_)
  replace h := h w1 hw1
  refine z_aload_n 0 dX9_writesSetup_5 rfl rfl ?_
  refine z_sipush dX9_writesSetup_6 (by decide) (by decide) ?_
  refine z_aload_n 0 dX9_writesSetup_9 rfl rfl ?_
  refine z_getR (r := 163) zfRX9_17 dX9_writesSetup_10 hh0.1 rfl ?_
  refine z_iconst dX9_writesSetup_13 (by decide) ?_
  refine z_iald dX9_writesSetup_14 hh0.2.2.1 (by decide) ?_
  refine z_callV (As := [z_i 5572, z_i (w1 163 0)]) (rest := []) zmX9_saysKey znX9_saysKey zsX9_saysKey (show vwCl[9]? = some (RX9, TX9, 29) from rfl) zlRX9_344 ⟨Nat.le_of_ble_eq_true rfl, Nat.le_of_ble_eq_true rfl⟩ dX9_writesSetup_15 hh0.1 rfl rfl (z_ai (z_ai z_a0)) (Nat.le_of_ble_eq_true rfl) (Nat.le_of_ble_eq_true rfl) ⟨Nat.le_refl _, Nat.le_refl _⟩ (z_CVm h ?_)
  intro w2 h
  show z_Sem mX9_writesSetup (sh.length, 0) 18 [(0, z_r 161)] [] (sh, w2) Q
  refine z_aload_n 0 dX9_writesSetup_18 rfl rfl ?_
  refine z_bipush dX9_writesSetup_19 (by decide) (by decide) ?_
  refine z_callV (As := [z_i 59]) (rest := []) zmX9_says znX9_says zsX9_says (show vwCl[9]? = some (RX9, TX9, 29) from rfl) zlRX9_335 ⟨Nat.le_of_ble_eq_true rfl, Nat.le_of_ble_eq_true rfl⟩ dX9_writesSetup_21 hh0.1 rfl rfl (z_ai z_a0) (Nat.le_of_ble_eq_true rfl) (Nat.le_of_ble_eq_true rfl) ⟨Nat.le_refl _, Nat.le_refl _⟩ (z_CVm h ?_)
  intro w3 h
  show z_Sem mX9_writesSetup (sh.length, 0) 24 [(0, z_r 161)] [] (sh, w3) Q
  refine z_iconst dX9_writesSetup_24 (by decide) ?_
  refine z_istore_n (L' := [(1, z_i 1), (0, z_r 161)]) dX9_writesSetup_25 rfl (by decide) rfl ?_
  refine z_sub (L' := [(0, z_r 161), (1, z_i 1)]) [1, 0] rfl ?_
  exact h
set_option maxRecDepth 100000 in
theorem t_X9_writesSetup_26 {sh : List z_C} {w : Nat → Int → Int} {Q : Option z_V → z_S → Prop} {x1 : Int} (hh0 : z_isMod sh 161) (h : (((w 163 1) ≤ x1 → z_Sem mX9_writesSetup (sh.length, 0) 61 [(0, z_r 161), (1, z_i 0)] [] (sh, w) Q) ∧ (¬ (w 163 1) ≤ x1 → z_CV mX9_saysWord [z_r 161, z_i 5969364] sh w (fun w2 => z_CV mX9_saysEvent [z_r 161, z_i x1] sh w2 (fun w3 => z_CV mX9_says [z_r 161, z_i 59] sh w3 (fun w4 => (z_R (x1 + 1)) ∧ z_Sem mX9_writesSetup (sh.length, 0) 26 [(0, z_r 161), (1, z_i (x1 + 1))] [] (sh, w4) Q)))))) : z_Sem mX9_writesSetup (sh.length, 0) 26 [(0, z_r 161), (1, z_i x1)] [] (sh, w) Q := by
  refine z_iload_n 1 dX9_writesSetup_26 rfl rfl ?_
  refine z_aload_n 0 dX9_writesSetup_27 rfl rfl ?_
  refine z_getR (r := 163) zfRX9_17 dX9_writesSetup_28 hh0.1 rfl ?_
  refine z_iconst dX9_writesSetup_31 (by decide) ?_
  refine z_iald dX9_writesSetup_32 hh0.2.2.1 (by decide) ?_
  refine z_icmp_ge (tgt := 59) dX9_writesSetup_33 (by decide) (fun c1 => ?_) (fun c1 => ?_)
  · replace h := h.1 c1
    refine z_iconst dX9_writesSetup_59 (by decide) ?_
    refine z_istore_n (L' := [(1, z_i 0), (0, z_r 161)]) dX9_writesSetup_60 rfl (by decide) rfl ?_
    refine z_sub (L' := [(0, z_r 161), (1, z_i 0)]) [1, 0] rfl ?_
    exact h
  · replace h := h.2 c1
    refine z_aload_n 0 dX9_writesSetup_36 rfl rfl ?_
    refine z_ldc (n := 5969364) zkRX9_239 dX9_writesSetup_37 (by decide) (by decide) ?_
    refine z_callV (As := [z_i 5969364]) (rest := []) zmX9_saysWord znX9_saysWord zsX9_saysWord (show vwCl[9]? = some (RX9, TX9, 29) from rfl) zlRX9_338 ⟨Nat.le_of_ble_eq_true rfl, Nat.le_of_ble_eq_true rfl⟩ dX9_writesSetup_39 hh0.1 rfl rfl (z_ai z_a0) (Nat.le_of_ble_eq_true rfl) (Nat.le_of_ble_eq_true rfl) ⟨Nat.le_refl _, Nat.le_refl _⟩ (z_CVm h ?_)
    intro w2 h
    show z_Sem mX9_writesSetup (sh.length, 0) 42 [(0, z_r 161), (1, z_i x1)] [] (sh, w2) Q
    refine z_aload_n 0 dX9_writesSetup_42 rfl rfl ?_
    refine z_iload_n 1 dX9_writesSetup_43 rfl rfl ?_
    refine z_callV (As := [z_i x1]) (rest := []) zmX9_saysEvent znX9_saysEvent zsX9_saysEvent (show vwCl[9]? = some (RX9, TX9, 29) from rfl) zlRX9_354 ⟨Nat.le_of_ble_eq_true rfl, Nat.le_of_ble_eq_true rfl⟩ dX9_writesSetup_44 hh0.1 rfl rfl (z_ai z_a0) (Nat.le_of_ble_eq_true rfl) (Nat.le_of_ble_eq_true rfl) ⟨Nat.le_refl _, Nat.le_refl _⟩ (z_CVm h ?_)
    intro w3 h
    show z_Sem mX9_writesSetup (sh.length, 0) 47 [(0, z_r 161), (1, z_i x1)] [] (sh, w3) Q
    refine z_aload_n 0 dX9_writesSetup_47 rfl rfl ?_
    refine z_bipush dX9_writesSetup_48 (by decide) (by decide) ?_
    refine z_callV (As := [z_i 59]) (rest := []) zmX9_says znX9_says zsX9_says (show vwCl[9]? = some (RX9, TX9, 29) from rfl) zlRX9_335 ⟨Nat.le_of_ble_eq_true rfl, Nat.le_of_ble_eq_true rfl⟩ dX9_writesSetup_50 hh0.1 rfl rfl (z_ai z_a0) (Nat.le_of_ble_eq_true rfl) (Nat.le_of_ble_eq_true rfl) ⟨Nat.le_refl _, Nat.le_refl _⟩ (z_CVm h ?_)
    intro w4 h
    show z_Sem mX9_writesSetup (sh.length, 0) 53 [(0, z_r 161), (1, z_i x1)] [] (sh, w4) Q
    obtain ⟨q5, h⟩ := h
    refine z_iinc (L' := [(1, z_i (x1 + 1)), (0, z_r 161)]) 1 dX9_writesSetup_53 rfl (by decide) rfl q5 ?_
    refine z_goto (tgt := 26) dX9_writesSetup_56 (by decide) ?_
    refine z_sub (L' := [(0, z_r 161), (1, z_i (x1 + 1))]) [1, 0] rfl ?_
    exact h
set_option maxRecDepth 100000 in
theorem t_X9_writesSetup_61 {sh : List z_C} {w : Nat → Int → Int} {Q : Option z_V → z_S → Prop} {x1 : Int} (hh0 : z_isMod sh 161) (h : (((w 163 2) ≤ x1 → z_Sem mX9_writesSetup (sh.length, 0) 84 [(0, z_r 161), (1, z_i 1)] [] (sh, w) Q) ∧ (¬ (w 163 2) ≤ x1 → z_CV mX9_writesGap [z_r 161, z_i x1] sh w (fun w2 => (z_R (x1 + 1)) ∧ z_Sem mX9_writesSetup (sh.length, 0) 61 [(0, z_r 161), (1, z_i (x1 + 1))] [] (sh, w2) Q)))) : z_Sem mX9_writesSetup (sh.length, 0) 61 [(0, z_r 161), (1, z_i x1)] [] (sh, w) Q := by
  refine z_iload_n 1 dX9_writesSetup_61 rfl rfl ?_
  refine z_aload_n 0 dX9_writesSetup_62 rfl rfl ?_
  refine z_getR (r := 163) zfRX9_17 dX9_writesSetup_63 hh0.1 rfl ?_
  refine z_iconst dX9_writesSetup_66 (by decide) ?_
  refine z_iald dX9_writesSetup_67 hh0.2.2.1 (by decide) ?_
  refine z_icmp_ge (tgt := 82) dX9_writesSetup_68 (by decide) (fun c1 => ?_) (fun c1 => ?_)
  · replace h := h.1 c1
    refine z_iconst dX9_writesSetup_82 (by decide) ?_
    refine z_istore_n (L' := [(1, z_i 1), (0, z_r 161)]) dX9_writesSetup_83 rfl (by decide) rfl ?_
    refine z_sub (L' := [(0, z_r 161), (1, z_i 1)]) [1, 0] rfl ?_
    exact h
  · replace h := h.2 c1
    refine z_aload_n 0 dX9_writesSetup_71 rfl rfl ?_
    refine z_iload_n 1 dX9_writesSetup_72 rfl rfl ?_
    refine z_callV (As := [z_i x1]) (rest := []) zmX9_writesGap znX9_writesGap zsX9_writesGap (show vwCl[9]? = some (RX9, TX9, 29) from rfl) zlRX9_357 ⟨Nat.le_of_ble_eq_true rfl, Nat.le_of_ble_eq_true rfl⟩ dX9_writesSetup_73 hh0.1 rfl rfl (z_ai z_a0) (Nat.le_of_ble_eq_true rfl) (Nat.le_of_ble_eq_true rfl) ⟨Nat.le_refl _, Nat.le_refl _⟩ (z_CVm h ?_)
    intro w2 h
    show z_Sem mX9_writesSetup (sh.length, 0) 76 [(0, z_r 161), (1, z_i x1)] [] (sh, w2) Q
    obtain ⟨q3, h⟩ := h
    refine z_iinc (L' := [(1, z_i (x1 + 1)), (0, z_r 161)]) 1 dX9_writesSetup_76 rfl (by decide) rfl q3 ?_
    refine z_goto (tgt := 61) dX9_writesSetup_79 (by decide) ?_
    refine z_sub (L' := [(0, z_r 161), (1, z_i (x1 + 1))]) [1, 0] rfl ?_
    exact h
set_option maxRecDepth 100000 in
theorem t_X9_writesSetup_84 {sh : List z_C} {w : Nat → Int → Int} {Q : Option z_V → z_S → Prop} {x1 : Int} (hh0 : z_isMod sh 161) (h : (((w 163 1) ≤ x1 → Q none (sh, w)) ∧ (¬ (w 163 1) ≤ x1 → (s_X9_isPinned w x1) ∧ (((f_X9_isPinned w x1) = 0 → (z_R (x1 + 1)) ∧ z_Sem mX9_writesSetup (sh.length, 0) 84 [(0, z_r 161), (1, z_i (x1 + 1))] [] (sh, w) Q) ∧ (¬ (f_X9_isPinned w x1) = 0 → z_CV mX9_saysWord [z_r 161, z_i 16686] sh w (fun w5 => z_CV mX9_saysEvent [z_r 161, z_i x1] sh w5 (fun w6 => z_CV mX9_says [z_r 161, z_i 32] sh w6 (fun w7 => (z_R (133 + x1)) ∧ ((0 : Int) ≤ (133 + x1) ∧ (133 + x1) < 264) ∧ (z_R ((w7 163 (133 + x1)) - 1)) ∧ z_CV mX9_saysNumber [z_r 161, z_i ((w7 163 (133 + x1)) - 1)] sh w7 (fun w11 => z_CV mX9_says [z_r 161, z_i 59] sh w11 (fun w12 => (z_R (x1 + 1)) ∧ z_Sem mX9_writesSetup (sh.length, 0) 84 [(0, z_r 161), (1, z_i (x1 + 1))] [] (sh, w12) Q)))))))))) : z_Sem mX9_writesSetup (sh.length, 0) 84 [(0, z_r 161), (1, z_i x1)] [] (sh, w) Q := by
  refine z_iload_n 1 dX9_writesSetup_84 rfl rfl ?_
  refine z_aload_n 0 dX9_writesSetup_85 rfl rfl ?_
  refine z_getR (r := 163) zfRX9_17 dX9_writesSetup_86 hh0.1 rfl ?_
  refine z_iconst dX9_writesSetup_89 (by decide) ?_
  refine z_iald dX9_writesSetup_90 hh0.2.2.1 (by decide) ?_
  refine z_icmp_ge (tgt := 148) dX9_writesSetup_91 (by decide) (fun c1 => ?_) (fun c1 => ?_)
  · replace h := h.1 c1
    exact z_ret (v := none) dX9_writesSetup_148 ⟨rfl, rfl⟩ rfl rfl h
  · replace h := h.2 c1
    refine z_aload_n 0 dX9_writesSetup_94 rfl rfl ?_
    refine z_iload_n 1 dX9_writesSetup_95 rfl rfl ?_
    obtain ⟨q2, h⟩ := h
    refine z_callV (As := [z_i x1]) (rest := []) zmX9_isPinned znX9_isPinned zsX9_isPinned (show vwCl[9]? = some (RX9, TX9, 29) from rfl) zlRX9_103 ⟨Nat.le_of_ble_eq_true rfl, Nat.le_of_ble_eq_true rfl⟩ dX9_writesSetup_96 hh0.1 rfl rfl (z_ai z_a0) (Nat.le_of_ble_eq_true rfl) (Nat.le_of_ble_eq_true rfl) ⟨Nat.le_refl _, Nat.le_refl _⟩ ?_
    refine t_X9_isPinned hh0 q2 ?_
    show z_Sem mX9_writesSetup (sh.length, 0) 99 [(0, z_r 161), (1, z_i x1)] [z_i (f_X9_isPinned w x1)] (sh, w) Q
    refine z_if_eq (tgt := 142) dX9_writesSetup_99 (by decide) (fun c3 => ?_) (fun c3 => ?_)
    · replace h := h.1 c3
      obtain ⟨q4, h⟩ := h
      refine z_iinc (L' := [(1, z_i (x1 + 1)), (0, z_r 161)]) 1 dX9_writesSetup_142 rfl (by decide) rfl q4 ?_
      refine z_goto (tgt := 84) dX9_writesSetup_145 (by decide) ?_
      refine z_sub (L' := [(0, z_r 161), (1, z_i (x1 + 1))]) [1, 0] rfl ?_
      exact h
    · replace h := h.2 c3
      refine z_aload_n 0 dX9_writesSetup_102 rfl rfl ?_
      refine z_sipush dX9_writesSetup_103 (by decide) (by decide) ?_
      refine z_callV (As := [z_i 16686]) (rest := []) zmX9_saysWord znX9_saysWord zsX9_saysWord (show vwCl[9]? = some (RX9, TX9, 29) from rfl) zlRX9_338 ⟨Nat.le_of_ble_eq_true rfl, Nat.le_of_ble_eq_true rfl⟩ dX9_writesSetup_106 hh0.1 rfl rfl (z_ai z_a0) (Nat.le_of_ble_eq_true rfl) (Nat.le_of_ble_eq_true rfl) ⟨Nat.le_refl _, Nat.le_refl _⟩ (z_CVm h ?_)
      intro w5 h
      show z_Sem mX9_writesSetup (sh.length, 0) 109 [(0, z_r 161), (1, z_i x1)] [] (sh, w5) Q
      refine z_aload_n 0 dX9_writesSetup_109 rfl rfl ?_
      refine z_iload_n 1 dX9_writesSetup_110 rfl rfl ?_
      refine z_callV (As := [z_i x1]) (rest := []) zmX9_saysEvent znX9_saysEvent zsX9_saysEvent (show vwCl[9]? = some (RX9, TX9, 29) from rfl) zlRX9_354 ⟨Nat.le_of_ble_eq_true rfl, Nat.le_of_ble_eq_true rfl⟩ dX9_writesSetup_111 hh0.1 rfl rfl (z_ai z_a0) (Nat.le_of_ble_eq_true rfl) (Nat.le_of_ble_eq_true rfl) ⟨Nat.le_refl _, Nat.le_refl _⟩ (z_CVm h ?_)
      intro w6 h
      show z_Sem mX9_writesSetup (sh.length, 0) 114 [(0, z_r 161), (1, z_i x1)] [] (sh, w6) Q
      refine z_aload_n 0 dX9_writesSetup_114 rfl rfl ?_
      refine z_bipush dX9_writesSetup_115 (by decide) (by decide) ?_
      refine z_callV (As := [z_i 32]) (rest := []) zmX9_says znX9_says zsX9_says (show vwCl[9]? = some (RX9, TX9, 29) from rfl) zlRX9_335 ⟨Nat.le_of_ble_eq_true rfl, Nat.le_of_ble_eq_true rfl⟩ dX9_writesSetup_117 hh0.1 rfl rfl (z_ai z_a0) (Nat.le_of_ble_eq_true rfl) (Nat.le_of_ble_eq_true rfl) ⟨Nat.le_refl _, Nat.le_refl _⟩ (z_CVm h ?_)
      intro w7 h
      show z_Sem mX9_writesSetup (sh.length, 0) 120 [(0, z_r 161), (1, z_i x1)] [] (sh, w7) Q
      refine z_aload_n 0 dX9_writesSetup_120 rfl rfl ?_
      refine z_aload_n 0 dX9_writesSetup_121 rfl rfl ?_
      refine z_getR (r := 163) zfRX9_17 dX9_writesSetup_122 hh0.1 rfl ?_
      refine z_sipush dX9_writesSetup_125 (by decide) (by decide) ?_
      refine z_iload_n 1 dX9_writesSetup_128 rfl rfl ?_
      obtain ⟨q8, h⟩ := h
      refine z_iadd dX9_writesSetup_129 q8 ?_
      obtain ⟨q9, h⟩ := h
      refine z_iald dX9_writesSetup_130 hh0.2.2.1 q9 ?_
      refine z_iconst dX9_writesSetup_131 (by decide) ?_
      obtain ⟨q10, h⟩ := h
      refine z_isub dX9_writesSetup_132 q10 ?_
      refine z_callV (As := [z_i ((w7 163 (133 + x1)) - 1)]) (rest := []) zmX9_saysNumber znX9_saysNumber zsX9_saysNumber (show vwCl[9]? = some (RX9, TX9, 29) from rfl) zlRX9_341 ⟨Nat.le_of_ble_eq_true rfl, Nat.le_of_ble_eq_true rfl⟩ dX9_writesSetup_133 hh0.1 rfl rfl (z_ai z_a0) (Nat.le_of_ble_eq_true rfl) (Nat.le_of_ble_eq_true rfl) ⟨Nat.le_refl _, Nat.le_refl _⟩ (z_CVm h ?_)
      intro w11 h
      show z_Sem mX9_writesSetup (sh.length, 0) 136 [(0, z_r 161), (1, z_i x1)] [] (sh, w11) Q
      refine z_aload_n 0 dX9_writesSetup_136 rfl rfl ?_
      refine z_bipush dX9_writesSetup_137 (by decide) (by decide) ?_
      refine z_callV (As := [z_i 59]) (rest := []) zmX9_says znX9_says zsX9_says (show vwCl[9]? = some (RX9, TX9, 29) from rfl) zlRX9_335 ⟨Nat.le_of_ble_eq_true rfl, Nat.le_of_ble_eq_true rfl⟩ dX9_writesSetup_139 hh0.1 rfl rfl (z_ai z_a0) (Nat.le_of_ble_eq_true rfl) (Nat.le_of_ble_eq_true rfl) ⟨Nat.le_refl _, Nat.le_refl _⟩ (z_CVm h ?_)
      intro w12 h
      show z_Sem mX9_writesSetup (sh.length, 0) 142 [(0, z_r 161), (1, z_i x1)] [] (sh, w12) Q
      obtain ⟨q13, h⟩ := h
      refine z_iinc (L' := [(1, z_i (x1 + 1)), (0, z_r 161)]) 1 dX9_writesSetup_142 rfl (by decide) rfl q13 ?_
      refine z_goto (tgt := 84) dX9_writesSetup_145 (by decide) ?_
      refine z_sub (L' := [(0, z_r 161), (1, z_i (x1 + 1))]) [1, 0] rfl ?_
      exact h
set_option maxRecDepth 100000 in
theorem t_X9_setupLength {sh : List z_C} {w : Nat → Int → Int} {Q : Option z_V → z_S → Prop}  (hh0 : z_isMod sh 161) (h : z_CV mX9_writesSetup [z_r 161] sh w (fun w1 => Q (some (z_i (w1 161 28))) (sh, w1))) : z_Sem mX9_setupLength (sh.length, 0) 0 [(0, z_r 161)] [] (sh, w) Q := by
  refine z_aload_n 0 dX9_setupLength_0 rfl rfl ?_
  refine z_callV (As := []) (rest := []) zmX9_writesSetup znX9_writesSetup zsX9_writesSetup (show vwCl[9]? = some (RX9, TX9, 29) from rfl) zlRX9_360 ⟨Nat.le_of_ble_eq_true rfl, Nat.le_of_ble_eq_true rfl⟩ dX9_setupLength_1 hh0.1 rfl rfl z_a0 (Nat.le_of_ble_eq_true rfl) (Nat.le_of_ble_eq_true rfl) ⟨Nat.le_refl _, Nat.le_refl _⟩ (z_CVm h ?_)
  intro w1 h
  show z_Sem mX9_setupLength (sh.length, 0) 4 [(0, z_r 161)] [] (sh, w1) Q
  refine z_aload_n 0 dX9_setupLength_4 rfl rfl ?_
  refine z_getI (ki := 28) zfRX9_332 dX9_setupLength_5 hh0.1 rfl rfl ?_
  exact z_ret (v := some (z_i (w1 161 28))) dX9_setupLength_8 ⟨rfl, Or.inl rfl⟩ rfl rfl h
set_option maxRecDepth 100000 in
theorem t_X9_setupByte {sh : List z_C} {w : Nat → Int → Int} {Q : Option z_V → z_S → Prop} {x1 : Int} (hh0 : z_isMod sh 161) (h : z_CV mX9_writesSetup [z_r 161] sh w (fun w1 => (s_X9_toldByte w1 x1) ∧ Q (some (z_i (f_X9_toldByte w1 x1))) (sh, w1))) : z_Sem mX9_setupByte (sh.length, 0) 0 [(0, z_r 161), (1, z_i x1)] [] (sh, w) Q := by
  refine z_aload_n 0 dX9_setupByte_0 rfl rfl ?_
  refine z_callV (As := []) (rest := []) zmX9_writesSetup znX9_writesSetup zsX9_writesSetup (show vwCl[9]? = some (RX9, TX9, 29) from rfl) zlRX9_360 ⟨Nat.le_of_ble_eq_true rfl, Nat.le_of_ble_eq_true rfl⟩ dX9_setupByte_1 hh0.1 rfl rfl z_a0 (Nat.le_of_ble_eq_true rfl) (Nat.le_of_ble_eq_true rfl) ⟨Nat.le_refl _, Nat.le_refl _⟩ (z_CVm h ?_)
  intro w1 h
  show z_Sem mX9_setupByte (sh.length, 0) 4 [(0, z_r 161), (1, z_i x1)] [] (sh, w1) Q
  refine z_aload_n 0 dX9_setupByte_4 rfl rfl ?_
  refine z_iload_n 1 dX9_setupByte_5 rfl rfl ?_
  obtain ⟨q2, h⟩ := h
  refine z_callV (As := [z_i x1]) (rest := []) zmX9_toldByte znX9_toldByte zsX9_toldByte (show vwCl[9]? = some (RX9, TX9, 29) from rfl) zlRX9_351 ⟨Nat.le_of_ble_eq_true rfl, Nat.le_of_ble_eq_true rfl⟩ dX9_setupByte_6 hh0.1 rfl rfl (z_ai z_a0) (Nat.le_of_ble_eq_true rfl) (Nat.le_of_ble_eq_true rfl) ⟨Nat.le_refl _, Nat.le_refl _⟩ ?_
  refine t_X9_toldByte hh0 q2 ?_
  show z_Sem mX9_setupByte (sh.length, 0) 9 [(0, z_r 161), (1, z_i x1)] [z_i (f_X9_toldByte w1 x1)] (sh, w1) Q
  exact z_ret (v := some (z_i (f_X9_toldByte w1 x1))) dX9_setupByte_9 ⟨rfl, Or.inl rfl⟩ rfl rfl h
